theorem one0 : ¬ (1 : Int32) = 0 := by decide
theorem loopX {S R : Type} (F : Nat → Nat → S → R) (N : Nat) (I : Nat → S → Prop) (Q : R → Prop) (hN : N < 1000000) (hs : ∀ f j s, j < N → I j s → (∃ s', F (f + 1) j s = F f (j + 1) s' ∧ I (j + 1) s') ∨ Q (F (f + 1) j s)) (he : ∀ f s, I N s → Q (F (f + 1) N s)) (s : S) (h0 : I 0 s) : Q (F zfu 0 s) := by
  have key : ∀ k j fuel s, j + k = N → k < fuel → I j s → Q (F fuel j s) := by
    intro k
    induction k with
    | zero =>
      intro j fuel s h1 h2 hI
      obtain ⟨f, rfl⟩ : ∃ f, fuel = f + 1 := ⟨fuel - 1, by omega⟩
      have e : j = N := by omega
      subst e
      exact he f s hI
    | succ k ih =>
      intro j fuel s h1 h2 hI
      obtain ⟨f, rfl⟩ : ∃ f, fuel = f + 1 := ⟨fuel - 1, by omega⟩
      rcases hs f j s (by omega) hI with ⟨s', e, hI'⟩ | h
      · rw [e]
        exact ih (j + 1) f s' (by omega) (by omega) hI'
      · exact h
  exact key N 0 zfu s (by omega) (by unfold zfu; omega) h0
theorem sru_0 {g : Nat → Nat → Nat → Nat} (hg : ∀ w t, g w t 0 = 0) (u : Nat) : ∀ t, sru g 0 u t = 0
  | 0 => rfl
  | t + 1 => by rw [sru, sru_0 hg u t, hg]
section RG
variable {B : Nat → Nat}
theorem r_st (hW : WB B) {s0 : Nat → Nat} (hs : ∀ i, i < B 6 → s0 i < 2 ^ B 0) (u t : Nat) : pkr (nxB B) (mkp s0 (B 6)) u t < 32768 := by
  have h32 := p2_32 hW.n5
  unfold nxB
  rw [pkr_sru (gok0_stg (sh := B 1) hW.dw) hW.n5 hs u t]
  exact mkp_lt (fun i hi => Nat.lt_of_lt_of_le (sru_lt (gok0_stg (sh := B 1) hW.dw) hi (hs i hi) u t) h32) hW.nd
theorem r_good (hW : WB B) (ds u t : Nat) : pkr (nxB B) (mkp (fun d => if ds.testBit d then 2 ^ B 0 - 1 else 0) (B 6)) u t = mkp (fun d => if ds.testBit d then 2 ^ B 2 else 0) (B 6) ↔ GDs B (B 1) ds u t := by
  have h32 := p2_32 hW.n5
  have hpos := Nat.two_pow_pos (B 0)
  have hg2 : 2 ^ B 2 < 32 := Nat.lt_of_lt_of_le (Nat.pow_lt_pow_right (by decide) hW.go) h32
  unfold nxB
  rw [pkr_good (gok0_stg (sh := B 1) hW.dw) hW.n5 (fun i hi => by show (if ds.testBit i then 2 ^ B 0 - 1 else 0) < 2 ^ B 0; split <;> omega) (fun i hi => by show (if ds.testBit i then 2 ^ B 2 else 0) < 32; split <;> omega)]
  constructor
  · intro h d hd hb
    have := h d hd
    simp only [hb, if_true] at this
    exact this
  · intro h d hd
    cases hb : ds.testBit d with
    | true =>
      simp only [if_true]
      exact h d hd hb
    | false =>
      simp only [Bool.false_eq_true, if_false]
      exact sru_0 (fun w t => img_0 _ _) u t
theorem or_lane {f : Nat → Nat} {lc dn a : Nat} (hf : ∀ i, i < lc → f i < 32) (ha : a < 32) (hd : dn < lc) (h0 : f dn = 0) : mkp f lc ||| a * 2 ^ (5 * dn) = mkp (upN f dn a) lc := by
  apply Nat.eq_of_testBit_eq
  intro k
  obtain ⟨q, r, hr, rfl⟩ : ∃ q r, r < 5 ∧ k = 5 * q + r := ⟨k / 5, k % 5, Nat.mod_lt _ (by decide), by omega⟩
  have hf2 : ∀ i, i < lc → upN f dn a i < 32 := fun i hi => by
    by_cases e : i = dn
    · rw [e, upN_s]; exact ha
    · rw [upN_n _ _ e]; exact hf i hi
  rw [Nat.testBit_or, mkp_bit hf q hr, mkp_bit hf2 q hr, Nat.testBit_mul_two_pow]
  by_cases e : q = dn
  · subst e
    rw [upN_s, h0, show 5 * q + r - 5 * q = r by omega]
    simp [hd]
  · rw [upN_n _ _ e]
    have : (decide (5 * dn ≤ 5 * q + r) && a.testBit (5 * q + r - 5 * dn)) = false := by
      cases hb : (decide (5 * dn ≤ 5 * q + r) && a.testBit (5 * q + r - 5 * dn)) with
      | false => rfl
      | true =>
        rw [Bool.and_eq_true, decide_eq_true_iff] at hb
        have := bit_lt (n := 5) ha hb.2
        omega
    rw [this, Bool.or_false]
theorem r_good2 (hW : WB B) {ds dn pl : Nat} (hdn : dn < B 6) (hnb : ds.testBit dn = false) (hpl : pl < B 0) (u t : Nat) : pkr (nxB B) (mkp (upN (fun d => if ds.testBit d then 2 ^ B 0 - 1 else 0) dn (2 ^ pl)) (B 6)) u t = mkp (upN (fun d => if ds.testBit d then 2 ^ B 2 else 0) dn (2 ^ pl)) (B 6) ↔ (GDs B (B 1) ds u t ∧ sru (stg (B 1) (dg B dn) (B 0)) (2 ^ pl) u t = 2 ^ pl) := by
  have h32 := p2_32 hW.n5
  have hpos := Nat.two_pow_pos (B 0)
  have hg2 : 2 ^ B 2 < 32 := Nat.lt_of_lt_of_le (Nat.pow_lt_pow_right (by decide) hW.go) h32
  have hp2 : 2 ^ pl < 2 ^ B 0 := Nat.pow_lt_pow_right (by decide) hpl
  unfold nxB
  rw [pkr_good (gok0_stg (sh := B 1) hW.dw) hW.n5 (fun i hi => by
      by_cases e : i = dn
      · rw [e, upN_s]; exact hp2
      · rw [upN_n _ _ e]
        show (if ds.testBit i then 2 ^ B 0 - 1 else 0) < 2 ^ B 0
        split <;> omega) (fun i hi => by
      by_cases e : i = dn
      · rw [e, upN_s]; omega
      · rw [upN_n _ _ e]
        show (if ds.testBit i then 2 ^ B 2 else 0) < 32
        split <;> omega)]
  constructor
  · intro h
    refine ⟨fun d hd hb => ?_, ?_⟩
    · have := h d hd
      have e : d ≠ dn := fun z => by rw [z, hnb] at hb; cases hb
      rw [upN_n _ _ e, upN_n _ _ e] at this
      simp only [hb, if_true] at this
      exact this
    · have := h dn hdn
      rw [upN_s, upN_s] at this
      exact this
  · intro h d hd
    by_cases e : d = dn
    · rw [e, upN_s, upN_s]; exact h.2
    · rw [upN_n _ _ e, upN_n _ _ e]
      cases hb : ds.testBit d with
      | true =>
        simp only [if_true]
        exact h.1 d hd hb
      | false =>
        simp only [Bool.false_eq_true, if_false]
        exact sru_0 (fun w t => img_0 _ _) u t
theorem AnsR.iff {bb : Bool} {b0 b1 : Nat} {G G' : Nat → Nat → Prop} {r r5 r6 : Int32} (h : ∀ u t, G u t ↔ G' u t) (ha : AnsR bb b0 b1 G r r5 r6) : AnsR bb b0 b1 G' r r5 r6 := by
  rcases ha with ⟨a, b⟩ | ⟨a, b, c⟩
  · exact Or.inl ⟨a, fun u T hT hg => b u T hT ((h _ _).mpr hg)⟩
  · refine Or.inr ⟨a, fun hb => ?_, fun hb => ?_⟩
    · obtain ⟨u, T, s, q⟩ := b hb
      exact ⟨u, T, s.iff h, q⟩
    · obtain ⟨u, T, s, q⟩ := c hb
      exact ⟨u, T, s.iff h, q⟩
theorem ans_1 {b0 b1 : Nat} {G : Nat → Nat → Prop} {fl r r5 r6 : Int32} {fb ft : Nat} (h : AnsG 1 1 G fl fb ft) (k : AnsR false b0 b1 G r r5 r6) : (fl = 0 ∧ r = 0) ∨ (fl = 1 ∧ r = 1 ∧ ft < 2 ^ fb ∧ fb ≤ 20 ∧ r5 = nI fb ∧ r6 = nI (rvs ft fb)) := by
  rcases h with ⟨a, b⟩ | ⟨a, u, T, b, c, e⟩
  · rcases k with ⟨a', _⟩ | ⟨_, b', _⟩
    · exact Or.inl ⟨a, a'⟩
    · obtain ⟨u, T, s, _⟩ := b' rfl
      exact absurd s.1 (b u T s.2.1)
  · rcases k with ⟨_, b'⟩ | ⟨a', b', _⟩
    · exact absurd b.1 (b' u T b.2.1)
    · obtain ⟨v, S, s, q1, q2⟩ := b' rfl
      obtain ⟨rfl, rfl⟩ := star_uniq b s
      rw [cst_one] at c
      rw [c, e]
      exact Or.inr ⟨a, a', b.2.2.1, b.2.1, q1, q2⟩
theorem ans_2 {b0 b1 : Nat} {G : Nat → Nat → Prop} {fl r r5 r6 : Int32} {fb ft : Nat} (h : AnsG b0 b1 G fl fb ft) (k : AnsR true b0 b1 G r r5 r6) : (fl = 0 ∧ r = 0) ∨ (fl = 1 ∧ r = 1 ∧ r6 = nI fb) := by
  rcases h with ⟨a, b⟩ | ⟨a, u, T, b, c, e⟩
  · rcases k with ⟨a', _⟩ | ⟨_, _, b'⟩
    · exact Or.inl ⟨a, a'⟩
    · obtain ⟨u, T, s, _⟩ := b' rfl
      exact absurd s.1 (b u T s.2.1)
  · rcases k with ⟨_, b'⟩ | ⟨a', _, b'⟩
    · exact absurd b.1 (b' u T b.2.1)
    · obtain ⟨v, S, s, q1⟩ := b' rfl
      obtain ⟨rfl, rfl⟩ := star_uniq b s
      exact Or.inr ⟨a, a', by rw [q1, c]⟩
end RG
section MT
variable {M : zMe} {m : Nat} {sc : Nat → Int32} {lg : Nat → Int64} {ar : Nat → Nat → Int32} {en : Nat → Int64} {B : Nat → Nat} {bb : Bool}
theorem n_allP {n : Nat} (hn : n ≤ 5) : ((1 : Int32) <<< (nI n &&& 31)) - 1 = nI (2 ^ n - 1) := by
  rw [n_sh1 (by omega)]
  have hpos := Nat.two_pow_pos n
  obtain ⟨k, hk⟩ : ∃ k, 2 ^ n = k + 1 := ⟨2 ^ n - 1, by omega⟩
  rw [hk, nI_pred]
  rfl
theorem m_tames (hB : Bk (ar 0) B) (hW : WB B) {ds : Nat} (hds : ds < 2 ^ 31) (e0 : Emp 0 (ar 6) (ar 8)) (e1 : Emp 1 (ar 6) (ar 8)) : ∃ r sc' be' wa' mn', f_X12_tames m (nI ds) (bbI bb) (mmk M m sc lg ar en) = some (r, mmk M m sc' lg (arL ar be' wa' mn') en) ∧ (∀ j, j ≠ 5 → j ≠ 6 → sc' j = sc j) ∧ Emp 0 be' mn' ∧ Emp 1 be' mn' ∧ AnsR bb (B 4) (B 5) (GDs B (B 1) ds) r (sc' 5) (sc' 6) := by
  have hn5 := hW.n5
  have h32 := p2_32 hn5
  have hpos := Nat.two_pow_pos (B 0)
  have hgo := hW.go
  have hg2 : 2 ^ B 2 < 32 := Nat.lt_of_lt_of_le (Nat.pow_lt_pow_right (by decide) hgo) h32
  have hs : ∀ i, i < B 6 → (fun d => if ds.testBit d then 2 ^ B 0 - 1 else 0) i < 2 ^ B 0 := fun i _ => by
    show (if ds.testBit i then 2 ^ B 0 - 1 else 0) < 2 ^ B 0
    split <;> omega
  obtain ⟨r, sc', be', wa', mn', k1, k2, k3, k4, k5⟩ := m_leads (M := M) (m := m) (sc := sc) (lg := lg) (ar := ar) (en := en) (bb := bb) (p0 := mkp (fun d => if ds.testBit d then 2 ^ B 0 - 1 else 0) (B 6)) (tg := mkp (fun d => if ds.testBit d then 2 ^ B 2 else 0) (B 6)) hB hW (mkp_lt (fun i hi => Nat.lt_of_lt_of_le (hs i hi) h32) hW.nd) (mkp_lt (fun i _ => by show (if ds.testBit i then 2 ^ B 2 else 0) < 32; split <;> omega) hW.nd) (r_st hW hs) e0 e1
  have hr01 : r = 0 ∨ r = 1 := by
    rcases k5 with ⟨z, _⟩ | ⟨z, _⟩
    · exact Or.inl z
    · exact Or.inr z
  refine ⟨r, sc', be', wa', mn', ?_, k2, k3, k4, AnsR.iff (r_good hW ds) k5⟩
  have r0 : zrI (mmk M m sc lg ar en) (m + 1) 0 = some (nI (B 0)) := by rw [show (0 : Int32) = nI 0 from rfl, mm_rN1 (by omega), hB 0 (by omega)]
  have r2 : zrI (mmk M m sc lg ar en) (m + 1) 2 = some (nI (B 2)) := by rw [show (2 : Int32) = nI 2 from rfl, mm_rN1 (by omega), hB 2 (by omega)]
  rw [f_X12_tames, mm_gN0, Option.bind_some, r0, Option.bind_some, mm_ob, Option.bind_some, n_allP hn5, m_all hB hW.nd hds (by omega), Option.bind_some, mm_gN0, Option.bind_some, r2, Option.bind_some, mm_ob, Option.bind_some, n_sh1 (by omega), m_all hB hW.nd hds hg2, Option.bind_some, mm_ob, Option.bind_some, k1, Option.bind_some, if_pos hr01]
theorem ML.lay {P : PS} (hm : ML P sc lg ar) {sc' : Nat → Int32} {be' wa' mn' : Nat → Int32} (hs : ∀ j, j ≠ 5 → j ≠ 6 → sc' j = sc j) (e0 : Emp 0 be' mn') (e1 : Emp 1 be' mn') : ML P sc' lg (arL ar be' wa' mn') := by
  obtain ⟨h1, h2, h3, h4, h5, h6, h7, h8, h9, h10, h11, h12⟩ := hm
  exact ⟨h1, h2, by rw [hs 0 (by omega) (by omega)]; exact h3, h4, h5, h6, h7, h8, h9, h10, e0, e1⟩
end MT
section ST5
variable {M : zMe} {x : Nat} {A Z : Nat → Nat} {sr h d : Nat} {P : PS} {f : Nat → Option Nat} {tx : Nat → Int32} {fi : Nat → Option Nat}
theorem CJ.g9 (hc : CJ M x P A Z sr h d f tx fi) : zgN M x [11] 9 = some (x + 5) := by simp [zgN, zg, hc.1, xo]
theorem CJ.chob (hc : CJ M x P A Z sr h d f tx fi) : zob M (x + 5) 0 = some () := by
  obtain ⟨⟨J, I, _, _, _, _, r0, _⟩, _⟩ := hc.wk
  exact ch_ob r0
theorem Rm.k {M M' : zMe} {Z Z' : Nat → Nat} (h : Rm M M' Z Z') (sr : Nat) : RmK M M' Z Z' sr (sr + 1) := by
  obtain ⟨a, b⟩ := h
  exact ⟨by omega, by omega, by omega⟩
theorem S_tame (hc : CJ M x P A Z sr h d f tx fi) (hsr : sr + 200 < 2 ^ 20) (v w : Int32) : St M x P A Z sr (f_X11_tame x v w) (f_X12_tame (x + 31) v w) := by
  have hl := hc.hl
  have hW := hl.2.1
  have hnd := hW.nd
  have hs32 := hW.sh32
  have hg := c_g hl.1
  rcases t_case (n := P.1 6) (by omega) v with ⟨z1, z2⟩ | ⟨ds, d1, rfl⟩
  · refine St.bad hc (r := -10) ?_ (fun N sc lg ar en hm => ?_)
    · rw [f_X11_tame, c_h hc.1, Option.bind_some, c_obh hl.1, Option.bind_some, c_areDogs hl.1, Option.bind_some, z2, if_pos rfl, f_X11_tame_b20, c_obx hc.1, Option.bind_some, c_bad hc.1, Option.bind_some]
    · rw [f_X12_tame, mm_ob, Option.bind_some, m_isSet, Option.bind_some, hm.1 6 (by omega), z1, if_pos rfl, f_X12_tame_b17, mm_ob, Option.bind_some, m_ref0, Option.bind_some]
  · have hds : ds < 2 ^ 31 := Nat.lt_of_lt_of_le d1 (p2b (by omega))
    have ea : abits (nI ds) (nI (P.1 6)) = 1 := abits_ok (by omega) d1
    have em : zin (nI ds) 0 (((1 : Int32) <<< (nI (P.1 6) &&& 31)) - 1) = 1 := zin_t (by omega) d1
    rcases zin_r (a := 0) (b := 1) (by omega) (by omega) w with ⟨z1, z2⟩ | ⟨ww, -, w2, rfl⟩
    · have z1' : zin w 0 1 = 0 := z1
      refine St.bad hc (r := -10) ?_ (fun N sc lg ar en hm => ?_)
      · rw [f_X11_tame, c_h hc.1, Option.bind_some, c_obh hl.1, Option.bind_some, c_areDogs hl.1, Option.bind_some, ea, if_neg one0]
        have hb : f_X11_tame_b20 x M = some (-10, zSet M x (.inr (11, xo x h (nI P.2.1) P.2.2.1.1 P.2.2.1.2 (P.2.2.2.1 0 + 1) (P.2.2.2.1 1) (P.2.2.2.1 2)))) := by rw [f_X11_tame_b20, c_obx hc.1, Option.bind_some, c_bad hc.1, Option.bind_some]
        by_cases h0 : w < 0
        · rw [if_pos h0]; exact hb
        · rw [if_neg h0, if_neg (show ¬ w ≤ 1 from Int32.not_le.mpr (z2.resolve_left h0))]; exact hb
      · rw [f_X12_tame, mm_ob, Option.bind_some, m_isSet, Option.bind_some, hm.1 6 (by omega), em, if_neg one0, m_in, Option.bind_some, z1', if_pos rfl, f_X12_tame_b17, mm_ob, Option.bind_some, m_ref0, Option.bind_some]
    · obtain ⟨M1, M2, fl, fb, ft, A', Z', e1, e2, e3, e4, e5, e6, e7, e8, e9, e10⟩ := cj_hunt hc (by omega) (ds := ds) (sv := P.1 1) (b0 := 1) (b1 := 1) hds (by omega) ⟨by omega, by omega⟩ ⟨by omega, by omega⟩
      have e3' : f_X0_seek (x + 5) 1 1 M1 = some (fl, M2) := e3
      have hcall : f_X11_tame x (nI ds) (nI ww) M = if fl = 0 then some (-1, M2) else some (if ww = 0 then nI fb else nI ft, M2) := by
        rw [f_X11_tame, c_h hc.1, Option.bind_some, c_obh hl.1, Option.bind_some, c_areDogs hl.1, Option.bind_some, ea, if_neg one0, if_neg (nI_pos (by omega)), if_pos (show nI ww ≤ 1 from nI_le (b := 1) w2 (by omega)), hc.g9, Option.bind_some, c_h hc.1, Option.bind_some, Option.bind_some, hg.2.1, Option.bind_some, hc.chob, Option.bind_some, e1, Option.bind_some, e2.g9, Option.bind_some, e2.chob, Option.bind_some, e3', Option.bind_some, f_X11_tame_b70]
        by_cases hf : fl = 0
        · rw [if_pos hf, if_pos hf]
        · rw [if_neg hf, if_neg hf, e4.g9, Option.bind_some, e10, Option.bind_some, f_X0_shortest]
          simp only [n_eq0 (show ww < 2 ^ 31 by omega)]
          by_cases hw0 : ww = 0
          · rw [if_pos hw0, if_pos hw0, e8, Option.bind_some, f_X0_shortest_b15, Option.bind_some, f_X11_tame_b70]
          · rw [if_neg hw0, if_neg hw0, e9, Option.bind_some, f_X0_shortest_b15, Option.bind_some, f_X11_tame_b70]
      have hmod : ∀ N sc lg ar en, ML P sc lg ar → ∃ r sc' be' wa' mn', f_X12_tame (x + 31) (nI ds) (nI ww) (mmk N (x + 31) sc lg ar en) = (if r = 0 then some (-1, mmk N (x + 31) sc' lg (arL ar be' wa' mn') en) else if ww = 0 then some (sc' 5, mmk N (x + 31) sc' lg (arL ar be' wa' mn') en) else (f_X12_tune (x + 31) (mmk N (x + 31) sc' lg (arL ar be' wa' mn') en)).bind fun q4 => f_X12_tame_b53 q4.1 q4.2) ∧ ML P sc' lg (arL ar be' wa' mn') ∧ AnsR false (P.1 4) (P.1 5) (GDs P.1 (P.1 1) ds) r (sc' 5) (sc' 6) := fun N sc lg ar en hm => by
        obtain ⟨r, sc', be', wa', mn', k1, k2, k3, k4, k5⟩ := m_tames (M := N) (m := x + 31) (sc := sc) (lg := lg) (en := en) (bb := false) hm.1 hW hds hm.2.2.2.2.2.2.2.2.2.2.1 hm.2.2.2.2.2.2.2.2.2.2.2
        refine ⟨r, sc', be', wa', mn', ?_, hm.lay k2 k3 k4, k5⟩
        have k1' : f_X12_tames (x + 31) (nI ds) 0 (mmk N (x + 31) sc lg ar en) = some (r, mmk N (x + 31) sc' lg (arL ar be' wa' mn') en) := k1
        have zw : zin (nI ww) 0 1 = 1 := zin_k (a := 0) (b := 1) (by omega) (by omega) w2
        rw [f_X12_tame, mm_ob, Option.bind_some, m_isSet, Option.bind_some, hm.1 6 (by omega), em, if_neg one0, m_in, Option.bind_some, zw, if_neg one0, mm_ob, Option.bind_some, k1', Option.bind_some]
        simp only [n_eq0 (show ww < 2 ^ 31 by omega)]
        rw [f_X12_tame_b53, mm_gI16, Option.bind_some, mm_ob, Option.bind_some, f_X12_tame_b53]
      by_cases hf : fl = 0
      · rw [if_pos hf] at hcall
        refine ⟨-1, M2, P, A', Z', sr + 1, hcall, e4.ci, e5.mk hc.wk hc.m44, e6.k sr, fun N sc lg ar en hm => ?_⟩
        obtain ⟨r, sc', be', wa', mn', k1, k2, k3⟩ := hmod N sc lg ar en hm
        refine ⟨sc', lg, _, en, ?_, k2⟩
        rcases ans_1 e7 k3 with ⟨_, q⟩ | ⟨q, _⟩
        · rw [k1, if_pos q]
        · rw [hf] at q; exact absurd q (by decide)
      · rw [if_neg hf] at hcall
        refine ⟨_, M2, P, A', Z', sr + 1, hcall, e4.ci, e5.mk hc.wk hc.m44, e6.k sr, fun N sc lg ar en hm => ?_⟩
        obtain ⟨r, sc', be', wa', mn', k1, k2, k3⟩ := hmod N sc lg ar en hm
        refine ⟨sc', lg, _, en, ?_, k2⟩
        rcases ans_1 e7 k3 with ⟨q, _⟩ | ⟨_, q1, q2, q3, q4, q5⟩
        · exact absurd q hf
        · rw [k1, if_neg (by rw [q1]; decide), m_tune q2 q3 q4 q5, Option.bind_some, q4]
          by_cases hw0 : ww = 0
          · rw [if_pos hw0, if_pos hw0]
          · rw [if_neg hw0, if_neg hw0, f_X12_tame_b53]
theorem S_quiet (hc : CJ M x P A Z sr h d f tx fi) (hsr : sr + 200 < 2 ^ 20) (v : Int32) : St M x P A Z sr (f_X11_quiet x v) (f_X12_quiet (x + 31) v) := by
  have hl := hc.hl
  have hW := hl.2.1
  have hnd := hW.nd
  have hs32 := hW.sh32
  have hg := c_g hl.1
  rcases t_case (n := P.1 6) (by omega) v with ⟨z1, z2⟩ | ⟨ds, d1, rfl⟩
  · refine St.bad hc (r := -2) ?_ (fun N sc lg ar en hm => ?_)
    · rw [f_X11_quiet, c_h hc.1, Option.bind_some, c_obh hl.1, Option.bind_some, c_areDogs hl.1, Option.bind_some, z2, if_pos rfl, c_obx hc.1, Option.bind_some, c_bad hc.1, Option.bind_some]
    · rw [f_X12_quiet, mm_ob, Option.bind_some, m_isSet, Option.bind_some, hm.1 6 (by omega), z1, if_pos rfl, mm_ob, Option.bind_some, m_bad, Option.bind_some, f_X12_quiet_b32]
  · have hds : ds < 2 ^ 31 := Nat.lt_of_lt_of_le d1 (p2b (by omega))
    have ea : abits (nI ds) (nI (P.1 6)) = 1 := abits_ok (by omega) d1
    have em : zin (nI ds) 0 (((1 : Int32) <<< (nI (P.1 6) &&& 31)) - 1) = 1 := zin_t (by omega) d1
    obtain ⟨M1, M2, fl, fb, ft, A', Z', e1, e2, e3, e4, e5, e6, e7, e8, e9, e10⟩ := cj_hunt hc (by omega) (ds := ds) (sv := P.1 1) (b0 := P.1 4) (b1 := P.1 5) hds (by omega) hW.b4 hW.b5
    have hg1 := c_g e2.hl.1
    have hcall : f_X11_quiet x (nI ds) M = if fl = 0 then some (-1, M2) else some (nI fb, M2) := by
      rw [f_X11_quiet, c_h hc.1, Option.bind_some, c_obh hl.1, Option.bind_some, c_areDogs hl.1, Option.bind_some, ea, if_neg one0, hc.g9, Option.bind_some, c_h hc.1, Option.bind_some, Option.bind_some, hg.2.1, Option.bind_some, hc.chob, Option.bind_some, e1, Option.bind_some, e2.g9, Option.bind_some, c_h e2.1, Option.bind_some, hg1.2.2.2.2.1, Option.bind_some, Option.bind_some, hg1.2.2.2.2.2.1, Option.bind_some, e2.chob, Option.bind_some, e3, Option.bind_some, f_X11_quiet_b72]
      by_cases hf : fl = 0
      · rw [if_pos hf, if_pos hf]
      · rw [if_neg hf, if_neg hf, e4.g9, Option.bind_some, e10, Option.bind_some, f_X0_leastBreathFound, e8, Option.bind_some, Option.bind_some, f_X11_quiet_b72]
    have hmod : ∀ N sc lg ar en, ML P sc lg ar → ∃ r sc' be' wa' mn', f_X12_quiet (x + 31) (nI ds) (mmk N (x + 31) sc lg ar en) = (if r = 0 then some (-1, mmk N (x + 31) sc' lg (arL ar be' wa' mn') en) else some (sc' 6, mmk N (x + 31) sc' lg (arL ar be' wa' mn') en)) ∧ ML P sc' lg (arL ar be' wa' mn') ∧ AnsR true (P.1 4) (P.1 5) (GDs P.1 (P.1 1) ds) r (sc' 5) (sc' 6) := fun N sc lg ar en hm => by
      obtain ⟨r, sc', be', wa', mn', k1, k2, k3, k4, k5⟩ := m_tames (M := N) (m := x + 31) (sc := sc) (lg := lg) (en := en) (bb := true) hm.1 hW hds hm.2.2.2.2.2.2.2.2.2.2.1 hm.2.2.2.2.2.2.2.2.2.2.2
      refine ⟨r, sc', be', wa', mn', ?_, hm.lay k2 k3 k4, k5⟩
      have k1' : f_X12_tames (x + 31) (nI ds) 1 (mmk N (x + 31) sc lg ar en) = some (r, mmk N (x + 31) sc' lg (arL ar be' wa' mn') en) := k1
      rw [f_X12_quiet, mm_ob, Option.bind_some, m_isSet, Option.bind_some, hm.1 6 (by omega), em, if_neg one0, mm_ob, Option.bind_some, k1', Option.bind_some, f_X12_quiet_b32, mm_gI17, Option.bind_some, f_X12_quiet_b32]
    by_cases hf : fl = 0
    · rw [if_pos hf] at hcall
      refine ⟨-1, M2, P, A', Z', sr + 1, hcall, e4.ci, e5.mk hc.wk hc.m44, e6.k sr, fun N sc lg ar en hm => ?_⟩
      obtain ⟨r, sc', be', wa', mn', k1, k2, k3⟩ := hmod N sc lg ar en hm
      refine ⟨sc', lg, _, en, ?_, k2⟩
      rcases ans_2 e7 k3 with ⟨_, q⟩ | ⟨q, _⟩
      · rw [k1, if_pos q]
      · rw [hf] at q; exact absurd q (by decide)
    · rw [if_neg hf] at hcall
      refine ⟨_, M2, P, A', Z', sr + 1, hcall, e4.ci, e5.mk hc.wk hc.m44, e6.k sr, fun N sc lg ar en hm => ?_⟩
      obtain ⟨r, sc', be', wa', mn', k1, k2, k3⟩ := hmod N sc lg ar en hm
      refine ⟨sc', lg, _, en, ?_, k2⟩
      rcases ans_2 e7 k3 with ⟨q, _⟩ | ⟨_, q1, q2⟩
      · exact absurd q hf
      · rw [k1, if_neg (by rw [q1]; decide), q2]
end ST5
