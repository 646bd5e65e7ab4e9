/-- what a search answers, of a wish G -/
def AnsG (b0 b1 : Nat) (G : Nat → Nat → Prop) (f : Int32) (fb ft : Nat) : Prop := (f = 0 ∧ ∀ u T, T ≤ 20 → ¬ G u T) ∨ (f = 1 ∧ ∃ u T, Star b0 b1 G u T ∧ fb = cst b0 b1 u T ∧ ft = u)
theorem AnsG.iff {b0 b1 : Nat} {G G' : Nat → Nat → Prop} {f : Int32} {fb ft : Nat} (h : ∀ u t, G u t ↔ G' u t) (ha : AnsG b0 b1 G f fb ft) : AnsG b0 b1 G' f fb ft := by
  rcases ha with ⟨a, b⟩ | ⟨a, u, T, b, c⟩
  · exact Or.inl ⟨a, fun u T hT hg => b u T hT ((h _ _).mpr hg)⟩
  · exact Or.inr ⟨a, u, T, b.iff h, c⟩
def LRs (M : zMe) (c : Nat) : Prop := (∃ f, M.1 (c + 1) = some (lnA f) ∧ ∀ i, i < 3 → f i = some (c + 2 + 4 * i)) ∧ ∀ i, i < 3 → LnR M (c + 2 + 4 * i)
theorem LRs.kept {M M' : zMe} {c : Nat} (h : LRs M c) (hq : ∀ q, c + 1 ≤ q → q ≤ c + 13 → M'.1 q = M.1 q) : LRs M' c := by
  obtain ⟨⟨f, h1, h2⟩, h4⟩ := h
  exact ⟨⟨f, by rw [hq _ (by omega) (by omega)]; exact h1, h2⟩, fun i hi => (h4 i hi).kept (fun q a b => hq q (by omega) (by omega))⟩
theorem FL.lrs {M0 M : zMe} {c lc n sh sp od ae al : Nat} {tg : Nat → Nat} {D : Nat → Nat → Nat} {X : Nat → Nat} (h : FL M0 M c lc n sh sp od tg D ae al X) : LRs M c := by
  obtain ⟨h0, hL, hr, h2, hq⟩ := h
  refine ⟨hL.1, fun i hi => ?_⟩
  by_cases e : i < lc
  · exact (hL.2 i e).rest
  · exact hr i (by omega) hi
section HU
variable {M0 M : zMe} {c lc n sh sp od : Nat} {tg : Nat → Nat} {D : Nat → Nat → Nat} {X J A Z : Nat → Nat} {sr b0 b1 : Nat} {s0 : Nat → Nat}
theorem FL.kr (h : FL M0 M c lc n sh sp od tg D (A 1) (A 2) X) (hR : KR M0 c J A Z sr) : KR M c (upN (upN (upN (upN J 0 lc) 1 sp) 2 od) 3 (X 1)) A Z sr := by
  obtain ⟨h0, hL, hr, h2, hq⟩ := h
  obtain ⟨I, fe, fl, fs, v, r0, r1, r2, r3, r4, r5, r6, r7, r8, r9, r10, r11⟩ := hR
  have n0 := (r10 0 (by omega)).1
  have n1 := (r10 1 (by omega)).1
  have n2 := (r10 2 (by omega)).1
  refine ⟨fun i => if i = 0 then X 0 else if i = 1 then X 2 else if i = 2 then X 3 else I i, fe, fl, fs, v, h0, ?_, ?_, ?_, ?_, r5, r6, r7, r8, r9, fun i hi => by rw [h2]; exact r10 i hi, by rw [h2]; exact r11⟩
  · rw [hq _ (by omega) (by omega)]; exact r1
  · rw [hq _ (by omega) (by omega)]; exact r2
  · rw [hq _ (by omega) (by omega)]; exact r3
  · rw [hq _ (by omega) (by omega)]; exact r4
theorem k_hunt (h : FL M0 M c lc n sh sp od tg D (A 1) (A 2) X) (hR : KR M0 c J A Z sr) (hsr : sr + 1 < 2 ^ 20) (hn : n ≤ 5) (hlc : lc ≤ 3) (hD : ∀ i, i < lc → DW n (D i)) (hs : ∀ i, i < lc → 1 ≤ s0 i ∧ s0 i < 2 ^ n) (htg : ∀ i, i < lc → tg i < 32) (hsp : sp = mkp s0 lc) (hod : od ≤ 1 ∧ (od = 0 → ∀ i, i < lc → ¬ (D i 0 = 1 ∨ D i 0 = 4))) (hb0 : 1 ≤ b0 ∧ b0 ≤ 9) (hb1 : 1 ≤ b1 ∧ b1 ≤ 9) : ∃ f M' J' A' Z' fb ft, f_X0_seek c (nI b0) (nI b1) M = some (f, M') ∧ KR M' c J' A' Z' (sr + 1) ∧ KFr M M' c A A' Z Z' ∧ LRs M' c ∧ AnsG b0 b1 (fun u t => ∀ i, i < lc → sru (stg sh (D i) n) (s0 i) u t = tg i) f fb ft ∧ zgI M' c [0] 9 = some (nI fb) ∧ zgI M' c [0] 10 = some (nI ft) ∧ zob M' c 0 = some () := by
  have hK := h.kr hR
  have hlr := h.lrs
  have k9 := (show ∀ i, i < 3 → (A i < c ∨ c + 14 < A i) ∧ A i < M.2.1 by obtain ⟨_, _, _, _, _, _, _, _, _, _, _, _, _, _, _, h, _⟩ := hK; exact h)
  have k10 : c + 14 < M.2.1 := by obtain ⟨_, _, _, _, _, _, _, _, _, _, _, _, _, _, _, _, h⟩ := hK; exact h
  have fr : ∀ {M' : zMe} {A' Z' : Nat → Nat}, KFr M M' c A A' Z Z' → LRs M' c := fun hF => hlr.kept (fun q q1 q2 => hF.2.1 q (by omega) (by omega) (by omega) (fun i hi z => by have := (k9 i hi).1; omega))
  by_cases h0 : lc = 0
  · subst h0
    obtain ⟨M', J', A', Z', e1, e2, e3, e4, e5, e6⟩ := k_seek0 (b0 := b0) (b1 := b1) (J := upN (upN (upN (upN J 0 0) 1 sp) 2 od) 3 (X 1)) rfl h.2.1 hn hsp hK hsr
    refine ⟨1, M', J', A', Z', 0, 0, e1, e2, e3, fr e3, Or.inr ⟨rfl, 0, 0, ⟨fun i hi => by omega, by omega, by decide, fun v t _ _ => ?_⟩, rfl, rfl⟩, e4, e5, e6⟩
    have c0 : cst b0 b1 0 0 = 0 := rfl
    have r0 : rvs 0 0 = 0 := rfl
    rw [c0, r0]
    omega
  · have hC : CX lc n sh od b0 b1 D s0 tg := ⟨hD, hn, hs, htg, by omega, hlc, hod.2, hod.1, hb0, hb1⟩
    obtain ⟨f, M', J', A', Z', fb, ft, e1, e2, e3, e4, e5, e6, e7⟩ := k_seek (J := upN (upN (upN (upN J 0 lc) 1 sp) 2 od) 3 (X 1)) hC rfl hsp h.2.1 hK hsr
    refine ⟨f, M', J', A', Z', fb, ft, e1, e2, e3, fr e3, ?_, e5, e6, e7⟩
    have hg := pkr_good (g := fun i => stg sh (D i) n) (gok0_stg (sh := sh) hD) hn (fun i hi => (hs i hi).2) htg
    exact AnsG.iff (fun u t => hg u t) e4
end HU
section FW
variable {M : zMe} {c h d n : Nat} {B : Nat → Nat} {f : Nat → Option Nat} {J A Z : Nat → Nat} {sr : Nat}
theorem k_follow (hR : KR M c J A Z sr) (hl : LRs M c) (hh : M.1 h = some (.inr (2, ho (nB B) d))) (hd : M.1 d = some (dgA f)) (hW : WB B) (hf : ∀ k, k < B 6 → ∃ a, f k = some a ∧ M.1 a = some (dogCell (dg B k)) ∧ (a < c ∨ c + 13 < a)) (h1 : h < c ∨ c + 13 < h) (h2 : d < c ∨ c + 13 < d) {ds sv : Nat} (hds : ds < 2 ^ 31) (hsv : sv < 2 ^ 31) : ∃ (M' : zMe) (lc : Nat) (fn : Nat → Nat) (sp od : Nat) (tg : Nat → Nat) (D : Nat → Nat → Nat) (X : Nat → Nat), f_X0_follow c h (nI ds) (nI sv) M = some M' ∧ FL M M' c lc (B 0) sv sp od tg D (A 1) (A 2) X ∧ (∀ i, i < lc → tg i = 2 ^ B 2 ∧ D i = dg B (fn i)) ∧ lc ≤ B 6 ∧ sp = mkp (fun _ => 2 ^ B 0 - 1) lc ∧ od ≤ 1 ∧ (od = 0 → ∀ i, i < lc → ¬ (D i 0 = 1 ∨ D i 0 = 4)) ∧ (∀ i, i < lc → fn i < B 6 ∧ ds.testBit (fn i) = true) ∧ (∀ k, k < B 6 → ds.testBit k = true → ∃ i, i < lc ∧ fn i = k) ∧ (∀ a b, a < b → b < lc → fn a ≠ fn b) := by
  obtain ⟨I, fe, fl, fs, v, r0, -, -, -, -, -, -, -, -, -, -, -⟩ := hR
  have hn5 := hW.n5
  have hnd := hW.nd
  have h32 := p2_32 hn5
  have hpos := Nat.two_pow_pos (B 0)
  have hgo := hW.go
  have hg2 : 2 ^ B 2 < 32 := Nat.lt_of_lt_of_le (Nat.pow_lt_pow_right (by decide) hgo) h32
  obtain ⟨M1, hM1⟩ : ∃ M1, M1 = zSet M c (.inr (0, chF c (A 1) (A 2) 0 0 0 (I 0) (J 3) (I 1) (I 2))) := ⟨_, rfl⟩
  have start : f_X0_follow c h (nI ds) (nI sv) M = f_X0_follow_b18 zfu c h (nI ds) (nI sv) 0 M1 := by
    have p2 := ch_p2 r0 0
    have p3 := ch_p3 (M := zSet M c (.inr (0, chF c (A 1) (A 2) 0 (J 1) (J 2) (I 0) (J 3) (I 1) (I 2)))) (c := c) (zS_s _ _ _) 0
    have p4 := ch_p4 (M := zSet (zSet M c (.inr (0, chF c (A 1) (A 2) 0 (J 1) (J 2) (I 0) (J 3) (I 1) (I 2)))) c (.inr (0, chF c (A 1) (A 2) 0 0 (J 2) (I 0) (J 3) (I 1) (I 2)))) (c := c) (zS_s _ _ _) (v := 0) (by omega)
    rw [nI_0] at p2 p3 p4
    rw [f_X0_follow, p2, Option.bind_some, p3, Option.bind_some, p4, Option.bind_some, zSS, zSS, ← hM1]
  have lp := loopC (S := zMe) (S' := zMe) (R := Option zMe) (fun fuel j N => f_X0_follow_b18 fuel c h (nI ds) (nI sv) (nI j) N) (fun N => some N) 3
    (fun j N => ∃ (lc : Nat) (fn : Nat → Nat) (sp od : Nat) (tg : Nat → Nat) (D : Nat → Nat → Nat), FL M N c lc (B 0) sv sp od tg D (A 1) (A 2) (fun i => if i = 0 then I 0 else if i = 1 then J 3 else if i = 2 then I 1 else I 2) ∧ (∀ i, i < lc → tg i = 2 ^ B 2 ∧ D i = dg B (fn i)) ∧ lc ≤ j ∧ sp = mkp (fun _ => 2 ^ B 0 - 1) lc ∧ od ≤ 1 ∧ (od = 0 → ∀ i, i < lc → ¬ (D i 0 = 1 ∨ D i 0 = 4)) ∧ (∀ i, i < lc → fn i < B 6 ∧ fn i < j ∧ ds.testBit (fn i) = true) ∧ (∀ k, k < B 6 → k < j → ds.testBit k = true → ∃ i, i < lc ∧ fn i = k) ∧ lc ≤ B 6 ∧ (∀ a b, a < b → b < lc → fn a ≠ fn b))
    (fun N => ∃ (lc : Nat) (fn : Nat → Nat) (sp od : Nat) (tg : Nat → Nat) (D : Nat → Nat → Nat), FL M N c lc (B 0) sv sp od tg D (A 1) (A 2) (fun i => if i = 0 then I 0 else if i = 1 then J 3 else if i = 2 then I 1 else I 2) ∧ (∀ i, i < lc → tg i = 2 ^ B 2 ∧ D i = dg B (fn i)) ∧ lc ≤ B 6 ∧ sp = mkp (fun _ => 2 ^ B 0 - 1) lc ∧ od ≤ 1 ∧ (od = 0 → ∀ i, i < lc → ¬ (D i 0 = 1 ∨ D i 0 = 4)) ∧ (∀ i, i < lc → fn i < B 6 ∧ ds.testBit (fn i) = true) ∧ (∀ k, k < B 6 → ds.testBit k = true → ∃ i, i < lc ∧ fn i = k) ∧ (∀ a b, a < b → b < lc → fn a ≠ fn b))
    (by omega) (fun fu j N hj hI => ?_) (fun fu N hI => ?_) M1 ⟨0, fun _ => 0, 0, 0, fun _ => 0, fun _ _ => 0, ⟨by rw [hM1]; exact zS_s _ _ _, ⟨?_, fun i hi => by omega⟩, fun i _ hi => ?_, by rw [hM1]; rfl, fun q q1 q2 => by rw [hM1, zS_n _ _ q1]⟩, fun i hi => by omega, Nat.le_refl _, rfl, by omega, fun _ i hi => by omega, fun i hi => by omega, fun k _ hk => by omega, Nat.zero_le _, fun a b _ hb => by omega⟩
  · obtain ⟨M', e, lc, fn, sp, od, tg, D, y⟩ := lp
    have e' : f_X0_follow_b18 zfu c h (nI ds) (nI sv) (nI 0) M1 = some M' := e
    rw [nI_0] at e'
    exact ⟨M', lc, fn, sp, od, tg, D, _, by rw [start]; exact e', y⟩
  · obtain ⟨lc, fn, sp, od, tg, D, y1, y2, y3, y4, y5, y6, y7, y8, y9, y10⟩ := hI
    have hhN : N.1 h = some (.inr (2, ho (nB B) d)) := by rw [y1.2.2.2.2 h (by omega) (by omega)]; exact hh
    have hdN : N.1 d = some (dgA f) := by rw [y1.2.2.2.2 d (by omega) (by omega)]; exact hd
    have skip : (¬ (j < B 6 ∧ ds.testBit j = true)) → ∃ s', f_X0_follow_b64 (f_X0_follow_b18 fu) c h (nI ds) (nI sv) (nI j) N = f_X0_follow_b18 fu c h (nI ds) (nI sv) (nI (j + 1)) s' ∧ ∃ (lc : Nat) (fn : Nat → Nat) (sp od : Nat) (tg : Nat → Nat) (D : Nat → Nat → Nat), FL M s' c lc (B 0) sv sp od tg D (A 1) (A 2) (fun i => if i = 0 then I 0 else if i = 1 then J 3 else if i = 2 then I 1 else I 2) ∧ (∀ i, i < lc → tg i = 2 ^ B 2 ∧ D i = dg B (fn i)) ∧ lc ≤ j + 1 ∧ sp = mkp (fun _ => 2 ^ B 0 - 1) lc ∧ od ≤ 1 ∧ (od = 0 → ∀ i, i < lc → ¬ (D i 0 = 1 ∨ D i 0 = 4)) ∧ (∀ i, i < lc → fn i < B 6 ∧ fn i < j + 1 ∧ ds.testBit (fn i) = true) ∧ (∀ k, k < B 6 → k < j + 1 → ds.testBit k = true → ∃ i, i < lc ∧ fn i = k) ∧ lc ≤ B 6 ∧ (∀ a b, a < b → b < lc → fn a ≠ fn b) := by
      intro hno
      refine ⟨N, by rw [f_X0_follow_b64, zlet, nI_1], lc, fn, sp, od, tg, D, y1, y2, by omega, y4, y5, y6, fun i hi => ⟨(y7 i hi).1, by have := (y7 i hi).2.1; omega, (y7 i hi).2.2⟩, fun k k1 k2 k3 => ?_, y9, y10⟩
      by_cases e : k = j
      · subst e; exact absurd ⟨k1, k3⟩ hno
      · exact y8 k k1 (by omega) k3
    show ∃ s', f_X0_follow_b18 (fu + 1) c h (nI ds) (nI sv) (nI j) N = f_X0_follow_b18 fu c h (nI ds) (nI sv) (nI (j + 1)) s' ∧ _
    rw [f_X0_follow_b18, if_neg (show ¬ (3 : Int32) ≤ nI j from nI_ge (b := 3) hj (by omega)), c_obh hhN, Option.bind_some]
    by_cases hjn : j < B 6
    · obtain ⟨a, a1, a2, a3⟩ := hf j hjn
      have haN : N.1 a = some (dogCell (dg B j)) := by rw [y1.2.2.2.2 a (by omega) (by omega)]; exact a2
      rw [c_dogAt_ok hhN hdN hnd hjn, Option.bind_some, a1, zcase, c_holds, Option.bind_some, n_hold hds (by omega)]
      cases hb : ds.testBit j with
      | false =>
        simp only [Bool.false_eq_true, if_false, if_true]
        exact skip (fun z => by rw [hb] at z; cases z.2)
      | true =>
        simp only [if_true]
        have hg := c_g hhN
        have eall : ((1 : Int32) <<< (nB B 0 &&& 31)) - 1 = nI (2 ^ B 0 - 1) := by
          show ((1 : Int32) <<< (nI (B 0) &&& 31)) - 1 = _
          rw [n_sh1 (by omega)]
          obtain ⟨k, hk⟩ : ∃ k, 2 ^ B 0 = k + 1 := ⟨2 ^ B 0 - 1, by omega⟩
          rw [hk, nI_pred]
          rfl
        have hspl : sp < 32768 := by
          rw [y4]
          exact mkp_lt (fun i _ => by show 2 ^ B 0 - 1 < 32; omega) (by omega)
        obtain ⟨M', g1, g2⟩ := f_add y1 (show lc < 3 by omega) (start := 2 ^ B 0 - 1) (target := 2 ^ B 2) haN (hW.dw j hjn) hhN rfl hn5 hsv (by omega) hg2 y5 hspl
        rw [if_neg (by decide), c_obh hhN, Option.bind_some, c_all hhN, Option.bind_some, hg.2.2.1, Option.bind_some, ch_ob y1.1, Option.bind_some, eall, n_sh1 (by omega), g1, Option.bind_some, f_X0_follow_b64, zlet, nI_1]
        refine ⟨M', rfl, lc + 1, upN fn lc j, _, _, _, _, g2, fun i hi => ?_, by omega, ?_, ?_, ?_, fun i hi => ?_, fun k k1 k2 k3 => ?_, by omega, fun a b hab hb2 => ?_⟩
        · by_cases e : i = lc
          · rw [e, upN_s, upN_s, if_pos rfl]; exact ⟨rfl, rfl⟩
          · rw [upN_n _ _ e, upN_n _ _ e, if_neg e]; exact y2 i (by omega)
        · rw [y4]; rfl
        · split <;> omega
        · intro hz i hi
          by_cases e : i = lc
          · rw [if_pos e]
            intro o
            rw [if_pos (Or.inr o)] at hz
            cases hz
          · rw [if_neg e]
            refine y6 ?_ i (by omega)
            apply Classical.byContradiction
            intro z
            rw [if_pos (Or.inl (by omega))] at hz
            cases hz
        · by_cases e : i = lc
          · rw [e, upN_s]; exact ⟨hjn, by omega, hb⟩
          · rw [upN_n _ _ e]
            have := y7 i (by omega)
            exact ⟨this.1, by omega, this.2.2⟩
        · by_cases e : k = j
          · exact ⟨lc, by omega, by rw [upN_s, e]⟩
          · obtain ⟨i, i1, i2⟩ := y8 k k1 (by omega) k3
            exact ⟨i, by omega, by rw [upN_n _ _ (by omega)]; exact i2⟩
        · by_cases e : b = lc
          · rw [e, upN_s, upN_n _ _ (by omega)]
            have := (y7 a (by omega)).2.1
            omega
          · rw [upN_n _ _ e, upN_n _ _ (by omega)]; exact y10 a b hab (by omega)
    · rw [c_dogAt_no hhN (Or.inr (nI_le (by omega) (by omega))), Option.bind_some, zcase]
      exact skip (fun z => hjn z.1)
  · obtain ⟨lc, fn, sp, od, tg, D, y1, y2, y3, y4, y5, y6, y7, y8, y9, y10⟩ := hI
    refine ⟨N, ?_, lc, fn, sp, od, tg, D, y1, y2, y9, y4, y5, y6, fun i hi => ⟨(y7 i hi).1, (y7 i hi).2.2⟩, fun k k1 k2 => y8 k k1 (by omega) k2, y10⟩
    show f_X0_follow_b18 (fu + 1) c h (nI ds) (nI sv) (nI 3) N = some N
    rw [f_X0_follow_b18, if_pos (show (3 : Int32) ≤ nI 3 by decide)]
  · obtain ⟨g, g1, g2⟩ := hl.1
    exact ⟨g, by rw [hM1, zS_n _ _ (by omega)]; exact g1, g2⟩
  · exact (hl.2 i hi).kept (fun q a b => by rw [hM1, zS_n _ _ (by omega)])
end FW
