def Sel (B : Nat → Nat) (ds s q : Nat) : Prop := pc5 q = s ∧ q.testBit (B 2) = false ∧ ∃ u T, T ≤ 20 ∧ GDs B q ds u T
def Chr (n : Nat) (S : Nat → Nat → Prop) (r : Int32) : Prop := (r = -1 ∧ ∀ s, s < n → ∀ q, q < 2 ^ n → ¬ S s q) ∨ ∃ s q, s < n ∧ q < 2 ^ n ∧ r = nI q ∧ S s q ∧ (∀ s' q', s' < s → q' < 2 ^ n → ¬ S s' q') ∧ (∀ q', q' < q → ¬ S s q')
theorem Chr.uniq {n : Nat} {S : Nat → Nat → Prop} {r r' : Int32} (h : Chr n S r) (k : Chr n S r') : r = r' := by
  rcases h with ⟨h1, h2⟩ | ⟨s, q, h1, h2, h3, h4, h5, h6⟩
  · rcases k with ⟨k1, k2⟩ | ⟨s', q', k1, k2, k3, k4, k5, k6⟩
    · rw [h1, k1]
    · exact absurd k4 (h2 s' k1 q' k2)
  · rcases k with ⟨k1, k2⟩ | ⟨s', q', k1, k2, k3, k4, k5, k6⟩
    · exact absurd h4 (k2 s h1 q h2)
    · have es : s = s' := by
        rcases Nat.lt_trichotomy s s' with z | z | z
        · exact absurd h4 (k5 s q z h2)
        · exact z
        · exact absurd k4 (h5 s' q' z k2)
      subst es
      have eq : q = q' := by
        rcases Nat.lt_trichotomy q q' with z | z | z
        · exact absurd h4 (k6 q z)
        · exact z
        · exact absurd k4 (h6 q' z)
      rw [h3, k3, eq]
theorem Rm.trans {M M1 M2 : zMe} {Z Z1 Z2 : Nat → Nat} (h : Rm M M1 Z Z1) (k : Rm M1 M2 Z1 Z2) : Rm M M2 Z Z2 := by
  obtain ⟨a, b⟩ := h
  obtain ⟨c, e⟩ := k
  exact ⟨by omega, by omega⟩
section SH
variable {M0 M : zMe} {x : Nat} {A Z : Nat → Nat} {sr h d : Nat} {P : PS} {f : Nat → Option Nat} {tx : Nat → Int32} {fi : Nat → Option Nat}
/-- the class's state within shuts, after k searches at most -/
def CS (M0 M : zMe) (x : Nat) (P : PS) (Z : Nat → Nat) (sr h d : Nat) (f : Nat → Option Nat) (tx : Nat → Int32) (fi : Nat → Option Nat) (k : Nat) : Prop := ∃ A' Z' sr', CJ M x P A' Z' sr' h d f tx fi ∧ Mk M0 M x ∧ Rm M0 M Z Z' ∧ sr' ≤ sr + k
theorem CS.up {k k' : Nat} (hc : CS M0 M x P Z sr h d f tx fi k) (hk : k ≤ k') : CS M0 M x P Z sr h d f tx fi k' := by
  obtain ⟨A', Z', sr', c1, c2, c3, c4⟩ := hc
  exact ⟨A', Z', sr', c1, c2, c3, by omega⟩
theorem c_shI (k28 : Nat → Int32 → Int32 → Int32 → zMe → Option (Int32 × zMe)) (hsr : sr + 200 < 2 ^ 20) {ds s k0 : Nat} (hds : ds < 2 ^ 31) (hs : s < 5) (hk : k0 + 32 ≤ 160) (hc : CS M0 M x P Z sr h d f tx fi k0) : (∃ q M', f_X11_shuts_b42 k28 zfu x (nI ds) (nI (2 ^ P.1 0 - 1)) (nI s) (nI 0) M = some (nI q, M') ∧ q < 2 ^ P.1 0 ∧ Sel P.1 ds s q ∧ (∀ q', q' < q → ¬ Sel P.1 ds s q') ∧ CS M0 M' x P Z sr h d f tx fi (k0 + 32)) ∨ (∃ M', f_X11_shuts_b42 k28 zfu x (nI ds) (nI (2 ^ P.1 0 - 1)) (nI s) (nI 0) M = k28 x (nI ds) (nI (2 ^ P.1 0 - 1)) (nI (s + 1)) M' ∧ (∀ q', q' < 2 ^ P.1 0 → ¬ Sel P.1 ds s q') ∧ CS M0 M' x P Z sr h d f tx fi (k0 + 32)) := by
  have hW : WB P.1 := by obtain ⟨_, _, _, c1, _⟩ := hc; exact c1.wb
  have hn5 := hW.n5
  have h32 := p2_32 hn5
  have hpos := Nat.two_pow_pos (P.1 0)
  have hgo := hW.go
  refine loopX (S := zMe) (R := Option (Int32 × zMe)) (fun fuel j N => f_X11_shuts_b42 k28 fuel x (nI ds) (nI (2 ^ P.1 0 - 1)) (nI s) (nI j) N) (2 ^ P.1 0) (fun j N => (∀ q', q' < j → ¬ Sel P.1 ds s q') ∧ CS M0 N x P Z sr h d f tx fi (k0 + j)) (fun R => (∃ q M', R = some (nI q, M') ∧ q < 2 ^ P.1 0 ∧ Sel P.1 ds s q ∧ (∀ q', q' < q → ¬ Sel P.1 ds s q') ∧ CS M0 M' x P Z sr h d f tx fi (k0 + 32)) ∨ (∃ M', R = k28 x (nI ds) (nI (2 ^ P.1 0 - 1)) (nI (s + 1)) M' ∧ (∀ q', q' < 2 ^ P.1 0 → ¬ Sel P.1 ds s q') ∧ CS M0 M' x P Z sr h d f tx fi (k0 + 32))) (by omega) (fun fu j N hj hI => ?_) (fun fu N hI => ?_) M ⟨fun q hq => by omega, hc⟩
  · obtain ⟨i1, i2⟩ := hI
    have i2' := i2
    obtain ⟨A', Z', sr', c1, c2, c3, c4⟩ := i2
    have hl := c1.hl
    have hg := c_g hl.1
    have hp5 : pc5 j < 2 ^ 31 := by unfold pc5; omega
    have skip : ¬ Sel P.1 ds s j → (∃ s', f_X11_shuts_b104 k28 (f_X11_shuts_b42 k28 fu) x (nI ds) (nI (2 ^ P.1 0 - 1)) (nI s) (nI j) N = f_X11_shuts_b42 k28 fu x (nI ds) (nI (2 ^ P.1 0 - 1)) (nI s) (nI (j + 1)) s' ∧ (∀ q', q' < j + 1 → ¬ Sel P.1 ds s q') ∧ CS M0 s' x P Z sr h d f tx fi (k0 + (j + 1))) := fun hno => ⟨N, by rw [f_X11_shuts_b104, zlet, nI_1], fun q' hq' => by
      by_cases e : q' = j
      · rw [e]; exact hno
      · exact i1 q' (by omega), i2'.up (by omega)⟩
    have hstep : f_X11_shuts_b42 k28 (fu + 1) x (nI ds) (nI (2 ^ P.1 0 - 1)) (nI s) (nI j) N = (if nI (pc5 j) = nI s then (f_X11_holds (nI j) (nI (P.1 2)) N).bind fun q2 => if q2.1 = 0 then ((zgN q2.2 x [11] 9).bind fun a2 => (zgN q2.2 x [11] 0).bind fun a3 => (zob q2.2 a2 0).bind fun _ => (f_X0_follow a2 a3 (nI ds) (nI j) q2.2).bind fun q3 => (zgN q3 x [11] 9).bind fun a4 => (zob q3 a4 0).bind fun _ => (f_X0_seek a4 1 1 q3).bind fun q4 => if q4.1 = 0 then f_X11_shuts_b104 k28 (f_X11_shuts_b42 k28 fu) x (nI ds) (nI (2 ^ P.1 0 - 1)) (nI s) (nI j) q4.2 else some (nI j, q4.2)) else f_X11_shuts_b104 k28 (f_X11_shuts_b42 k28 fu) x (nI ds) (nI (2 ^ P.1 0 - 1)) (nI s) (nI j) q2.2 else f_X11_shuts_b104 k28 (f_X11_shuts_b42 k28 fu) x (nI ds) (nI (2 ^ P.1 0 - 1)) (nI s) (nI j) N) := by
      rw [f_X11_shuts_b42, if_neg (show ¬ nI (2 ^ P.1 0 - 1) < nI j from nI_nlt (by omega) (by omega)), c_bits (show j < 32 by omega), Option.bind_some, c_h c1.1, Option.bind_some, hg.2.2.1, Option.bind_some]
    show (∃ s', f_X11_shuts_b42 k28 (fu + 1) x (nI ds) (nI (2 ^ P.1 0 - 1)) (nI s) (nI j) N = f_X11_shuts_b42 k28 fu x (nI ds) (nI (2 ^ P.1 0 - 1)) (nI s) (nI (j + 1)) s' ∧ _) ∨ ((∃ q M', f_X11_shuts_b42 k28 (fu + 1) x (nI ds) (nI (2 ^ P.1 0 - 1)) (nI s) (nI j) N = some (nI q, M') ∧ _) ∨ _)
    rw [hstep]
    by_cases hb : pc5 j = s
    · rw [if_pos (by rw [hb]), c_holds, Option.bind_some, n_hold (by omega) (by omega)]
      cases ht : j.testBit (P.1 2) with
      | true =>
        rw [if_neg (show ¬ (if (true : Bool) then (1 : Int32) else 0) = 0 by decide)]
        exact Or.inl (skip (fun z => by rw [z.2.1] at ht; cases ht))
      | false =>
        rw [if_pos (show (if (false : Bool) then (1 : Int32) else 0) = 0 by decide)]
        obtain ⟨M1, M2, fl, fb, ft, A2, Z2, e1, e2, e3, e4, e5, e6, e7, e8, e9, e10⟩ := cj_hunt c1 (by omega) (ds := ds) (sv := j) (b0 := 1) (b1 := 1) hds (by omega) ⟨by omega, by omega⟩ ⟨by omega, by omega⟩
        have e3' : f_X0_seek (x + 5) 1 1 M1 = some (fl, M2) := e3
        have cs2 : CS M0 M2 x P Z sr h d f tx fi (k0 + (j + 1)) := ⟨A2, Z2, sr' + 1, e4, c2.trans (e5.mk c1.wk c1.m44), c3.trans e6, by omega⟩
        rw [c1.g9, Option.bind_some, c_h c1.1, Option.bind_some, c1.chob, Option.bind_some, e1, Option.bind_some, e2.g9, Option.bind_some, e2.chob, Option.bind_some, e3', Option.bind_some]
        rcases e7 with ⟨a, b⟩ | ⟨a, u, T, b, -⟩
        · rw [a, if_pos rfl, f_X11_shuts_b104, zlet, nI_1]
          refine Or.inl ⟨M2, rfl, fun q' hq' => ?_, cs2⟩
          by_cases e : q' = j
          · rw [e]
            rintro ⟨-, -, u, T, hT, hg⟩
            exact b u T hT hg
          · exact i1 q' (by omega)
        · rw [a, if_neg one0]
          exact Or.inr (Or.inl ⟨j, M2, rfl, hj, ⟨hb, ht, u, T, b.2.1, b.1⟩, i1, cs2.up (by omega)⟩)
    · rw [if_neg (fun z => hb ((nI_eq hp5 (by omega)).mp z))]
      exact Or.inl (skip (fun z => hb z.1))
  · obtain ⟨i1, i2⟩ := hI
    refine Or.inr ⟨N, ?_, i1, i2.up (by omega)⟩
    rw [f_X11_shuts_b42, if_pos (nI_lt (by omega) (by omega)), zlet, nI_1]
theorem c_shuts (hc : CJ M x P A Z sr h d f tx fi) (hsr : sr + 200 < 2 ^ 20) {ds : Nat} (d1 : ds < 2 ^ P.1 6) : ∃ r M', f_X11_shuts x (nI ds) M = some (r, M') ∧ Chr (P.1 0) (Sel P.1 ds) r ∧ CS M M' x P Z sr h d f tx fi 160 := by
  have hl := hc.hl
  have hW := hl.2.1
  have hnd := hW.nd
  have hn5 := hW.n5
  have h32 := p2_32 hn5
  have hds : ds < 2 ^ 31 := Nat.lt_of_lt_of_le d1 (p2b (by omega))
  have ea : abits (nI ds) (nI (P.1 6)) = 1 := abits_ok (by omega) d1
  have eall : ((1 : Int32) <<< (nB P.1 0 &&& 31)) - 1 = nI (2 ^ P.1 0 - 1) := n_allP hn5
  have key : ∃ q, f_X11_shuts_b28 zfu x (nI ds) (nI (2 ^ P.1 0 - 1)) (nI 0) M = some q ∧ (Chr (P.1 0) (Sel P.1 ds) q.1 ∧ CS M q.2 x P Z sr h d f tx fi 160) := by
    refine loopIZ (S := zMe) (R := Int32 × zMe) (fun fuel j N => f_X11_shuts_b28 fuel x (nI ds) (nI (2 ^ P.1 0 - 1)) (nI j) N) (P.1 0) (fun j N => (∀ s, s < j → ∀ q, q < 2 ^ P.1 0 → ¬ Sel P.1 ds s q) ∧ CS M N x P Z sr h d f tx fi (32 * j)) (fun q => Chr (P.1 0) (Sel P.1 ds) q.1 ∧ CS M q.2 x P Z sr h d f tx fi 160) (by omega) (fun fu j N hj hI => ?_) (fun fu N hI => ?_) M ⟨fun s hs => by omega, A, Z, sr, hc, fun _ _ _ => rfl, ⟨Nat.le_refl _, Nat.le_refl _⟩, by omega⟩
    · obtain ⟨i1, i2⟩ := hI
      have i2' := i2
      obtain ⟨A', Z', sr', c1, c2, c3, c4⟩ := i2
      have hg := c_g c1.hl.1
      have hst : f_X11_shuts_b28 (fu + 1) x (nI ds) (nI (2 ^ P.1 0 - 1)) (nI j) N = f_X11_shuts_b42 (f_X11_shuts_b28 fu) zfu x (nI ds) (nI (2 ^ P.1 0 - 1)) (nI j) (nI 0) N := by
        rw [f_X11_shuts_b28, c_h c1.1, Option.bind_some, hg.1, Option.bind_some, if_neg (nI_ge hj (by omega))]
        rfl
      show (∃ s', f_X11_shuts_b28 (fu + 1) x (nI ds) (nI (2 ^ P.1 0 - 1)) (nI j) N = f_X11_shuts_b28 fu x (nI ds) (nI (2 ^ P.1 0 - 1)) (nI (j + 1)) s' ∧ _) ∨ ∃ r, f_X11_shuts_b28 (fu + 1) x (nI ds) (nI (2 ^ P.1 0 - 1)) (nI j) N = some r ∧ _
      rw [hst]
      rcases c_shI (f_X11_shuts_b28 fu) hsr hds (show j < 5 by omega) (k0 := 32 * j) (by omega) i2' with ⟨q, M', a1, a2, a3, a4, a5⟩ | ⟨M', a1, a2, a3⟩
      · exact Or.inr ⟨(nI q, M'), a1, Or.inr ⟨j, q, hj, a2, rfl, a3, fun s' q' hs' hq' => i1 s' hs' q' hq', a4⟩, a5.up (by omega)⟩
      · refine Or.inl ⟨M', a1, fun s hs q hq => ?_, a3.up (by omega)⟩
        by_cases e : s = j
        · rw [e]; exact a2 q hq
        · exact i1 s (by omega) q hq
    · obtain ⟨i1, i2⟩ := hI
      have i2' := i2
      obtain ⟨A', Z', sr', c1, c2, c3, c4⟩ := i2
      have hg := c_g c1.hl.1
      refine ⟨(-1, N), ?_, Or.inl ⟨rfl, i1⟩, i2'.up (by omega)⟩
      show f_X11_shuts_b28 (fu + 1) x (nI ds) (nI (2 ^ P.1 0 - 1)) (nI (P.1 0)) N = _
      rw [f_X11_shuts_b28, c_h c1.1, Option.bind_some, hg.1, Option.bind_some, if_pos (nI_le (Nat.le_refl _) (by omega))]
  obtain ⟨⟨r, M'⟩, k1, k2, k3⟩ := key
  refine ⟨r, M', ?_, k2, k3⟩
  rw [nI_0] at k1
  rw [f_X11_shuts, c_h hc.1, Option.bind_some, c_obh hl.1, Option.bind_some, c_areDogs hl.1, Option.bind_some, ea, if_neg one0, c_h hc.1, Option.bind_some, c_obh hl.1, Option.bind_some, c_all hl.1, Option.bind_some, eall]
  exact k1
end SH
theorem arL_0 (ar : Nat → Nat → Int32) (be wa mn f : Nat → Int32) : updA (arL ar be wa mn) 0 f = arL (updA ar 0 f) be wa mn := by
  funext j
  by_cases h : j = 0
  · subst h; simp [updA, arL]
  · unfold updA arL
    rw [if_neg h]
    simp only [if_neg h]
theorem GDs_up {B : Nat → Nat} (v sv ds u t : Nat) : GDs (upN B 1 v) sv ds u t ↔ GDs B sv ds u t := by
  unfold GDs
  constructor
  · intro hg d hd hb
    have := hg d hd hb
    rw [dg_up (by omega)] at this
    exact this
  · intro hg d hd hb
    rw [dg_up (by omega)]
    exact hg d hd hb
section MSH
variable {N : zMe} {m : Nat} {sc : Nat → Int32} {lg : Nat → Int64} {ar : Nat → Nat → Int32} {en : Nat → Int64} {B : Nat → Nat}
abbrev QS : Type := Int32 × Int32 × (Nat → Int32) × (Nat → Int32) × (Nat → Int32) × (Nat → Int32)
/-- the reference's memory within shuts: found, what is shut, numbers, best, waits, many -/
def mem (N : zMe) (m : Nat) (lg : Nat → Int64) (ar : Nat → Nat → Int32) (en : Nat → Int64) (s : QS) : zMe := mmk N m s.2.2.1 lg (arL (updA ar 0 (upd (ar 0) 1 s.2.1)) s.2.2.2.1 s.2.2.2.2.1 s.2.2.2.2.2) en
def QI (sc : Nat → Int32) (s : QS) : Prop := (∀ j, j ≠ 5 → j ≠ 6 → s.2.2.1 j = sc j) ∧ Emp 0 s.2.2.2.1 s.2.2.2.2.2 ∧ Emp 1 s.2.2.2.1 s.2.2.2.2.2
theorem mem_r {s : QS} (hB : Bk (ar 0) B) {k : Nat} (hk : k < 25) (h1 : k ≠ 1) : zrI (mem N m lg ar en s) (m + 1) (nI k) = some (nI (B k)) := by
  unfold mem
  rw [mm_rN1 hk]
  show some (updA ar 0 (upd (ar 0) 1 s.2.1) 0 k) = _
  rw [updA_s, up_n _ _ h1, hB k hk]
theorem m_shI (k25 : Nat → Int32 → Int32 → Int32 → Int32 → zMe → Option (Int32 × zMe)) (hB : Bk (ar 0) B) (hW : WB B) {ds sz : Nat} (hds : ds < 2 ^ 31) (hsz : sz < 5) (was : Int32) (s0 : QS) (h0 : s0.1 = -1) (hQ : QI sc s0) : ∃ s' : QS, f_X12_shuts_b44 k25 zfu m (nI ds) was s0.1 (nI sz) (nI 0) (mem N m lg ar en s0) = k25 m (nI ds) was s'.1 (nI (sz + 1)) (mem N m lg ar en s') ∧ QI sc s' ∧ ((s'.1 = -1 ∧ ∀ q, q < 2 ^ B 0 → ¬ Sel B ds sz q) ∨ ∃ q, q < 2 ^ B 0 ∧ s'.1 = nI q ∧ Sel B ds sz q ∧ ∀ q', q' < q → ¬ Sel B ds sz q') := by
  have hn5 := hW.n5
  have h32 := p2_32 hn5
  have hpos := Nat.two_pow_pos (B 0)
  have hgo := hW.go
  refine loopX (S := QS) (R := Option (Int32 × zMe)) (fun fuel j s => f_X12_shuts_b44 k25 fuel m (nI ds) was s.1 (nI sz) (nI j) (mem N m lg ar en s)) (2 ^ B 0) (fun j s => QI sc s ∧ ((s.1 = -1 ∧ ∀ q, q < j → ¬ Sel B ds sz q) ∨ ∃ q, q < j ∧ s.1 = nI q ∧ Sel B ds sz q ∧ ∀ q', q' < q → ¬ Sel B ds sz q')) (fun R => ∃ s' : QS, R = k25 m (nI ds) was s'.1 (nI (sz + 1)) (mem N m lg ar en s') ∧ QI sc s' ∧ ((s'.1 = -1 ∧ ∀ q, q < 2 ^ B 0 → ¬ Sel B ds sz q) ∨ ∃ q, q < 2 ^ B 0 ∧ s'.1 = nI q ∧ Sel B ds sz q ∧ ∀ q', q' < q → ¬ Sel B ds sz q')) (by omega) (fun fu j s hj hI => ?_) (fun fu s hI => ?_) s0 ⟨hQ, Or.inl ⟨h0, fun q hq => by omega⟩⟩
  · obtain ⟨i1, i2⟩ := hI
    have g0 : zgN (mem N m lg ar en s) m [12] 0 = some (m + 1) := mm_gN0
    have r0 : zrI (mem N m lg ar en s) (m + 1) 0 = some (nI (B 0)) := mem_r (k := 0) hB (by omega) (by omega)
    have r2 : zrI (mem N m lg ar en s) (m + 1) 2 = some (nI (B 2)) := mem_r (k := 2) hB (by omega) (by omega)
    have hp5 : pc5 j < 2 ^ 31 := by unfold pc5; omega
    show (∃ s' : QS, f_X12_shuts_b44 k25 (fu + 1) m (nI ds) was s.1 (nI sz) (nI j) (mem N m lg ar en s) = f_X12_shuts_b44 k25 fu m (nI ds) was s'.1 (nI sz) (nI (j + 1)) (mem N m lg ar en s') ∧ _) ∨ ∃ s' : QS, f_X12_shuts_b44 k25 (fu + 1) m (nI ds) was s.1 (nI sz) (nI j) (mem N m lg ar en s) = _ ∧ _
    rw [f_X12_shuts_b44, g0, Option.bind_some, r0, Option.bind_some, n_sh1 (by omega), if_neg (nI_ge hj (by omega))]
    rcases i2 with ⟨a1, a2⟩ | ⟨q, a1, a2, a3, a4⟩
    · rw [if_pos a1, m_bits, Option.bind_some, mbits_5 j (by omega)]
      have skip : ¬ Sel B ds sz j → ∃ s' : QS, f_X12_shuts_b110 k25 (f_X12_shuts_b44 k25 fu) m (nI ds) was s.1 (nI sz) (nI j) (mem N m lg ar en s) = f_X12_shuts_b44 k25 fu m (nI ds) was s'.1 (nI sz) (nI (j + 1)) (mem N m lg ar en s') ∧ QI sc s' ∧ ((s'.1 = -1 ∧ ∀ q, q < j + 1 → ¬ Sel B ds sz q) ∨ ∃ q, q < j + 1 ∧ s'.1 = nI q ∧ Sel B ds sz q ∧ ∀ q', q' < q → ¬ Sel B ds sz q') := fun hno => ⟨s, by rw [f_X12_shuts_b110, zlet, nI_1], i1, Or.inl ⟨a1, fun q hq => by
        by_cases e : q = j
        · rw [e]; exact hno
        · exact a2 q (by omega)⟩⟩
      by_cases hb : pc5 j = sz
      · rw [if_pos (by rw [hb]), g0, Option.bind_some, r2, Option.bind_some]
        by_cases ht : j.testBit (B 2) = true
        · rw [if_neg (fun z => by rw [n_bit0 (by omega) (by omega), ht] at z; cases z)]
          exact Or.inl (skip (fun z => by rw [z.2.1] at ht; cases ht))
        · have ht' : j.testBit (B 2) = false := by simpa using ht
          rw [if_pos ((n_bit0 (by omega) (by omega)).mpr ht'), Option.bind_some]
          obtain ⟨s1, hs1⟩ : ∃ s1 : QS, s1 = (s.1, nI j, s.2.2) := ⟨_, rfl⟩
          have w1 : zwI (mem N m lg ar en s) (m + 1) 1 (nI j) = some (mem N m lg ar en s1) := by
            rw [hs1]
            unfold mem
            have := mm_wN1 (M := N) (m := m) (sc := s.2.2.1) (lg := lg) (en := en) (ar := arL (updA ar 0 (upd (ar 0) 1 s.2.1)) s.2.2.2.1 s.2.2.2.2.1 s.2.2.2.2.2) (k := 1) (v := nI j) (by omega)
            rw [show (1 : Int32) = nI 1 from rfl, this, arL_0, updA_A]
            show some (mmk N m s.2.2.1 lg (arL (updA ar 0 (upd (updA ar 0 (upd (ar 0) 1 s.2.1) 0) 1 (nI j))) _ _ _) en) = _
            rw [updA_s, upd_twice]
          have hWB : WB (upN B 1 j) := ⟨hW.n2, hW.n5, hj, hW.go, hW.ba, hW.b4, hW.b5, hW.nd, fun e he => by rw [dg_up (by omega)]; exact hW.dw e he⟩
          have hBk : Bk (arL (updA ar 0 (upd (ar 0) 1 (nI j))) s.2.2.2.1 s.2.2.2.2.1 s.2.2.2.2.2 0) (upN B 1 j) := fun k hk => by
            show updA ar 0 (upd (ar 0) 1 (nI j)) 0 k = _
            rw [updA_s]
            by_cases e : k = 1
            · rw [e, up_s, upN_s]
            · rw [up_n _ _ e, upN_n _ _ e]; exact hB k hk
          obtain ⟨r, sc', be', wa', mn', k1, k2, k3, k4, k5⟩ := m_tames (M := N) (m := m) (sc := s.2.2.1) (lg := lg) (en := en) (bb := false) (ar := arL (updA ar 0 (upd (ar 0) 1 (nI j))) s.2.2.2.1 s.2.2.2.2.1 s.2.2.2.2.2) hBk hWB hds i1.2.1 i1.2.2
          have earr : arL (arL (updA ar 0 (upd (ar 0) 1 (nI j))) s.2.2.2.1 s.2.2.2.2.1 s.2.2.2.2.2) be' wa' mn' = arL (updA ar 0 (upd (ar 0) 1 (nI j))) be' wa' mn' := by
            funext i
            unfold arL
            by_cases h6 : i = 6
            · rw [if_pos h6, if_pos h6]
            · by_cases h7 : i = 7
              · rw [if_neg h6, if_pos h7, if_neg h6, if_pos h7]
              · by_cases h8 : i = 8
                · rw [if_neg h6, if_neg h7, if_pos h8, if_neg h6, if_neg h7, if_pos h8]
                · simp only [if_neg h6, if_neg h7, if_neg h8]
          rw [earr] at k1
          obtain ⟨s2, hs2⟩ : ∃ s2 : QS, s2 = (s.1, nI j, sc', be', wa', mn') := ⟨_, rfl⟩
          have k1' : f_X12_tames m (nI ds) 0 (mem N m lg ar en s1) = some (r, mem N m lg ar en s2) := by rw [hs1, hs2]; exact k1
          have q2 : QI sc s2 := by
            rw [hs2]
            exact ⟨fun i i5 i6 => (k2 i i5 i6).trans (i1.1 i i5 i6), k3, k4⟩
          have ob : zob (mem N m lg ar en s1) m 12 = some () := mm_ob
          rw [w1, Option.bind_some, ob, Option.bind_some, k1', Option.bind_some]
          rcases k5 with ⟨z1, z2⟩ | ⟨z1, z2, -⟩
          · rw [z1, if_pos rfl, f_X12_shuts_b109, f_X12_shuts_b110, zlet, nI_1]
            refine Or.inl ⟨((-1 : Int32), s2.2), ?_, q2, Or.inl ⟨rfl, fun q hq => ?_⟩⟩
            · rfl
            · by_cases e : q = j
              · rw [e]
                rintro ⟨-, -, u, T, hT, hg⟩
                exact z2 u T hT ((GDs_up j _ ds u T).mpr hg)
              · exact a2 q (by omega)
          · rw [z1, if_neg one0, f_X12_shuts_b109, f_X12_shuts_b110, zlet, nI_1]
            obtain ⟨u, T, st, -⟩ := z2 rfl
            refine Or.inl ⟨(nI j, s2.2), rfl, q2, Or.inr ⟨j, by omega, rfl, ⟨hb, ht', u, T, st.2.1, (GDs_up j _ ds u T).mp st.1⟩, a2⟩⟩
      · rw [if_neg (fun z => hb ((nI_eq hp5 (by omega)).mp z))]
        exact Or.inl (skip (fun z => hb z.1))
    · rw [if_neg (by rw [a2]; exact n_m1 (by omega)), f_X12_shuts_b116, zlet, nI_1]
      exact Or.inr ⟨s, rfl, i1, Or.inr ⟨q, by omega, a2, a3, a4⟩⟩
  · obtain ⟨i1, i2⟩ := hI
    have g0 : zgN (mem N m lg ar en s) m [12] 0 = some (m + 1) := mm_gN0
    have r0 : zrI (mem N m lg ar en s) (m + 1) 0 = some (nI (B 0)) := mem_r (k := 0) hB (by omega) (by omega)
    refine ⟨s, ?_, i1, i2⟩
    rw [f_X12_shuts_b44, g0, Option.bind_some, r0, Option.bind_some, n_sh1 (by omega), if_pos (nI_le (Nat.le_refl _) (by omega)), f_X12_shuts_b116, zlet, nI_1]
theorem m_shuts (hB : Bk (ar 0) B) (hW : WB B) {ds : Nat} (d1 : ds < 2 ^ B 6) (e0 : Emp 0 (ar 6) (ar 8)) (e1 : Emp 1 (ar 6) (ar 8)) : ∃ r sc' be' wa' mn', f_X12_shuts m (nI ds) (mmk N m sc lg ar en) = some (r, mmk N m sc' lg (arL ar be' wa' mn') en) ∧ (∀ j, j ≠ 5 → j ≠ 6 → sc' j = sc j) ∧ Emp 0 be' mn' ∧ Emp 1 be' mn' ∧ Chr (B 0) (Sel B ds) r := by
  have hn5 := hW.n5
  have hnd := hW.nd
  have hds : ds < 2 ^ 31 := Nat.lt_of_lt_of_le d1 (p2b (by omega))
  have em : zin (nI ds) 0 (((1 : Int32) <<< (nI (B 6) &&& 31)) - 1) = 1 := zin_t (by omega) d1
  obtain ⟨s0, hs0⟩ : ∃ s0 : QS, s0 = (-1, ar 0 1, sc, ar 6, ar 7, ar 8) := ⟨_, rfl⟩
  have hm0 : mem N m lg ar en s0 = mmk N m sc lg ar en := by
    rw [hs0]
    unfold mem
    show mmk N m sc lg (arL (updA ar 0 (upd (ar 0) 1 (ar 0 1))) (ar 6) (ar 7) (ar 8)) en = _
    rw [upd_same rfl, updA_id, arL_id]
  have fin : ∀ s : QS, QI sc s → Chr (B 0) (Sel B ds) s.1 → ∃ q, f_X12_shuts_b122 m (ar 0 1) s.1 (mem N m lg ar en s) = some q ∧ ∃ r sc' be' wa' mn', q = (r, mmk N m sc' lg (arL ar be' wa' mn') en) ∧ (∀ j, j ≠ 5 → j ≠ 6 → sc' j = sc j) ∧ Emp 0 be' mn' ∧ Emp 1 be' mn' ∧ Chr (B 0) (Sel B ds) r := by
    intro s hq hchr
    have g0 : zgN (mem N m lg ar en s) m [12] 0 = some (m + 1) := mm_gN0
    refine ⟨(s.1, mmk N m s.2.2.1 lg (arL ar s.2.2.2.1 s.2.2.2.2.1 s.2.2.2.2.2) en), ?_, _, _, _, _, _, rfl, hq.1, hq.2.1, hq.2.2, hchr⟩
    rw [f_X12_shuts_b122, g0, Option.bind_some]
    unfold mem
    have := mm_wN1 (M := N) (m := m) (sc := s.2.2.1) (lg := lg) (en := en) (ar := arL (updA ar 0 (upd (ar 0) 1 s.2.1)) s.2.2.2.1 s.2.2.2.2.1 s.2.2.2.2.2) (k := 1) (v := ar 0 1) (by omega)
    rw [show (1 : Int32) = nI 1 from rfl, this, Option.bind_some, arL_0, updA_A]
    show some (s.1, mmk N m s.2.2.1 lg (arL (updA ar 0 (upd (updA ar 0 (upd (ar 0) 1 s.2.1) 0) 1 (ar 0 1))) _ _ _) en) = _
    rw [updA_s, upd_twice, upd_same rfl, updA_id]
  have key := loopIZ (S := QS) (R := Int32 × zMe) (fun fuel j s => f_X12_shuts_b25 fuel m (nI ds) (ar 0 1) s.1 (nI j) (mem N m lg ar en s)) (B 0) (fun j s => QI sc s ∧ ((s.1 = -1 ∧ ∀ t, t < j → ∀ q, q < 2 ^ B 0 → ¬ Sel B ds t q) ∨ ∃ t q, t < j ∧ q < 2 ^ B 0 ∧ s.1 = nI q ∧ Sel B ds t q ∧ (∀ t' q', t' < t → q' < 2 ^ B 0 → ¬ Sel B ds t' q') ∧ (∀ q', q' < q → ¬ Sel B ds t q'))) (fun q => ∃ r sc' be' wa' mn', q = (r, mmk N m sc' lg (arL ar be' wa' mn') en) ∧ (∀ j, j ≠ 5 → j ≠ 6 → sc' j = sc j) ∧ Emp 0 be' mn' ∧ Emp 1 be' mn' ∧ Chr (B 0) (Sel B ds) r) (by omega) (fun fu j s hj hI => ?_) (fun fu s hI => ?_) s0 ⟨by rw [hs0]; exact ⟨fun _ _ _ => rfl, e0, e1⟩, Or.inl ⟨by rw [hs0], fun t ht => by omega⟩⟩
  · obtain ⟨q, k1, r, sc', be', wa', mn', k2, k3⟩ := key
    refine ⟨r, sc', be', wa', mn', ?_, k3⟩
    have k1' : f_X12_shuts_b25 zfu m (nI ds) (ar 0 1) s0.1 (nI 0) (mem N m lg ar en s0) = some q := k1
    rw [nI_0, hm0, k2, show s0.1 = -1 by rw [hs0]] at k1'
    have r1 : zrI (mmk N m sc lg ar en) (m + 1) 1 = some (ar 0 1) := by rw [show (1 : Int32) = nI 1 from rfl, mm_rN1 (by omega)]
    rw [f_X12_shuts, mm_ob, Option.bind_some, m_isSet, Option.bind_some, hB 6 (by omega), em, if_neg one0, mm_gN0, Option.bind_some, r1, Option.bind_some]
    exact k1'
  · obtain ⟨i1, i2⟩ := hI
    have g0 : zgN (mem N m lg ar en s) m [12] 0 = some (m + 1) := mm_gN0
    have r0 : zrI (mem N m lg ar en s) (m + 1) 0 = some (nI (B 0)) := mem_r (k := 0) hB (by omega) (by omega)
    show (∃ s' : QS, f_X12_shuts_b25 (fu + 1) m (nI ds) (ar 0 1) s.1 (nI j) (mem N m lg ar en s) = f_X12_shuts_b25 fu m (nI ds) (ar 0 1) s'.1 (nI (j + 1)) (mem N m lg ar en s') ∧ _) ∨ ∃ r, f_X12_shuts_b25 (fu + 1) m (nI ds) (ar 0 1) s.1 (nI j) (mem N m lg ar en s) = some r ∧ _
    rw [f_X12_shuts_b25, g0, Option.bind_some, r0, Option.bind_some, if_neg (nI_ge hj (by omega))]
    rcases i2 with ⟨a1, a2⟩ | ⟨t, q, a1, a2, a3, a4, a5, a6⟩
    · rw [if_pos a1]
      obtain ⟨s', b1, b2, b3⟩ := m_shI (N := N) (m := m) (sc := sc) (lg := lg) (ar := ar) (en := en) (f_X12_shuts_b25 fu) hB hW hds (show j < 5 by omega) (ar 0 1) s a1 i1
      rw [nI_0] at b1
      refine Or.inl ⟨s', b1, b2, ?_⟩
      rcases b3 with ⟨c1, c2⟩ | ⟨q, c1, c2, c3, c4⟩
      · refine Or.inl ⟨c1, fun t ht q hq => ?_⟩
        by_cases e : t = j
        · rw [e]; exact c2 q hq
        · exact a2 t (by omega) q hq
      · exact Or.inr ⟨j, q, by omega, c1, c2, c3, fun t' q' ht' hq' => a2 t' ht' q' hq', c4⟩
    · rw [if_neg (by rw [a3]; exact n_m1 (by have := p2_32 hn5; omega))]
      exact Or.inr (fin s i1 (Or.inr ⟨t, q, by omega, a2, a3, a4, a5, a6⟩))
  · obtain ⟨i1, i2⟩ := hI
    have g0 : zgN (mem N m lg ar en s) m [12] 0 = some (m + 1) := mm_gN0
    have r0 : zrI (mem N m lg ar en s) (m + 1) 0 = some (nI (B 0)) := mem_r (k := 0) hB (by omega) (by omega)
    obtain ⟨q, f1, f2⟩ := fin s i1 i2
    refine ⟨q, ?_, f2⟩
    show f_X12_shuts_b25 (fu + 1) m (nI ds) (ar 0 1) s.1 (nI (B 0)) (mem N m lg ar en s) = some q
    rw [f_X12_shuts_b25, g0, Option.bind_some, r0, Option.bind_some, if_pos (nI_le (Nat.le_refl _) (by omega))]
    exact f1
end MSH
section ST7
variable {M : zMe} {x : Nat} {A Z : Nat → Nat} {sr h d : Nat} {P : PS} {f : Nat → Option Nat} {tx : Nat → Int32} {fi : Nat → Option Nat}
theorem S_shuts (hc : CJ M x P A Z sr h d f tx fi) (hsr : sr + 200 < 2 ^ 20) (v : Int32) : St M x P A Z sr (f_X11_shuts x v) (f_X12_shuts (x + 31) v) := by
  have hl := hc.hl
  have hW := hl.2.1
  have hnd := hW.nd
  rcases t_case (n := P.1 6) (by omega) v with ⟨z1, z2⟩ | ⟨ds, d1, rfl⟩
  · refine St.bad hc (r := -2) ?_ (fun N sc lg ar en hm => ?_)
    · rw [f_X11_shuts, c_h hc.1, Option.bind_some, c_obh hl.1, Option.bind_some, c_areDogs hl.1, Option.bind_some, z2, if_pos rfl, c_obx hc.1, Option.bind_some, c_bad hc.1, Option.bind_some]
    · rw [f_X12_shuts, mm_ob, Option.bind_some, m_isSet, Option.bind_some, hm.1 6 (by omega), z1, if_pos rfl, mm_ob, Option.bind_some, m_bad, Option.bind_some]
  · obtain ⟨r, M', e1, e2, A', Z', sr', c1, c2, c3, c4⟩ := c_shuts hc hsr d1
    refine ⟨r, M', P, A', Z', sr', e1, c1.ci, c2, ⟨by have := c3.1; omega, by have := c3.2; omega, by omega⟩, fun N sc lg ar en hm => ?_⟩
    obtain ⟨r', sc', be', wa', mn', k1, k2, k3, k4, k5⟩ := m_shuts (N := N) (m := x + 31) (sc := sc) (lg := lg) (en := en) hm.1 hW d1 hm.2.2.2.2.2.2.2.2.2.2.1 hm.2.2.2.2.2.2.2.2.2.2.2
    refine ⟨sc', lg, arL ar be' wa' mn', en, ?_, hm.lay k2 k3 k4⟩
    rw [k1, e2.uniq k5]
end ST7
