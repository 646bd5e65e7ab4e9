/-- a lane between searches -/
def LnR (M : zMe) (a : Nat) : Prop := ∃ nn st en me, M.1 a = some (.inr (4, lnF a nn)) ∧ M.1 (a + 1) = some (.inl (.int, 320, .inl st)) ∧ M.1 (a + 2) = some (.inl (.int, 672, .inl en)) ∧ M.1 (a + 3) = some (.inl (.int, 5, .inl me)) ∧ ∀ k, k < 10 → st (32 * k) = 0
theorem LnR.kept {M M' : zMe} {a : Nat} (h : LnR M a) (hq : ∀ q, a ≤ q → q ≤ a + 3 → M'.1 q = M.1 q) : LnR M' a := by
  obtain ⟨nn, st, en, me, h0, h1, h2, h3, h4⟩ := h
  exact ⟨nn, st, en, me, by rw [hq a (by omega) (by omega)]; exact h0, by rw [hq _ (by omega) (by omega)]; exact h1, by rw [hq _ (by omega) (by omega)]; exact h2, by rw [hq _ (by omega) (by omega)]; exact h3, h4⟩
theorem LaK.rest {M : zMe} {a n sh tg : Nat} {D : Nat → Nat} (h : LaK M a n sh tg D) : LnR M a := by
  obtain ⟨st, en, me, h0, h1, h2, h3, h4, h5⟩ := h
  exact ⟨_, st, en, me, h0, h1, h2, h3, h4.zero⟩
theorem LnR.learn {M : zMe} {a n sh dd : Nat} {D : Nat → Nat} (h : LnR M a) (hd : M.1 dd = some (dogCell D)) (hD : DW n D) (hn : n ≤ 5) (hsh : sh < 2 ^ 31) : ∃ st en me, f_X4_learn a dd (nI n) (nI sh) M = some (lmk M a (nI (2 ^ n)) st en me) ∧ Lrn st sh D n := by
  obtain ⟨nn, st, en, me, h0, h1, h2, h3, h4⟩ := h
  have e := lm_self h0 h1 h2 h3
  have hdd : dd < a ∨ a + 3 < dd := by
    apply Classical.byContradiction
    intro z
    rcases (show dd = a ∨ dd = a + 1 ∨ dd = a + 2 ∨ dd = a + 3 by omega) with rfl | rfl | rfl | rfl
    · rw [h0] at hd
      injection hd with hd
      simp only [dogCell, Sum.inr.injEq, Prod.mk.injEq] at hd
      have := dogCl_in (hD.1)
      rw [← hd.1] at this
      exact absurd this (by decide)
    · rw [h1] at hd; simp [dogCell] at hd
    · rw [h2] at hd; simp [dogCell] at hd
    · rw [h3] at hd; simp [dogCell] at hd
  obtain ⟨st', g1, g2⟩ := l_learn (M := M) (a := a) (n0 := nn) (en := en) (me := me) hd hdd hD hn hsh h4
  rw [e] at g1
  exact ⟨st', en, me, g1, g2⟩
theorem c_odd {M : zMe} {a n : Nat} {D : Nat → Nat} (h : M.1 a = some (dogCell D)) (hD : DW n D) : fv_X5_heedsOdd a M = some (nI (if D 0 = 1 ∨ D 0 = 4 then 1 else 0), M) := by
  have hk := hD.1
  rcases (show D 0 = 0 ∨ D 0 = 1 ∨ D 0 = 4 ∨ D 0 = 2 ∨ D 0 = 3 by omega) with k | k | k | k | k
  · rw [dogC0 k] at h; simp [fv_X5_heedsOdd, h, f_X5_heedsOdd, k, nI_0]
  · rw [dogC1 k] at h; simp [fv_X5_heedsOdd, h, f_X1_heedsOdd, k]; rfl
  · rw [dogC4 k] at h; simp [fv_X5_heedsOdd, h, f_X1_heedsOdd, k]; rfl
  · rw [dogC2 k] at h; simp [fv_X5_heedsOdd, h, f_X5_heedsOdd, k, nI_0]
  · rw [dogC3 k] at h; simp [fv_X5_heedsOdd, h, f_X5_heedsOdd, k, nI_0]
/-- the chase and its lanes, i of them in use, the others at rest; nothing beside the lanes and the object changes -/
def FL (M0 M : zMe) (c lc n sh sp od : Nat) (tg : Nat → Nat) (D : Nat → Nat → Nat) (ae al : Nat) (X : Nat → Nat) : Prop :=
  M.1 c = some (.inr (0, chF c ae al lc sp od (X 0) (X 1) (X 2) (X 3))) ∧ LC M c lc n sh tg D ∧ (∀ i, lc ≤ i → i < 3 → LnR M (c + 2 + 4 * i)) ∧ M.2 = M0.2 ∧ (∀ q, q ≠ c → (q < c + 2 ∨ c + 13 < q) → M.1 q = M0.1 q)
section FO
variable {M0 M : zMe} {c lc n sh sp od ae al : Nat} {tg : Nat → Nat} {D : Nat → Nat → Nat} {X : Nat → Nat}
theorem f_add (h : FL M0 M c lc n sh sp od tg D ae al X) (h3 : lc < 3) {dd hh start target : Nat} {Dn : Nat → Nat} {B : Nat → Nat} {d : Nat} (hd : M.1 dd = some (dogCell Dn)) (hD : DW n Dn) (hhc : M.1 hh = some (.inr (2, ho (nB B) d))) (hB : B 0 = n) (hn : n ≤ 5) (hsh : sh < 2 ^ 31) (hst : start < 32) (hta : target < 32) (hho : od ≤ 1) (hspl : sp < 32768) : ∃ M', f_X0_addLane c dd hh (nI sh) (nI start) (nI target) M = some M' ∧ FL M0 M' c (lc + 1) n sh (sp ||| start * 2 ^ (5 * lc)) (if od = 1 ∨ Dn 0 = 1 ∨ Dn 0 = 4 then 1 else 0) (upN tg lc target) (fun i => if i = lc then Dn else D i) ae al X := by
  obtain ⟨h0, hL, hr, h2, hq⟩ := h
  obtain ⟨st, en, me, g1, g2⟩ := (hr lc (Nat.le_refl _) h3).learn hd hD hn hsh
  have hob : zob M (c + 2 + 4 * lc) 4 = some () := by
    obtain ⟨nn, _, _, _, k0, -⟩ := hr lc (Nat.le_refl _) h3
    simp [zob, k0]
  obtain ⟨en', e1, e2⟩ := l_ends (M := M) (a := c + 2 + 4 * lc) (st := st) (en := en) (me := me) g2 hD hn hta
  obtain ⟨M1, hM1⟩ : ∃ M1, M1 = lmk M (c + 2 + 4 * lc) (nI (2 ^ n)) st en' me := ⟨_, rfl⟩
  have o1 : ∀ q, (q < c + 2 + 4 * lc ∨ c + 2 + 4 * lc + 3 < q) → M1.1 q = M.1 q := fun q hq => by rw [hM1]; exact lm_out hq
  have c1 : M1.1 c = some (.inr (0, chF c ae al lc sp od (X 0) (X 1) (X 2) (X 3))) := by rw [o1 c (by omega)]; exact h0
  have la : LaK M1 (c + 2 + 4 * lc) n sh target Dn := by rw [hM1]; exact ⟨st, en', me, lm_0, lm_1, lm_2, lm_3, g2, e2⟩
  have ndd : dd ≠ c := fun z => by
    rw [z, h0] at hd
    injection hd with hd
    simp only [dogCell, Sum.inr.injEq, Prod.mk.injEq] at hd
    have := dogCl_in (hD.1)
    rw [← hd.1] at this
    exact absurd this (by decide)
  have hd1 : M1.1 dd = some (dogCell Dn) := by
    by_cases z : dd < c + 2 + 4 * lc ∨ c + 2 + 4 * lc + 3 < dd
    · rw [o1 dd z]; exact hd
    · exfalso
      obtain ⟨nn, s1, s2, s3, k0, k1, k2, k3, -⟩ := hr lc (Nat.le_refl _) h3
      rcases (show dd = c + 2 + 4 * lc ∨ dd = c + 2 + 4 * lc + 1 ∨ dd = c + 2 + 4 * lc + 2 ∨ dd = c + 2 + 4 * lc + 3 by omega) with e | e | e | e
      · rw [e, k0] at hd
        injection hd with hd
        simp only [dogCell, Sum.inr.injEq, Prod.mk.injEq] at hd
        have := dogCl_in (hD.1)
        rw [← hd.1] at this
        exact absurd this (by decide)
      · rw [e, k1] at hd; simp [dogCell] at hd
      · rw [e, k2] at hd; simp [dogCell] at hd
      · rw [e, k3] at hd; simp [dogCell] at hd
  obtain ⟨sp', hsp'⟩ : ∃ sp', sp' = sp ||| start * 2 ^ (5 * lc) := ⟨_, rfl⟩
  obtain ⟨od', hho'⟩ : ∃ od', od' = (if od = 1 ∨ Dn 0 = 1 ∨ Dn 0 = 4 then 1 else 0) := ⟨_, rfl⟩
  obtain ⟨M2, hM2⟩ : ∃ M2, M2 = zSet M1 c (.inr (0, chF c ae al lc sp' od (X 0) (X 1) (X 2) (X 3))) := ⟨_, rfl⟩
  have c2 : M2.1 c = some (.inr (0, chF c ae al lc sp' od (X 0) (X 1) (X 2) (X 3))) := by rw [hM2]; exact zS_s _ _ _
  have hd2 : M2.1 dd = some (dogCell Dn) := by rw [hM2, zS_n _ _ ndd]; exact hd1
  obtain ⟨M4, hM4⟩ : ∃ M4, M4 = zSet M1 c (.inr (0, chF c ae al (lc + 1) sp' od' (X 0) (X 1) (X 2) (X 3))) := ⟨_, rfl⟩
  have hor : nI od ||| nI (if Dn 0 = 1 ∨ Dn 0 = 4 then 1 else 0) = nI od' := by
    rw [n_or, hho']
    rcases (show od = 0 ∨ od = 1 by omega) with e | e
    · subst e
      by_cases z : Dn 0 = 1 ∨ Dn 0 = 4 <;> simp [z]
    · subst e
      by_cases z : Dn 0 = 1 ∨ Dn 0 = 4 <;> simp [z]
  have hshl : start * 2 ^ (5 * lc) < 2 ^ 32 := by
    have : (2 : Nat) ^ (5 * lc) ≤ 2 ^ 10 := p2b (by omega)
    calc _ ≤ 31 * 2 ^ 10 := Nat.mul_le_mul (by omega) this
      _ < 2 ^ 32 := by decide
  refine ⟨M4, ?_, ?_, ⟨?_, fun i hi => ?_⟩, fun i i1 i2 => ?_, ?_, fun q q1 q2 => ?_⟩
  · rw [f_X0_addLane, ch_2 h0, Option.bind_some, if_pos (show nI lc < 3 from nI_lt (b := 3) h3 (by omega)), ch_0 h0, Option.bind_some, Option.bind_some, lc_at hL h3, Option.bind_some, (c_g hhc).1, Option.bind_some, zcase, hob, Option.bind_some, hB, g1, Option.bind_some, lm_ob, Option.bind_some, e1, Option.bind_some, ← hM1, ch_3 c1, Option.bind_some, ch_2 c1, Option.bind_some, show (5 : Int32) * nI lc = nI (5 * lc) from pk_mul 5 _, n_shl (by omega) hshl, n_or, ← hsp', ch_p3 c1, Option.bind_some, ← hM2, ch_4 c2, Option.bind_some, c_odd hd2 hD, Option.bind_some, hor, ch_p4 c2 (by rw [hho']; split <;> omega), Option.bind_some, ch_2 (zS_s _ _ _), Option.bind_some, nI_1, ch_p2 (zS_s _ _ _), Option.bind_some, zSS, hM2, zSS, ← hM4]
  · rw [hM4, hsp', hho']; exact zS_s _ _ _
  · obtain ⟨f, f1, f2⟩ := hL.1
    exact ⟨f, by rw [hM4, zS_n _ _ (by omega), o1 _ (by omega)]; exact f1, f2⟩
  · show LaK M4 (c + 2 + 4 * i) n sh (upN tg lc target i) (if i = lc then Dn else D i)
    by_cases e : i = lc
    · rw [e, upN_s, if_pos rfl]
      exact la.kept (fun q a b => by rw [hM4, zS_n _ _ (by omega)])
    · rw [upN_n _ _ e, if_neg e]
      exact (hL.2 i (by omega)).kept (fun q a b => by rw [hM4, zS_n _ _ (by omega), o1 q (by omega)])
  · exact (hr i (by omega) i2).kept (fun q a b => by rw [hM4, zS_n _ _ (by omega), o1 q (by omega)])
  · rw [hM4]
    show M1.2 = M0.2
    rw [hM1]
    exact h2
  · rw [hM4, zS_n _ _ q1, o1 q (by omega)]
    exact hq q q1 q2
end FO
