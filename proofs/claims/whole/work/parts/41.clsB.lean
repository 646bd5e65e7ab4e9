theorem n_hold {a k : Nat} (ha : a < 2 ^ 31) (hk : k < 32) : chold (nI a) (nI k) = if a.testBit k then 1 else 0 := by
  unfold chold
  by_cases h : a.testBit k = true
  · rw [if_neg (fun z => by rw [n_bit0 ha hk, h] at z; cases z), if_pos h]
  · rw [if_pos ((n_bit0 ha hk).mpr (by simpa using h)), if_neg h]
/-! a dog's object -/
def dog3 (D : Nat → Nat) : List Value := [.int (nI (D 0)), .int (nI (D 1)), .int (nI (D 2))]
def dog6 (D : Nat → Nat) : List Value := [.int (nI (D 0)), .int (nI (D 1)), .int (nI (D 2)), .int (nI (D 3)), .int (nI (D 4)), .int (nI (D 5))]
def dogCl (k : Nat) : Nat := if k = 0 then 5 else if k = 1 then 1 else if k = 4 then 9 else if k = 2 then 6 else 3
def dogCell (D : Nat → Nat) : zEn := .inr (dogCl (D 0), if D 0 = 2 ∨ D 0 = 3 then dog6 D else dog3 D)
theorem dogC0 {D : Nat → Nat} (h : D 0 = 0) : dogCell D = .inr (5, dog3 D) := by simp [dogCell, dogCl, h]
theorem dogC1 {D : Nat → Nat} (h : D 0 = 1) : dogCell D = .inr (1, dog3 D) := by simp [dogCell, dogCl, h]
theorem dogC4 {D : Nat → Nat} (h : D 0 = 4) : dogCell D = .inr (9, dog3 D) := by simp [dogCell, dogCl, h]
theorem dogC2 {D : Nat → Nat} (h : D 0 = 2) : dogCell D = .inr (6, dog6 D) := by simp [dogCell, dogCl, h]
theorem dogC3 {D : Nat → Nat} (h : D 0 = 3) : dogCell D = .inr (3, dog6 D) := by simp [dogCell, dogCl, h]
section CD
variable {M : zMe} {a : Nat} {D : Nat → Nat}
theorem c_rows {p w t sh r : Nat} (hr : fv_X5_rowFor a (nI w) (nI t) M = some (nI r, M)) (hrl : r < 2 ^ 31) (hs : sh < 2 ^ 31) (hp : p < 8) : f_X5_byRows a (nI p) (nI w) (nI t) (nI sh) M = some (nI (stp sh r p), M) := by
  have e3 : (3 : Int32) * nI p = nI (3 * p) := pk_mul 3 p
  have hm : r / 2 ^ (3 * p) % 8 < 8 := Nat.mod_lt _ (by decide)
  rw [f_X5_byRows, hr, Option.bind_some, zlet, e3, n_shr hrl (by omega), n_a7 (Nat.lt_trans (dv_lt hrl) (by decide)), c_holds, Option.bind_some, n_hold hs (by omega), stp]
  cases sh.testBit (r / 2 ^ (3 * p) % 8) <;> simp [f_X5_byRows_b31]
theorem c_rowA (h : M.1 a = some (dogCell D)) (hk : D 0 = 0 ∨ D 0 = 1 ∨ D 0 = 4) {w t : Nat} (hw : w < 2) : fv_X5_rowFor a (nI w) (nI t) M = some (nI (D (1 + w)), M) := by
  rcases (show w = 0 ∨ w = 1 by omega) with rfl | rfl <;> rcases hk with hk | hk | hk
  · rw [dogC0 hk] at h; simp [fv_X5_rowFor, h, f_X5_rowFor, f_X5_rowFor_b15, zgI, zg, dog3, nI_0]
  · rw [dogC1 hk] at h; simp [fv_X5_rowFor, h, f_X5_rowFor, f_X5_rowFor_b15, zgI, zg, dog3, nI_0]
  · rw [dogC4 hk] at h; simp [fv_X5_rowFor, h, f_X5_rowFor, f_X5_rowFor_b15, zgI, zg, dog3, nI_0]
  · rw [dogC0 hk] at h; simp [fv_X5_rowFor, h, f_X5_rowFor, f_X5_rowFor_b15, zgI, zg, dog3, show ¬ nI 1 = 0 by decide]
  · rw [dogC1 hk] at h; simp [fv_X5_rowFor, h, f_X5_rowFor, f_X5_rowFor_b15, zgI, zg, dog3, show ¬ nI 1 = 0 by decide]
  · rw [dogC4 hk] at h; simp [fv_X5_rowFor, h, f_X5_rowFor, f_X5_rowFor_b15, zgI, zg, dog3, show ¬ nI 1 = 0 by decide]
theorem c_rowY (h : M.1 a = some (dogCell D)) (hk : D 0 = 2 ∨ D 0 = 3) {w t : Nat} (hw : w < 2) (ht : t < 2 ^ 31) (h5 : D 5 < 2 ^ 31) : fv_X5_rowFor a (nI w) (nI t) M = some (nI (if D 5 ≤ t then D (3 + w) else D (1 + w)), M) := by
  have e : (nI (D 5) ≤ nI t) = (D 5 ≤ t) := propext (nI_leI h5 ht)
  rcases (show w = 0 ∨ w = 1 by omega) with rfl | rfl <;> rcases hk with hk | hk <;> by_cases hc : D 5 ≤ t
  · rw [dogC2 hk] at h; simp [fv_X5_rowFor, h, f_X6_rowFor, f_X6_rowFor_b39, f_X6_rowFor_b23, zgI, zg, dog6, nI_0, e, hc]
  · rw [dogC2 hk] at h; simp [fv_X5_rowFor, h, f_X6_rowFor, f_X6_rowFor_b39, f_X6_rowFor_b23, zgI, zg, dog6, nI_0, e, hc]
  · rw [dogC3 hk] at h; simp [fv_X5_rowFor, h, f_X6_rowFor, f_X6_rowFor_b39, f_X6_rowFor_b23, zgI, zg, dog6, nI_0, e, hc]
  · rw [dogC3 hk] at h; simp [fv_X5_rowFor, h, f_X6_rowFor, f_X6_rowFor_b39, f_X6_rowFor_b23, zgI, zg, dog6, nI_0, e, hc]
  · rw [dogC2 hk] at h; simp [fv_X5_rowFor, h, f_X6_rowFor, f_X6_rowFor_b39, f_X6_rowFor_b23, zgI, zg, dog6, show ¬ nI 1 = 0 by decide, e, hc]
  · rw [dogC2 hk] at h; simp [fv_X5_rowFor, h, f_X6_rowFor, f_X6_rowFor_b39, f_X6_rowFor_b23, zgI, zg, dog6, show ¬ nI 1 = 0 by decide, e, hc]
  · rw [dogC3 hk] at h; simp [fv_X5_rowFor, h, f_X6_rowFor, f_X6_rowFor_b39, f_X6_rowFor_b23, zgI, zg, dog6, show ¬ nI 1 = 0 by decide, e, hc]
  · rw [dogC3 hk] at h; simp [fv_X5_rowFor, h, f_X6_rowFor, f_X6_rowFor_b39, f_X6_rowFor_b23, zgI, zg, dog6, show ¬ nI 1 = 0 by decide, e, hc]
theorem c_next (h : M.1 a = some (dogCell D)) (hk : D 0 ≤ 4) (hD : ∀ j, j < 6 → D j < 2 ^ 31) {p w t sh : Nat} (hs : sh < 2 ^ 31) (hp : p < 8) (hw : w < 2) (ht : t < 2 ^ 31) : fv_X5_next a (nI p) (nI w) (nI t) (nI sh) M = some (nI (gog sh D w t p), M) := by
  have h1 := hD (1 + w) (by omega)
  have h3 := hD (3 + w) (by omega)
  have h5 := hD 5 (by omega)
  have m2 : t % 2 < 2 ^ 31 := Nat.lt_trans (Nat.mod_lt _ (by decide)) (by decide)
  rcases (show D 0 = 0 ∨ D 0 = 1 ∨ D 0 = 4 ∨ D 0 = 2 ∨ D 0 = 3 by omega) with k | k | k | k | k
  · have hr := c_rows (c_rowA h (Or.inl k) (t := t) hw) h1 hs hp
    rw [dogC0 k] at h
    simp [fv_X5_next, h, f_X5_next, fv_X5_byRows, hr, gog, k]
  · have hr := c_rows (c_rowA h (Or.inr (Or.inl k)) (t := t) hw) h1 hs hp
    rw [dogC1 k] at h
    simp only [fv_X5_next, h, f_X1_next, f_X1_next_b19, fv_X1_byRows, n_a1 (show t < 2 ^ 32 by omega), n_eq0 m2, gog, k]
    by_cases hc : t % 2 = 0
    · simp [hc, hr]
    · simp [hc, show t % 2 = 1 by omega]
  · have hr := c_rows (c_rowA h (Or.inr (Or.inr k)) (t := t) hw) h1 hs hp
    rw [dogC4 k] at h
    simp only [fv_X5_next, h, f_X9_next, f_X9_next_b19, n_a1 (show t < 2 ^ 32 by omega), n_eq0 m2, gog, k, zob]
    by_cases hc : t % 2 = 0
    · simp [hc]
    · simp [hc, hr]
  · have hr := c_rows (c_rowY h (Or.inl k) hw ht h5) (show (if D 5 ≤ t then D (3 + w) else D (1 + w)) < 2 ^ 31 by split <;> assumption) hs hp
    rw [dogC2 k] at h
    by_cases hc : D 5 ≤ t
    · rw [if_pos hc] at hr
      simp [fv_X5_next, h, f_X5_next, fv_X5_byRows, hr, gog, k, hc]
    · rw [if_neg hc] at hr
      simp [fv_X5_next, h, f_X5_next, fv_X5_byRows, hr, gog, k, hc]
  · have hr := c_rows (c_rowY h (Or.inr k) hw ht h5) (show (if D 5 ≤ t then D (3 + w) else D (1 + w)) < 2 ^ 31 by split <;> assumption) hs hp
    have hr2 := c_rows (p := stp sh (D (3 + w)) p) (c_rowY h (Or.inr k) hw ht h5) (show (if D 5 ≤ t then D (3 + w) else D (1 + w)) < 2 ^ 31 by split <;> assumption) hs (stp8 hp)
    have e : (nI (D 5) ≤ nI t) = (D 5 ≤ t) := propext (nI_leI h5 ht)
    rw [dogC3 k] at h
    have g5 : zgI M a [3] 5 = some (nI (D 5)) := by simp [zgI, zg, h, dog6]
    have ob : zob M a 3 = some () := by simp [zob, h]
    by_cases hc : D 5 ≤ t
    · rw [if_pos hc] at hr hr2
      simp [fv_X5_next, h, f_X3_next, f_X3_next_b34, hr, hr2, gog, k, hc, g5, ob, e]
    · rw [if_neg hc] at hr hr2
      simp [fv_X5_next, h, f_X3_next, f_X3_next_b34, hr, gog, k, hc, g5, ob, e]
theorem c_behind (h : M.1 a = some (dogCell D)) (hk : D 0 ≤ 4) (hD : ∀ j, j < 6 → D j < 2 ^ 31) {p tu n sh : Nat} (hs : sh < 2 ^ 31) (hp : p < 8) (hn : n < 32) (ht : tu < 2 ^ 31) : fv_X5_behind a (nI p) (nI tu) (nI n) (nI sh) M = some (nI (rnf sh D tu p n), M) := by
  have key : f_X5_behind a (nI p) (nI tu) (nI n) (nI sh) M = some (nI (rnf sh D tu p n), M) := by
    refine loopZ (fun fuel j => f_X5_behind_b6 fuel a (nI tu) (nI n) (nI sh) (nI (rnf sh D tu p j)) (nI j) M) n _ (by omega) (fun f j hj => ?_) (fun f => ?_)
    · show f_X5_behind_b6 (f + 1) a (nI tu) (nI n) (nI sh) (nI (rnf sh D tu p j)) (nI j) M = _
      rw [f_X5_behind_b6, if_neg (nI_ge hj (by omega)), n_bit ht (by omega), c_next h hk hD hs (rnf8 hp j) (bw2 _) (by omega), Option.bind_some, zlet, nI_1]
      rfl
    · show f_X5_behind_b6 (f + 1) a (nI tu) (nI n) (nI sh) (nI (rnf sh D tu p n)) (nI n) M = _
      rw [f_X5_behind_b6, if_pos (nI_le (Nat.le_refl n) (by omega))]
  rcases (show D 0 = 0 ∨ D 0 = 1 ∨ D 0 = 4 ∨ D 0 = 2 ∨ D 0 = 3 by omega) with k | k | k | k | k
  · rw [dogC0 k] at h; simp [fv_X5_behind, h, key]
  · rw [dogC1 k] at h; simp [fv_X5_behind, h, key]
  · rw [dogC4 k] at h; simp [fv_X5_behind, h, key]
  · rw [dogC2 k] at h; simp [fv_X5_behind, h, key]
  · rw [dogC3 k] at h; simp [fv_X5_behind, h, key]
theorem c_heeds (h : M.1 a = some (dogCell D)) (hk : D 0 ≤ 4) : fv_X5_heedsOdd a M = some (if D 0 = 1 ∨ D 0 = 4 then 1 else 0, M) := by
  rcases (show D 0 = 0 ∨ D 0 = 1 ∨ D 0 = 4 ∨ D 0 = 2 ∨ D 0 = 3 by omega) with k | k | k | k | k
  · rw [dogC0 k] at h; simp [fv_X5_heedsOdd, h, f_X5_heedsOdd, k]
  · rw [dogC1 k] at h; simp [fv_X5_heedsOdd, h, f_X1_heedsOdd, k]
  · rw [dogC4 k] at h; simp [fv_X5_heedsOdd, h, f_X1_heedsOdd, k]
  · rw [dogC2 k] at h; simp [fv_X5_heedsOdd, h, f_X5_heedsOdd, k]
  · rw [dogC3 k] at h; simp [fv_X5_heedsOdd, h, f_X5_heedsOdd, k]
end CD
