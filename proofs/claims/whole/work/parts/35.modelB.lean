/-! the reference's methods, one by one -/
theorem updA_s (ar : Nat → Nat → Int32) (j : Nat) (f : Nat → Int32) : updA ar j f j = f := by simp [updA]
theorem updA_n (ar : Nat → Nat → Int32) {j i : Nat} (f : Nat → Int32) (h : i ≠ j) : updA ar j f i = ar i := by simp [updA, h]
theorem updA_A (ar : Nat → Nat → Int32) (j : Nat) (f g : Nat → Int32) : updA (updA ar j f) j g = updA ar j g := by funext i; by_cases h : i = j <;> simp [updA, h]
theorem updA_id (ar : Nat → Nat → Int32) (j : Nat) : updA ar j (ar j) = ar := by funext i; by_cases h : i = j <;> simp [updA, h]
def fil (f : Nat → Int32) (j : Nat) : Nat → Int32 := fun k => if k < j then 0 else f k
theorem fil_0 (f : Nat → Int32) : fil f 0 = f := by funext k; simp [fil]
theorem fil_s (f : Nat → Int32) (j : Nat) : upd (fil f j) j 0 = fil f (j + 1) := by
  funext k
  by_cases h : k = j
  · subst h; simp [fil, upd]
  · by_cases h2 : k < j
    · simp [fil, upd, h, h2, show k < j + 1 by omega]
    · simp [fil, upd, h, h2, show ¬ k < j + 1 by omega]
theorem toI_lit (n : Nat) (h : n < 2 ^ 31) : (Int32.ofNat n).toInt = n := nI_toInt h
theorem zin_iff (v : Int32) (a b : Nat) (ha : a < 2 ^ 31) (hb : b < 2 ^ 31) : zin v (Int32.ofNat a) (Int32.ofNat b) ≠ 0 ↔ (a : Int) ≤ v.toInt ∧ v.toInt ≤ b := by
  have e1 := toI_lit a ha
  have e2 := toI_lit b hb
  unfold zin
  by_cases h1 : v < Int32.ofNat a
  · simp only [if_pos h1]
    rw [Int32.lt_iff_toInt_lt, e1] at h1
    simp; omega
  · rw [if_neg h1]
    by_cases h2 : Int32.ofNat b < v
    · rw [if_pos h2]
      rw [Int32.lt_iff_toInt_lt, e2] at h2
      simp; omega
    · rw [if_neg h2]
      rw [Int32.lt_iff_toInt_lt, e1] at h1
      rw [Int32.lt_iff_toInt_lt, e2] at h2
      simp; omega
theorem eq_of_toInt {v : Int32} {n : Nat} (h : n < 2 ^ 31) (e : v.toInt = n) : v = Int32.ofNat n := Int32.toInt_inj.mp (by rw [e, toI_lit n h])
theorem zin03 {w : Int32} (h : zin w 0 3 ≠ 0) : w = 0 ∨ w = 1 ∨ w = 2 ∨ w = 3 := by
  have := (zin_iff w 0 3 (by omega) (by omega)).mp h
  rcases (show w.toInt = 0 ∨ w.toInt = 1 ∨ w.toInt = 2 ∨ w.toInt = 3 by omega) with e | e | e | e
  · exact Or.inl (eq_of_toInt (n := 0) (by omega) e)
  · exact Or.inr (Or.inl (eq_of_toInt (n := 1) (by omega) e))
  · exact Or.inr (Or.inr (Or.inl (eq_of_toInt (n := 2) (by omega) e)))
  · exact Or.inr (Or.inr (Or.inr (eq_of_toInt (n := 3) (by omega) e)))
theorem zin02 {w : Int32} (h : zin w 0 2 ≠ 0) : w = 0 ∨ w = 1 ∨ w = 2 := by
  have := (zin_iff w 0 2 (by omega) (by omega)).mp h
  rcases (show w.toInt = 0 ∨ w.toInt = 1 ∨ w.toInt = 2 by omega) with e | e | e
  · exact Or.inl (eq_of_toInt (n := 0) (by omega) e)
  · exact Or.inr (Or.inl (eq_of_toInt (n := 1) (by omega) e))
  · exact Or.inr (Or.inr (eq_of_toInt (n := 2) (by omega) e))
theorem zin01' {w : Int32} (h : zin w 0 1 ≠ 0) : w = 0 ∨ w = 1 := by
  have := (zin_iff w 0 1 (by omega) (by omega)).mp h
  rcases (show w.toInt = 0 ∨ w.toInt = 1 by omega) with e | e
  · exact Or.inl (eq_of_toInt (n := 0) (by omega) e)
  · exact Or.inr (eq_of_toInt (n := 1) (by omega) e)
section MN
variable {M : zMe} {m : Nat} {sc : Nat → Int32} {lg : Nat → Int64} {ar : Nat → Nat → Int32} {en : Nat → Int64}
theorem mm_rN1 {k : Nat} (h : k < 25) : zrI (mmk M m sc lg ar en) (m + 1) (nI k) = some (ar 0 k) := by rw [mm_r1, if_neg (nI_in h (by omega)), nI_clamp (by omega)]
theorem mm_wN1 {k : Nat} {v : Int32} (h : k < 25) : zwI (mmk M m sc lg ar en) (m + 1) (nI k) v = some (mmk M m sc lg (updA ar 0 (upd (ar 0) k v)) en) := by rw [mm_w1, if_neg (nI_in h (by omega)), nI_clamp (by omega)]
theorem mm_rN2 {k : Nat} (h : k < 25) : zrI (mmk M m sc lg ar en) (m + 2) (nI k) = some (ar 1 k) := by rw [mm_r2, if_neg (nI_in h (by omega)), nI_clamp (by omega)]
theorem mm_wN2 {k : Nat} {v : Int32} (h : k < 25) : zwI (mmk M m sc lg ar en) (m + 2) (nI k) v = some (mmk M m sc lg (updA ar 1 (upd (ar 1) k v)) en) := by rw [mm_w2, if_neg (nI_in h (by omega)), nI_clamp (by omega)]
theorem mm_rN3 {k : Nat} (h : k < 50) : zrI (mmk M m sc lg ar en) (m + 3) (nI k) = some (ar 2 k) := by rw [mm_r3, if_neg (nI_in h (by omega)), nI_clamp (by omega)]
theorem mm_wN3 {k : Nat} {v : Int32} (h : k < 50) : zwI (mmk M m sc lg ar en) (m + 3) (nI k) v = some (mmk M m sc lg (updA ar 2 (upd (ar 2) k v)) en) := by rw [mm_w3, if_neg (nI_in h (by omega)), nI_clamp (by omega)]
theorem mm_rN4 {k : Nat} (h : k < 2) : zrZ (mmk M m sc lg ar en) (m + 4) (nI k) = some (ar 3 k) := by rw [mm_r4, if_neg (nI_in h (by omega)), nI_clamp (by omega)]
theorem mm_wN4 {k : Nat} {v : Int32} (h : k < 2) : zwZ (mmk M m sc lg ar en) (m + 4) (nI k) v = some (mmk M m sc lg (updA ar 3 (upd (ar 3) k (vp_nar .boolean v))) en) := by rw [mm_w4, if_neg (nI_in h (by omega)), nI_clamp (by omega)]
theorem mm_rN5 {k : Nat} (h : k < 200) : zrI (mmk M m sc lg ar en) (m + 5) (nI k) = some (ar 4 k) := by rw [mm_r5, if_neg (nI_in h (by omega)), nI_clamp (by omega)]
theorem mm_wN5 {k : Nat} {v : Int32} (h : k < 200) : zwI (mmk M m sc lg ar en) (m + 5) (nI k) v = some (mmk M m sc lg (updA ar 4 (upd (ar 4) k v)) en) := by rw [mm_w5, if_neg (nI_in h (by omega)), nI_clamp (by omega)]
theorem mm_rN6 {k : Nat} (h : k < 3) : zrI (mmk M m sc lg ar en) (m + 6) (nI k) = some (ar 5 k) := by rw [mm_r6, if_neg (nI_in h (by omega)), nI_clamp (by omega)]
theorem mm_wN6 {k : Nat} {v : Int32} (h : k < 3) : zwI (mmk M m sc lg ar en) (m + 6) (nI k) v = some (mmk M m sc lg (updA ar 5 (upd (ar 5) k v)) en) := by rw [mm_w6, if_neg (nI_in h (by omega)), nI_clamp (by omega)]
theorem mm_rN7 {k : Nat} (h : k < 65536) : zrI (mmk M m sc lg ar en) (m + 7) (nI k) = some (ar 6 k) := by rw [mm_r7, if_neg (nI_in h (by omega)), nI_clamp (by omega)]
theorem mm_wN7 {k : Nat} {v : Int32} (h : k < 65536) : zwI (mmk M m sc lg ar en) (m + 7) (nI k) v = some (mmk M m sc lg (updA ar 6 (upd (ar 6) k v)) en) := by rw [mm_w7, if_neg (nI_in h (by omega)), nI_clamp (by omega)]
theorem mm_rN8 {k : Nat} (h : k < 65536) : zrI (mmk M m sc lg ar en) (m + 8) (nI k) = some (ar 7 k) := by rw [mm_r8, if_neg (nI_in h (by omega)), nI_clamp (by omega)]
theorem mm_wN8 {k : Nat} {v : Int32} (h : k < 65536) : zwI (mmk M m sc lg ar en) (m + 8) (nI k) v = some (mmk M m sc lg (updA ar 7 (upd (ar 7) k v)) en) := by rw [mm_w8, if_neg (nI_in h (by omega)), nI_clamp (by omega)]
theorem mm_rN9 {k : Nat} (h : k < 2) : zrI (mmk M m sc lg ar en) (m + 9) (nI k) = some (ar 8 k) := by rw [mm_r9, if_neg (nI_in h (by omega)), nI_clamp (by omega)]
theorem mm_wN9 {k : Nat} {v : Int32} (h : k < 2) : zwI (mmk M m sc lg ar en) (m + 9) (nI k) v = some (mmk M m sc lg (updA ar 8 (upd (ar 8) k v)) en) := by rw [mm_w9, if_neg (nI_in h (by omega)), nI_clamp (by omega)]
theorem mm_rN10 {k : Nat} (h : k < 125) : zrZ (mmk M m sc lg ar en) (m + 10) (nI k) = some (ar 9 k) := by rw [mm_r10, if_neg (nI_in h (by omega)), nI_clamp (by omega)]
theorem mm_wN10 {k : Nat} {v : Int32} (h : k < 125) : zwZ (mmk M m sc lg ar en) (m + 10) (nI k) v = some (mmk M m sc lg (updA ar 9 (upd (ar 9) k (vp_nar .boolean v))) en) := by rw [mm_w10, if_neg (nI_in h (by omega)), nI_clamp (by omega)]
theorem mm_rN11 {k : Nat} (h : k < 288) : zrI (mmk M m sc lg ar en) (m + 11) (nI k) = some (ar 10 k) := by rw [mm_r11, if_neg (nI_in h (by omega)), nI_clamp (by omega)]
theorem mm_wN11 {k : Nat} {v : Int32} (h : k < 288) : zwI (mmk M m sc lg ar en) (m + 11) (nI k) v = some (mmk M m sc lg (updA ar 10 (upd (ar 10) k v)) en) := by rw [mm_w11, if_neg (nI_in h (by omega)), nI_clamp (by omega)]
end MN
section MB
variable {M : zMe} {m : Nat} {sc : Nat → Int32} {lg : Nat → Int64} {ar : Nat → Nat → Int32} {en : Nat → Int64}
theorem m_placesL (n w b c : Int32) (f : Nat → Int32) : ∀ r j fuel, j + r = 25 → r < fuel → f_X12_places_b39 fuel m n w b c (nI j) (mmk M m sc lg (updA ar 0 (fil f j)) en) = some (w, mmk M m sc lg (updA ar 0 (upd (upd (upd (fil f 25) 0 n) 4 b) 5 c)) en) := by
  intro r
  induction r with
  | zero =>
    intro j fuel hj hf
    obtain ⟨k, rfl⟩ : ∃ k, fuel = k + 1 := ⟨fuel - 1, by omega⟩
    have hj : j = 25 := by omega
    subst hj
    rw [f_X12_places_b39, if_pos (show (25 : Int32) ≤ nI 25 by decide)]
    simp (decide := true) only [mm_gN0, mm_w1, Option.bind_some, if_neg, updA_s, updA_A, zt0, zt1, zt2, zt3, zt4, zt5, zt6, zt7, zt8, zt9, zt10, zt11, zt12, zt13, zt14, zt15, zt16, zt17, zt18, zt19, zt20, zt21, zt22, zt23, zt24, zt25, zt26, zt27, zt28, zt29, zt30, zt31, zt32, zt33, zt34, zt35, zt36, zt37, zt38, zt39, zt40, zt41, zt42, zt43, zt44, zt45, zt46, zt47, zt48, zt49, zt50, zt200]
  | succ r ih =>
    intro j fuel hj hf
    obtain ⟨k, rfl⟩ : ∃ k, fuel = k + 1 := ⟨fuel - 1, by omega⟩
    have h25 : ¬ (25 : Int32) ≤ nI j := nI_ge (b := 25) (show j < 25 by omega) (by omega)
    rw [f_X12_places_b39, if_neg h25]
    rw [mm_gN0, Option.bind_some, mm_w1, if_neg (nI_in (show j < 25 by omega) (by omega)), Option.bind_some, updA_s, updA_A, nI_clamp (by omega), fil_s, zlet, nI_1]
    exact ih (j + 1) k (by omega) (by omega)
/-- the book behind places(v) -/
def bplaces (bk : Nat → Int32) (v : Int32) : Nat → Int32 := upd (upd (upd (fil bk 25) 0 v) 4 (bk 4)) 5 (bk 5)
theorem m_places (v : Int32) : f_X12_places m v (mmk M m sc lg ar en) = if zin v 2 5 = 0 then some (-2, mmk M m sc lg (mref ar 0) en) else some (ar 0 0, mmk M m sc lg (updA ar 0 (bplaces (ar 0) v)) en) := by
  simp (decide := true) only [f_X12_places, m_in, Option.bind_some, mm_ob, m_bad, mm_gN0, mm_r1, if_neg, zt0, zt1, zt2, zt3, zt4, zt5, zt6, zt7, zt8, zt9, zt10, zt11, zt12, zt13, zt14, zt15, zt16, zt17, zt18, zt19, zt20, zt21, zt22, zt23, zt24, zt25, zt26, zt27, zt28, zt29, zt30, zt31, zt32, zt33, zt34, zt35, zt36, zt37, zt38, zt39, zt40, zt41, zt42, zt43, zt44, zt45, zt46, zt47, zt48, zt49, zt50, zt200]
  have e := m_placesL (M := M) (m := m) (sc := sc) (lg := lg) (ar := ar) (en := en) v (ar 0 0) (ar 0 4) (ar 0 5) (ar 0) 25 0 zfu (by omega) (by decide)
  rw [fil_0, updA_id] at e
  by_cases h : zin v 2 5 = 0
  · rw [if_pos h, if_pos h]
  · rw [if_neg h, if_neg h]
    exact e
theorem m_shut (p is : Int32) : f_X12_shut m p is (mmk M m sc lg ar en) = if zin p 0 (ar 0 0 - 1) = 0 then some (-2, mmk M m sc lg (mref ar 0) en) else if (if ((ar 0 1 >>> (p &&& 31)) &&& 1) = 1 then (1 : Int32) else 0) = is then some (-3, mmk M m sc lg (mref ar 1) en) else some (1, mmk M m sc lg (updA ar 0 (upd (ar 0) 1 (ar 0 1 ^^^ ((1 : Int32) <<< (p &&& 31))))) en) := by
  simp (decide := true) only [f_X12_shut, f_X12_shut_b32, m_isPlace, Option.bind_some, mm_ob, m_bad, m_ref1, mm_gN0, mm_r1, mm_w1, if_neg, zt0, zt1, zt2, zt3, zt4, zt5, zt6, zt7, zt8, zt9, zt10, zt11, zt12, zt13, zt14, zt15, zt16, zt17, zt18, zt19, zt20, zt21, zt22, zt23, zt24, zt25, zt26, zt27, zt28, zt29, zt30, zt31, zt32, zt33, zt34, zt35, zt36, zt37, zt38, zt39, zt40, zt41, zt42, zt43, zt44, zt45, zt46, zt47, zt48, zt49, zt50, zt200]
  by_cases h : zin p 0 (ar 0 0 - 1) = 0
  · rw [if_pos h, if_pos h]
  · rw [if_neg h, if_neg h]
    by_cases h2 : ((ar 0 1 >>> (p &&& 31)) &&& 1) = 1
    · simp only [if_pos h2]
    · simp only [if_neg h2]
/-- may v be put as what w? -/
def mput (bk : Nat → Int32) (w v : Int32) : Int32 := if w = 0 then zin v 0 (bk 0 - 1) else if w = 1 then zin v 0 (((1 : Int32) <<< (bk 0 &&& 31)) - 1) else zin v 1 9
theorem m_put (w v : Int32) : f_X12_put m w v (mmk M m sc lg ar en) = if zin w 0 3 = 0 ∨ mput (ar 0) w v = 0 then some (-2, mmk M m sc lg (mref ar 0) en) else some (ar 0 (2 + w).toNatClampNeg, mmk M m sc lg (updA ar 0 (upd (ar 0) (2 + w).toNatClampNeg v)) en) := by
  have key : ∀ y : Int32, f_X12_put_b42 m w v y (mmk M m sc lg ar en) = if zin w 0 3 = 0 ∨ y = 0 then some (-2, mmk M m sc lg (mref ar 0) en) else some (ar 0 (2 + w).toNatClampNeg, mmk M m sc lg (updA ar 0 (upd (ar 0) (2 + w).toNatClampNeg v)) en) := by
    intro y
    simp only [f_X12_put_b42, f_X12_put_b56, m_in, Option.bind_some, mm_ob, m_bad, mm_gN0, mm_r1, mm_w1, zlet]
    by_cases h : zin w 0 3 = 0
    · rw [if_pos h, if_pos (Or.inl h)]
    · by_cases h2 : y = 0
      · rw [if_neg h, if_pos h2, if_pos (Or.inr h2)]
      · have h3 : ¬ ((2 + w) < 0 ∨ 25 ≤ (2 + w).toNatClampNeg) := by
          rcases zin03 h with rfl | rfl | rfl | rfl <;> decide
        simp only [if_neg h, if_neg h2, if_neg (show ¬ (zin w 0 3 = 0 ∨ y = 0) from fun o => o.elim h h2), if_neg h3, Option.bind_some]
  unfold f_X12_put mput
  simp (decide := true) only [m_isPlace, Option.bind_some, mm_ob, m_in, mm_gN0, mm_r1, if_neg, key, zt0, zt1, zt2, zt3, zt4, zt5, zt6, zt7, zt8, zt9, zt10, zt11, zt12, zt13, zt14, zt15, zt16, zt17, zt18, zt19, zt20, zt21, zt22, zt23, zt24, zt25, zt26, zt27, zt28, zt29, zt30, zt31, zt32, zt33, zt34, zt35, zt36, zt37, zt38, zt39, zt40, zt41, zt42, zt43, zt44, zt45, zt46, zt47, zt48, zt49, zt50, zt200]
  by_cases h : w = 0
  · simp only [if_pos h]
  · by_cases h2 : w = 1
    · simp only [if_neg h, if_pos h2]
    · simp only [if_neg h, if_neg h2]
theorem m_part (w : Int32) : f_X12_part m w (mmk M m sc lg ar en) = if w = 0 then some (lg 0, mmk M m sc lg ar en) else if w = 1 then some (lg 1, mmk M m sc lg ar en) else some (-2, mmk M m sc lg (mref ar 0) en) := by
  have e : ((-2 : Int32)).toInt64 = -2 := by decide
  simp only [f_X12_part, f_X12_part_b28, mm_gL7, mm_gL8, Option.bind_some, mm_ob, m_bad, e]
theorem m_status (w : Int32) : f_X12_status m w (mmk M m sc lg ar en) = if zin w 0 2 = 0 then some (-1, mmk M m sc lg (mref ar 0) en) else some (ar 5 w.toNatClampNeg, mmk M m sc lg ar en) := by
  simp only [f_X12_status, f_X12_status_b24, m_in, Option.bind_some, mm_ob, m_ref0, mm_gN6, mm_r6]
  by_cases h : zin w 0 2 = 0
  · rw [if_pos h, if_pos h]
  · have h3 : ¬ (w < 0 ∨ 3 ≤ w.toNatClampNeg) := by rcases zin02 h with rfl | rfl | rfl <;> decide
    rw [if_neg h, if_neg h]
    simp only [if_neg h3, Option.bind_some]
/-- how many of the five lowest bits -/
def mbits (s : Int32) : Int32 := 0 + ((s >>> ((0 : Int32) &&& 31)) &&& 1) + ((s >>> ((0 + 1 : Int32) &&& 31)) &&& 1) + ((s >>> ((0 + 1 + 1 : Int32) &&& 31)) &&& 1) + ((s >>> ((0 + 1 + 1 + 1 : Int32) &&& 31)) &&& 1) + ((s >>> ((0 + 1 + 1 + 1 + 1 : Int32) &&& 31)) &&& 1)
theorem m_bits (s : Int32) : f_X12_bits s M = some (mbits s, M) := by
  have e : zfu = 999994 + 1 + 1 + 1 + 1 + 1 + 1 := rfl
  unfold f_X12_bits
  rw [e]
  rw [f_X12_bits_b4, if_neg (by decide), zlet, zlet, f_X12_bits_b4, if_neg (by decide), zlet, zlet, f_X12_bits_b4, if_neg (by decide), zlet, zlet, f_X12_bits_b4, if_neg (by decide), zlet, zlet, f_X12_bits_b4, if_neg (by decide), zlet, zlet, f_X12_bits_b4, if_pos (by decide)]
  rfl
theorem m_counted (w : Int32) : f_X12_counted m w (mmk M m sc lg ar en) = some (if w = 0 then ar 0 0 else if w = 1 then ar 0 6 else if w = 2 then mbits (ar 0 1) else sc 0, mmk M m sc lg ar en) := by
  simp (decide := true) only [f_X12_counted, f_X12_counted_b49, mm_gN0, mm_r1, mm_gI5, Option.bind_some, m_bits, if_neg, zt0, zt1, zt2, zt3, zt4, zt5, zt6, zt7, zt8, zt9, zt10, zt11, zt12, zt13, zt14, zt15, zt16, zt17, zt18, zt19, zt20, zt21, zt22, zt23, zt24, zt25, zt26, zt27, zt28, zt29, zt30, zt31, zt32, zt33, zt34, zt35, zt36, zt37, zt38, zt39, zt40, zt41, zt42, zt43, zt44, zt45, zt46, zt47, zt48, zt49, zt50, zt200]
  by_cases h0 : w = 0
  · simp only [if_pos h0]
  · by_cases h1 : w = 1
    · simp only [if_neg h0, if_pos h1]
    · by_cases h2 : w = 2
      · simp only [if_neg h0, if_neg h1, if_pos h2]
      · simp only [if_neg h0, if_neg h1, if_neg h2]
theorem m_count (w : Int32) : f_X12_count m w (mmk M m sc lg ar en) = if zin w 0 3 = 0 then some (-2, mmk M m sc lg (mref ar 0) en) else some (if w = 0 then ar 0 0 else if w = 1 then ar 0 6 else if w = 2 then mbits (ar 0 1) else sc 0, mmk M m sc lg ar en) := by
  simp only [f_X12_count, f_X12_count_b21, m_in, Option.bind_some, mm_ob, m_bad, m_counted]
/-- where a dog goes by one row -/
def mstep (bk : Nat → Int32) (row p : Int32) : Int32 := if ((bk 1 >>> (((row >>> ((3 * p) &&& 31)) &&& 7) &&& 31)) &&& 1) = 1 then p else (row >>> ((3 * p) &&& 31)) &&& 7
theorem m_step (row p : Int32) : f_X12_step m row p (mmk M m sc lg ar en) = some (mstep (ar 0) row p, mmk M m sc lg ar en) := by
  simp (decide := true) only [f_X12_step, f_X12_step_b28, zlet, mm_gN0, mm_r1, Option.bind_some, if_neg, mstep, zt0, zt1, zt2, zt3, zt4, zt5, zt6, zt7, zt8, zt9, zt10, zt11, zt12, zt13, zt14, zt15, zt16, zt17, zt18, zt19, zt20, zt21, zt22, zt23, zt24, zt25, zt26, zt27, zt28, zt29, zt30, zt31, zt32, zt33, zt34, zt35, zt36, zt37, zt38, zt39, zt40, zt41, zt42, zt43, zt44, zt45, zt46, zt47, zt48, zt49, zt50, zt200]
  split <;> rfl
/-- where dog d, whose kind is k, whose rows are r 0 .. r 3, who learns at mm, goes -/
def mgo (bk : Nat → Int32) (d : Nat) (p w t : Int32) : Int32 :=
  if bk (7 + 6 * d) = 1 ∧ t - t / 2 * 2 = 1 then p
  else if bk (7 + 6 * d) = 4 ∧ t - t / 2 * 2 = 0 then p
  else if (bk (7 + 6 * d) = 2 ∨ bk (7 + 6 * d) = 3) ∧ ¬ t < bk (7 + 6 * d + 5) then
    (if bk (7 + 6 * d) = 3 then mstep bk (bk (7 + 6 * d + 3 + w.toNatClampNeg)) (mstep bk (bk (7 + 6 * d + 3 + w.toNatClampNeg)) p) else mstep bk (bk (7 + 6 * d + 3 + w.toNatClampNeg)) p)
  else mstep bk (bk (7 + 6 * d + 1 + w.toNatClampNeg)) p
theorem m_go (d : Nat) (hd : d < 3) (p w t : Int32) (hw : w = 0 ∨ w = 1) : f_X12_go m (nI d) p w t (mmk M m sc lg ar en) = some (mgo (ar 0) d p w t, mmk M m sc lg ar en) := by
  have e1 : (7 + 6 * nI d : Int32) = nI (7 + 6 * d) := by
    rw [show (6 : Int32) = nI 6 from rfl, show (7 : Int32) = nI 7 from rfl, pk_mul, nI_add]
  have i1 : ∀ k, k < 25 → ¬ (nI k < 0 ∨ 25 ≤ (nI k).toNatClampNeg) := fun k hk => nI_in hk (by omega)
  have c1 : ∀ k, k < 25 → (nI k).toNatClampNeg = k := fun k hk => nI_clamp (by omega)
  have e5 : nI (7 + 6 * d) + 5 = nI (7 + 6 * d + 5) := by rw [show (5 : Int32) = nI 5 from rfl, nI_add]
  have ea : nI (7 + 6 * d) + 1 + w + 0 = nI (7 + 6 * d + 1 + w.toNatClampNeg) := by
    rcases hw with rfl | rfl
    · rw [show (1 : Int32) = nI 1 from rfl, show (0 : Int32) = nI 0 from rfl, nI_add, nI_add, nI_add, show (nI 0).toNatClampNeg = 0 from rfl]
    · rw [show (1 : Int32) = nI 1 from rfl, show (0 : Int32) = nI 0 from rfl, nI_add, nI_add, nI_add, show (nI 1).toNatClampNeg = 1 from rfl]
  have eb : nI (7 + 6 * d) + 1 + w + 2 = nI (7 + 6 * d + 3 + w.toNatClampNeg) := by
    rcases hw with rfl | rfl
    · rw [show (1 : Int32) = nI 1 from rfl, show (0 : Int32) = nI 0 from rfl, show (2 : Int32) = nI 2 from rfl, nI_add, nI_add, nI_add, show (nI 0).toNatClampNeg = 0 from rfl]
    · rw [show (1 : Int32) = nI 1 from rfl, show (2 : Int32) = nI 2 from rfl, nI_add, nI_add, nI_add, show (nI 1).toNatClampNeg = 1 from rfl]
  have hwc : w.toNatClampNeg ≤ 1 := by rcases hw with rfl | rfl <;> decide
  have ra : zrI (mmk M m sc lg ar en) (m + 1) (nI (7 + 6 * d + 1 + w.toNatClampNeg)) = some (ar 0 (7 + 6 * d + 1 + w.toNatClampNeg)) := mm_rN1 (by omega)
  have rb : zrI (mmk M m sc lg ar en) (m + 1) (nI (7 + 6 * d + 3 + w.toNatClampNeg)) = some (ar 0 (7 + 6 * d + 3 + w.toNatClampNeg)) := mm_rN1 (by omega)
  have r5 : zrI (mmk M m sc lg ar en) (m + 1) (nI (7 + 6 * d + 5)) = some (ar 0 (7 + 6 * d + 5)) := mm_rN1 (by omega)
  have r0 : zrI (mmk M m sc lg ar en) (m + 1) (nI (7 + 6 * d)) = some (ar 0 (7 + 6 * d)) := mm_rN1 (by omega)
  have b78 : ∀ (y : Int32), f_X12_go_b78 m p w (nI (7 + 6 * d)) (ar 0 (7 + 6 * d)) y (mmk M m sc lg ar en) = some (if y = 0 then mstep (ar 0) (ar 0 (7 + 6 * d + 1 + w.toNatClampNeg)) p else if ar 0 (7 + 6 * d) = 3 then mstep (ar 0) (ar 0 (7 + 6 * d + 3 + w.toNatClampNeg)) (mstep (ar 0) (ar 0 (7 + 6 * d + 3 + w.toNatClampNeg)) p) else mstep (ar 0) (ar 0 (7 + 6 * d + 3 + w.toNatClampNeg)) p, mmk M m sc lg ar en) := by
    intro y
    simp only [f_X12_go_b78, f_X12_go_b100, f_X12_go_b135, f_X12_go_b137, mm_gN0, Option.bind_some, ea, eb, ra, rb, mm_ob, m_step]
    by_cases hy : y = 0
    · simp only [if_pos hy]
    · simp only [if_neg hy]
      by_cases h3 : ar 0 (7 + 6 * d) = 3
      · simp only [if_pos h3]
      · simp only [if_neg h3]
  have b47 : f_X12_go_b47 m p w t (nI (7 + 6 * d)) (ar 0 (7 + 6 * d)) (mmk M m sc lg ar en) = some (if (ar 0 (7 + 6 * d) = 2 ∨ ar 0 (7 + 6 * d) = 3) ∧ ¬ t < ar 0 (7 + 6 * d + 5) then (if ar 0 (7 + 6 * d) = 3 then mstep (ar 0) (ar 0 (7 + 6 * d + 3 + w.toNatClampNeg)) (mstep (ar 0) (ar 0 (7 + 6 * d + 3 + w.toNatClampNeg)) p) else mstep (ar 0) (ar 0 (7 + 6 * d + 3 + w.toNatClampNeg)) p) else mstep (ar 0) (ar 0 (7 + 6 * d + 1 + w.toNatClampNeg)) p, mmk M m sc lg ar en) := by
    simp only [f_X12_go_b47, f_X12_go_b59, f_X12_go_b77, b78, mm_gN0, Option.bind_some, e5, r5]
    generalize ar 0 (7 + 6 * d) = K
    by_cases h2 : K = 2
    · by_cases ht : t < ar 0 (7 + 6 * d + 5)
      · simp (decide := true) only [if_pos h2, if_pos ht, if_true, if_neg (show ¬ ((K = 2 ∨ K = 3) ∧ ¬ t < ar 0 (7 + 6 * d + 5)) from fun o => o.2 ht)]
      · simp (decide := true) only [if_pos h2, if_neg ht, if_false, if_pos (show ((K = 2 ∨ K = 3) ∧ ¬ t < ar 0 (7 + 6 * d + 5)) from ⟨Or.inl h2, ht⟩)]
    · by_cases h3 : K = 3
      · by_cases ht : t < ar 0 (7 + 6 * d + 5)
        · simp (decide := true) only [if_neg h2, if_pos h3, if_pos ht, if_true, if_neg (show ¬ ((K = 2 ∨ K = 3) ∧ ¬ t < ar 0 (7 + 6 * d + 5)) from fun o => o.2 ht)]
        · simp (decide := true) only [if_neg h2, if_pos h3, if_neg ht, if_false, if_pos (show ((K = 2 ∨ K = 3) ∧ ¬ t < ar 0 (7 + 6 * d + 5)) from ⟨Or.inr h3, ht⟩)]
      · simp (decide := true) only [if_neg h2, if_neg h3, if_true, if_neg (show ¬ ((K = 2 ∨ K = 3) ∧ ¬ t < ar 0 (7 + 6 * d + 5)) from fun o => o.1.elim h2 h3)]
  simp only [f_X12_go, f_X12_go_b32, f_X12_go_b45, zlet, e1, mm_gN0, Option.bind_some, r0, b47]
  unfold mgo
  generalize ar 0 (7 + 6 * d) = K
  by_cases h1 : K = 1
  · by_cases ht : t - t / 2 * 2 = 1
    · simp only [if_pos h1, if_pos ht, if_pos (show K = 1 ∧ t - t / 2 * 2 = 1 from ⟨h1, ht⟩)]
    · simp (decide := true) only [if_pos h1, if_neg ht, if_neg (show ¬ (K = 1 ∧ t - t / 2 * 2 = 1) from fun o => ht o.2), if_neg (show ¬ K = 4 by rw [h1]; decide), if_neg (show ¬ (K = 4 ∧ t - t / 2 * 2 = 0) from fun o => absurd o.1 (by rw [h1]; decide))]
  · by_cases h4 : K = 4
    · by_cases ht : t - t / 2 * 2 = 0
      · simp only [if_neg h1, if_pos h4, if_pos ht, if_neg (show ¬ (K = 1 ∧ t - t / 2 * 2 = 1) from fun o => h1 o.1), if_pos (show K = 4 ∧ t - t / 2 * 2 = 0 from ⟨h4, ht⟩)]
      · simp only [if_neg h1, if_pos h4, if_neg ht, if_neg (show ¬ (K = 1 ∧ t - t / 2 * 2 = 1) from fun o => h1 o.1), if_neg (show ¬ (K = 4 ∧ t - t / 2 * 2 = 0) from fun o => ht o.2)]
    · simp only [if_neg h1, if_neg h4, if_neg (show ¬ (K = 1 ∧ t - t / 2 * 2 = 1) from fun o => h1 o.1), if_neg (show ¬ (K = 4 ∧ t - t / 2 * 2 = 0) from fun o => h4 o.1)]
end MB
