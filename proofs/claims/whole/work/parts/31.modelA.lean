theorem zt0 : (0 : Int32).toNatClampNeg = 0 := by decide
theorem zt1 : (1 : Int32).toNatClampNeg = 1 := by decide
theorem zt2 : (2 : Int32).toNatClampNeg = 2 := by decide
theorem zt3 : (3 : Int32).toNatClampNeg = 3 := by decide
theorem zt4 : (4 : Int32).toNatClampNeg = 4 := by decide
theorem zt5 : (5 : Int32).toNatClampNeg = 5 := by decide
theorem zt6 : (6 : Int32).toNatClampNeg = 6 := by decide
theorem zt7 : (7 : Int32).toNatClampNeg = 7 := by decide
theorem zt8 : (8 : Int32).toNatClampNeg = 8 := by decide
theorem zt9 : (9 : Int32).toNatClampNeg = 9 := by decide
theorem zt10 : (10 : Int32).toNatClampNeg = 10 := by decide
theorem zt11 : (11 : Int32).toNatClampNeg = 11 := by decide
theorem zt12 : (12 : Int32).toNatClampNeg = 12 := by decide
theorem zt13 : (13 : Int32).toNatClampNeg = 13 := by decide
theorem zt14 : (14 : Int32).toNatClampNeg = 14 := by decide
theorem zt15 : (15 : Int32).toNatClampNeg = 15 := by decide
theorem zt16 : (16 : Int32).toNatClampNeg = 16 := by decide
theorem zt17 : (17 : Int32).toNatClampNeg = 17 := by decide
theorem zt18 : (18 : Int32).toNatClampNeg = 18 := by decide
theorem zt19 : (19 : Int32).toNatClampNeg = 19 := by decide
theorem zt20 : (20 : Int32).toNatClampNeg = 20 := by decide
theorem zt21 : (21 : Int32).toNatClampNeg = 21 := by decide
theorem zt22 : (22 : Int32).toNatClampNeg = 22 := by decide
theorem zt23 : (23 : Int32).toNatClampNeg = 23 := by decide
theorem zt24 : (24 : Int32).toNatClampNeg = 24 := by decide
theorem zt25 : (25 : Int32).toNatClampNeg = 25 := by decide
theorem zt26 : (26 : Int32).toNatClampNeg = 26 := by decide
theorem zt27 : (27 : Int32).toNatClampNeg = 27 := by decide
theorem zt28 : (28 : Int32).toNatClampNeg = 28 := by decide
theorem zt29 : (29 : Int32).toNatClampNeg = 29 := by decide
theorem zt30 : (30 : Int32).toNatClampNeg = 30 := by decide
theorem zt31 : (31 : Int32).toNatClampNeg = 31 := by decide
theorem zt32 : (32 : Int32).toNatClampNeg = 32 := by decide
theorem zt33 : (33 : Int32).toNatClampNeg = 33 := by decide
theorem zt34 : (34 : Int32).toNatClampNeg = 34 := by decide
theorem zt35 : (35 : Int32).toNatClampNeg = 35 := by decide
theorem zt36 : (36 : Int32).toNatClampNeg = 36 := by decide
theorem zt37 : (37 : Int32).toNatClampNeg = 37 := by decide
theorem zt38 : (38 : Int32).toNatClampNeg = 38 := by decide
theorem zt39 : (39 : Int32).toNatClampNeg = 39 := by decide
theorem zt40 : (40 : Int32).toNatClampNeg = 40 := by decide
theorem zt41 : (41 : Int32).toNatClampNeg = 41 := by decide
theorem zt42 : (42 : Int32).toNatClampNeg = 42 := by decide
theorem zt43 : (43 : Int32).toNatClampNeg = 43 := by decide
theorem zt44 : (44 : Int32).toNatClampNeg = 44 := by decide
theorem zt45 : (45 : Int32).toNatClampNeg = 45 := by decide
theorem zt46 : (46 : Int32).toNatClampNeg = 46 := by decide
theorem zt47 : (47 : Int32).toNatClampNeg = 47 := by decide
theorem zt48 : (48 : Int32).toNatClampNeg = 48 := by decide
theorem zt49 : (49 : Int32).toNatClampNeg = 49 := by decide
theorem zt50 : (50 : Int32).toNatClampNeg = 50 := by decide
theorem zt200 : (200 : Int32).toNatClampNeg = 200 := by decide
def zin (a b c : Int32) : Int32 := if a < b then 0 else if c < a then 0 else 1
theorem zin01 (a b c : Int32) : zin a b c = 0 ∨ zin a b c = 1 := by unfold zin; split <;> (try split) <;> simp
theorem m_in (a b c : Int32) (M : zMe) : f_X12_in a b c M = some (zin a b c, M) := by
  unfold f_X12_in f_X12_in_b14 f_X12_in_b15 zin
  split
  · simp
  · split <;> simp
def mref (ar : Nat → Nat → Int32) (k : Nat) : Nat → Nat → Int32 := updA ar 5 (upd (ar 5) k (ar 5 k + 1))
section MA
variable {M : zMe} {m : Nat} {sc : Nat → Int32} {lg : Nat → Int64} {ar : Nat → Nat → Int32} {en : Nat → Int64}
theorem m_ref0 (v : Int32) : f_X12_refuses m 0 v (mmk M m sc lg ar en) = some (v, mmk M m sc lg (mref ar 0) en) := by
  simp (decide := true) only [f_X12_refuses, mm_gN6, mm_r6, mm_w6, Option.bind_some, if_neg, mref, zt0, zt1, zt2, zt3, zt4, zt5, zt6, zt7, zt8, zt9, zt10, zt11, zt12, zt13, zt14, zt15, zt16, zt17, zt18, zt19, zt20, zt21, zt22, zt23, zt24, zt25, zt26, zt27, zt28, zt29, zt30, zt31, zt32, zt33, zt34, zt35, zt36, zt37, zt38, zt39, zt40, zt41, zt42, zt43, zt44, zt45, zt46, zt47, zt48, zt49, zt50, zt200]
theorem m_ref1 (v : Int32) : f_X12_refuses m 1 v (mmk M m sc lg ar en) = some (v, mmk M m sc lg (mref ar 1) en) := by
  simp (decide := true) only [f_X12_refuses, mm_gN6, mm_r6, mm_w6, Option.bind_some, if_neg, mref, zt0, zt1, zt2, zt3, zt4, zt5, zt6, zt7, zt8, zt9, zt10, zt11, zt12, zt13, zt14, zt15, zt16, zt17, zt18, zt19, zt20, zt21, zt22, zt23, zt24, zt25, zt26, zt27, zt28, zt29, zt30, zt31, zt32, zt33, zt34, zt35, zt36, zt37, zt38, zt39, zt40, zt41, zt42, zt43, zt44, zt45, zt46, zt47, zt48, zt49, zt50, zt200]
theorem m_ref2 (v : Int32) : f_X12_refuses m 2 v (mmk M m sc lg ar en) = some (v, mmk M m sc lg (mref ar 2) en) := by
  simp (decide := true) only [f_X12_refuses, mm_gN6, mm_r6, mm_w6, Option.bind_some, if_neg, mref, zt0, zt1, zt2, zt3, zt4, zt5, zt6, zt7, zt8, zt9, zt10, zt11, zt12, zt13, zt14, zt15, zt16, zt17, zt18, zt19, zt20, zt21, zt22, zt23, zt24, zt25, zt26, zt27, zt28, zt29, zt30, zt31, zt32, zt33, zt34, zt35, zt36, zt37, zt38, zt39, zt40, zt41, zt42, zt43, zt44, zt45, zt46, zt47, zt48, zt49, zt50, zt200]
theorem m_bad : f_X12_bad m (mmk M m sc lg ar en) = some (-2, mmk M m sc lg (mref ar 0) en) := by
  simp only [f_X12_bad, mm_ob, m_ref0, Option.bind_some]
theorem m_isPlace (p : Int32) : f_X12_isPlace m p (mmk M m sc lg ar en) = some (zin p 0 (ar 0 0 - 1), mmk M m sc lg ar en) := by
  simp (decide := true) only [f_X12_isPlace, mm_gN0, mm_r1, Option.bind_some, m_in, if_neg, zt0, zt1, zt2, zt3, zt4, zt5, zt6, zt7, zt8, zt9, zt10, zt11, zt12, zt13, zt14, zt15, zt16, zt17, zt18, zt19, zt20, zt21, zt22, zt23, zt24, zt25, zt26, zt27, zt28, zt29, zt30, zt31, zt32, zt33, zt34, zt35, zt36, zt37, zt38, zt39, zt40, zt41, zt42, zt43, zt44, zt45, zt46, zt47, zt48, zt49, zt50, zt200]
  rw [if_pos (zin01 _ _ _)]
theorem m_isDog (p : Int32) : f_X12_isDog m p (mmk M m sc lg ar en) = some (zin p 0 (ar 0 6 - 1), mmk M m sc lg ar en) := by
  simp (decide := true) only [f_X12_isDog, mm_gN0, mm_r1, Option.bind_some, m_in, if_neg, zt0, zt1, zt2, zt3, zt4, zt5, zt6, zt7, zt8, zt9, zt10, zt11, zt12, zt13, zt14, zt15, zt16, zt17, zt18, zt19, zt20, zt21, zt22, zt23, zt24, zt25, zt26, zt27, zt28, zt29, zt30, zt31, zt32, zt33, zt34, zt35, zt36, zt37, zt38, zt39, zt40, zt41, zt42, zt43, zt44, zt45, zt46, zt47, zt48, zt49, zt50, zt200]
  rw [if_pos (zin01 _ _ _)]
theorem m_isSet (p : Int32) : f_X12_isSet m p (mmk M m sc lg ar en) = some (zin p 0 (((1 : Int32) <<< (ar 0 6 &&& 31)) - 1), mmk M m sc lg ar en) := by
  simp (decide := true) only [f_X12_isSet, mm_gN0, mm_r1, Option.bind_some, m_in, if_neg, zt0, zt1, zt2, zt3, zt4, zt5, zt6, zt7, zt8, zt9, zt10, zt11, zt12, zt13, zt14, zt15, zt16, zt17, zt18, zt19, zt20, zt21, zt22, zt23, zt24, zt25, zt26, zt27, zt28, zt29, zt30, zt31, zt32, zt33, zt34, zt35, zt36, zt37, zt38, zt39, zt40, zt41, zt42, zt43, zt44, zt45, zt46, zt47, zt48, zt49, zt50, zt200]
  rw [if_pos (zin01 _ _ _)]
theorem m_isTune (p n : Int32) : f_X12_isTune m p n M = some (zin p 0 (((1 : Int32) <<< (n &&& 31)) - 1), M) := by
  simp only [f_X12_isTune, Option.bind_some, m_in]
  rw [if_pos (zin01 _ _ _)]
theorem m_clear : f_X12_clear m (mmk M m sc lg ar en) = some (sc 0, mmk M m (upd sc 0 0) lg ar en) := by
  simp only [f_X12_clear, mm_gI5, mm_pI5, Option.bind_some]
end MA
/-! memory beside the reference's cells -/
section MO
variable {M : zMe} {m : Nat} {sc : Nat → Int32} {lg : Nat → Int64} {ar : Nat → Nat → Int32} {en : Nat → Int64}
theorem mm_set {q : Nat} {e : zEn} (h : q < m ∨ m + 12 < q) : zSet (mmk M m sc lg ar en) q e = mmk (zSet M q e) m sc lg ar en := by
  refine zMe_ext (fun p => ?_) rfl
  by_cases hp : p = q
  · subst hp
    rw [mm_out h]
    simp [zSet]
  · by_cases hm : p < m ∨ m + 12 < p
    · rw [mm_out hm]
      simp only [zSet, if_neg hp]
      exact mm_out hm
    · obtain ⟨k, hk, rfl⟩ : ∃ k, k ≤ 12 ∧ p = m + k := ⟨p - m, by omega, by omega⟩
      simp only [zSet, if_neg hp]
      rcases (show k = 0 ∨ k = 1 ∨ k = 2 ∨ k = 3 ∨ k = 4 ∨ k = 5 ∨ k = 6 ∨ k = 7 ∨ k = 8 ∨ k = 9 ∨ k = 10 ∨ k = 11 ∨ k = 12 by omega) with rfl | rfl | rfl | rfl | rfl | rfl | rfl | rfl | rfl | rfl | rfl | rfl | rfl <;> simp [mmk]
theorem mm_add {e : zEn} {n : Nat} (h : m + 12 < M.2.1) : zAdd (mmk M m sc lg ar en) e n = mmk (zAdd M e n) m sc lg ar en := by
  refine zMe_ext (fun p => ?_) rfl
  have e0 : (mmk M m sc lg ar en).2 = M.2 := rfl
  by_cases hp : p = M.2.1
  · subst hp
    rw [mm_out (Or.inr h)]
    simp [zAdd, e0]
  · by_cases hm : p < m ∨ m + 12 < p
    · rw [mm_out hm]
      simp only [zAdd, e0, if_neg hp]
      exact mm_out hm
    · obtain ⟨k, hk, rfl⟩ : ∃ k, k ≤ 12 ∧ p = m + k := ⟨p - m, by omega, by omega⟩
      simp only [zAdd, e0, if_neg hp]
      rcases (show k = 0 ∨ k = 1 ∨ k = 2 ∨ k = 3 ∨ k = 4 ∨ k = 5 ∨ k = 6 ∨ k = 7 ∨ k = 8 ∨ k = 9 ∨ k = 10 ∨ k = 11 ∨ k = 12 by omega) with rfl | rfl | rfl | rfl | rfl | rfl | rfl | rfl | rfl | rfl | rfl | rfl | rfl <;> simp [mmk]
end MO
theorem zS_s (M : zMe) (a : Nat) (e : zEn) : (zSet M a e).1 a = some e := by simp [zSet]
theorem zS_n (M : zMe) {a q : Nat} (e : zEn) (h : q ≠ a) : (zSet M a e).1 q = M.1 q := by simp [zSet, h]
theorem zA_s (M : zMe) (e : zEn) (n : Nat) : (zAdd M e n).1 M.2.1 = some e := by simp [zAdd]
theorem zA_n (M : zMe) {q : Nat} (e : zEn) (n : Nat) (h : q ≠ M.2.1) : (zAdd M e n).1 q = M.1 q := by simp [zAdd, h]
