def mkD (k r0 r1 s0 s1 l : Nat) : Nat → Nat := fun j => if j = 0 then k else if j = 1 then r0 else if j = 2 then r1 else if j = 3 then s0 else if j = 4 then s1 else if j = 5 then l else 0
theorem zSA (M : zMe) (e f : zEn) (n : Nat) : zSet (zAdd M e n) M.2.1 f = zAdd M f n := zMe_ext (fun q => by by_cases h : q = M.2.1 <;> simp [zSet, zAdd, h]) rfl
theorem c_bred {M : zMe} {k r0 r1 : Nat} (hk : k = 0 ∨ k = 1 ∨ k = 4) : f_X11_bred (nI k) (nI r0) (nI r1) M = some (some M.2.1, zAdd M (dogCell (mkD k r0 r1 0 0 0)) 3) := by
  have e1 : ¬ (nI 0 = 1) := by decide
  have e2 : ¬ (nI 0 = 4) := by decide
  have e3 : ¬ (nI 4 = 1) := by decide
  have e4 : nI 4 = 4 := by decide
  have e5 : nI 1 = 1 := by decide
  have z : ∀ (ci : Nat) (fs : List Value) (j : Nat) (v : Value), ci ∈ ([5, 1, 9, 6, 3] : List Nat) → zp (zAdd M (.inr (ci, fs)) 3) M.2.1 [5, 1, 9, 6, 3] j v = some (zAdd M (.inr (ci, fs.set j v)) 3) := by
    intro ci fs j v hc
    simp only [zp, zA_s, if_pos hc, zSA]
  rcases hk with rfl | rfl | rfl
  · rw [dogC0 rfl]
    simp only [f_X11_bred, f_X5_init, zpI, zlet, if_neg e1, if_neg e2, fun fs j v => z 5 fs j v (by decide), Option.bind_some, List.set]
    rfl
  · rw [dogC1 rfl]
    simp only [f_X11_bred, f_X1_init, f_X5_init, zpI, zlet, if_pos e5, fun fs j v => z 1 fs j v (by decide), Option.bind_some, List.set]
    rfl
  · rw [dogC4 rfl]
    simp only [f_X11_bred, f_X9_init, f_X1_init, f_X5_init, zpI, zlet, if_neg e3, if_pos e4, fun fs j v => z 9 fs j v (by decide), Option.bind_some, List.set]
    rfl
theorem c_bredL {M : zMe} {k r0 r1 s0 s1 l : Nat} (hk : k = 2 ∨ k = 3) : f_X11_bredLearning (nI k) (nI r0) (nI r1) (nI s0) (nI s1) (nI l) M = some (some M.2.1, zAdd M (dogCell (mkD k r0 r1 s0 s1 l)) 6) := by
  have e1 : ¬ (nI 2 = 3) := by decide
  have e2 : nI 3 = 3 := by decide
  have z : ∀ (ci : Nat) (fs : List Value) (j : Nat) (v : Value), ci ∈ ([5, 1, 9, 6, 3] : List Nat) → zp (zAdd M (.inr (ci, fs)) 6) M.2.1 [5, 1, 9, 6, 3] j v = some (zAdd M (.inr (ci, fs.set j v)) 6) := by
    intro ci fs j v hc
    simp only [zp, zA_s, if_pos hc, zSA]
  have y : ∀ (ci : Nat) (fs : List Value) (j : Nat) (v : Value), ci ∈ ([6, 3] : List Nat) → zp (zAdd M (.inr (ci, fs)) 6) M.2.1 [6, 3] j v = some (zAdd M (.inr (ci, fs.set j v)) 6) := by
    intro ci fs j v hc
    simp only [zp, zA_s, if_pos hc, zSA]
  rcases hk with rfl | rfl
  · rw [dogC2 rfl]
    simp only [f_X11_bredLearning, f_X6_init, f_X5_init, zpI, zlet, if_neg e1, fun fs j v => z 6 fs j v (by decide), fun fs j v => y 6 fs j v (by decide), Option.bind_some, List.set]
    rfl
  · rw [dogC3 rfl]
    simp only [f_X11_bredLearning, f_X3_init, f_X6_init, f_X5_init, zpI, zlet, if_pos e2, fun fs j v => z 3 fs j v (by decide), fun fs j v => y 3 fs j v (by decide), Option.bind_some, List.set]
    rfl
theorem dogCl_in {k : Nat} (h : k ≤ 4) : dogCl k ∈ ([5, 1, 9, 6, 3] : List Nat) := by
  rcases (show k = 0 ∨ k = 1 ∨ k = 2 ∨ k = 3 ∨ k = 4 by omega) with rfl | rfl | rfl | rfl | rfl <;> decide
def dgA (f : Nat → Option Nat) : zEn := .inl (.object "OneWhistle$Plain", 3, .inr (.inr (.inr (.inr f))))
/-- a book with one dog more -/
def bD (B : Nat → Nat) (D : Nat → Nat) : Nat → Nat := fun k => if k = 6 then B 6 + 1 else if 7 + 6 * B 6 ≤ k ∧ k < 7 + 6 * B 6 + 6 then D (k - (7 + 6 * B 6)) else B k
section CE
variable {M : zMe} {x h d : Nat} {tl : Int32} {ab be : Int64} {cb cn cf : Int32} {B : Nat → Nat} {f : Nat → Option Nat}
theorem c_isFull (hh : M.1 h = some (.inr (2, ho (nB B) d))) (h3 : B 6 ≤ 3) : f_X2_isFull h M = some (if B 6 = 3 then 1 else 0, M) := by
  unfold f_X2_isFull f_X2_isFull_b13
  rw [(c_g hh).2.2.2.2.2.2.1, Option.bind_some]
  by_cases hc : B 6 = 3
  · rw [if_pos hc, if_neg (show ¬ nI (B 6) < 3 from nI_nlt (b := 3) (by omega) (by omega))]; simp
  · rw [if_neg hc, if_pos (show nI (B 6) < 3 from nI_lt (b := 3) (by omega) (by omega))]; simp
theorem ho_bD (D : Nat → Nat) (d : Nat) : ho (nB (bD B D)) d = (ho (nB B) d).set 6 (.int (nI (B 6 + 1))) := by
  have e : ∀ k, k < 6 → bD B D k = B k := fun k hk => by
    unfold bD
    rw [if_neg (by omega), if_neg (by omega)]
  have e6 : bD B D 6 = B 6 + 1 := by simp [bD]
  simp only [ho, nB, e 0 (by omega), e 1 (by omega), e 2 (by omega), e 3 (by omega), e 4 (by omega), e 5 (by omega), e6, List.set]
theorem c_addDog (hh : M.1 h = some (.inr (2, ho (nB B) d))) (hd : M.1 d = some (dgA f)) (h3 : B 6 < 3) {a : Nat} {D : Nat → Nat} (hD : D 0 ≤ 4) (ha : M.1 a = some (dogCell D)) : f_X2_addDog h a M = some (nI (B 6), zSet (zSet M d (dgA (va_up f (B 6) (some a)))) h (.inr (2, ho (nB (bD B D)) d))) := by
  have hne : ¬ h = d := fun z => by rw [z, hd] at hh; cases hh
  obtain ⟨-, -, -, -, -, -, g6, g7⟩ := c_g hh
  have w : zwR M d (nI (B 6)) (some a) "OneWhistle$Plain" [5, 1, 9, 6, 3] = some (zSet M d (dgA (va_up f (B 6) (some a)))) := by
    simp only [zwR, hd, dgA, ha, dogCell]
    rw [if_neg (nI_in (show B 6 < 3 by omega) (by omega)), if_pos trivial, if_pos (dogCl_in hD), nI_clamp (by omega)]
  have hh2 : (zSet M d (dgA (va_up f (B 6) (some a)))).1 h = some (.inr (2, ho (nB B) d)) := by rw [zS_n _ _ hne]; exact hh
  obtain ⟨-, -, -, -, -, -, k6, -⟩ := c_g hh2
  have p : zpI (zSet M d (dgA (va_up f (B 6) (some a)))) h [2] 6 (nI (B 6 + 1)) = some (zSet (zSet M d (dgA (va_up f (B 6) (some a)))) h (.inr (2, ho (nB (bD B D)) d))) := by
    rw [ho_bD]
    simp [zpI, zp, hh2]
  have hh3 : (zSet (zSet M d (dgA (va_up f (B 6) (some a)))) h (.inr (2, ho (nB (bD B D)) d))).1 h = some (.inr (2, ho (nB (bD B D)) d)) := zS_s _ _ _
  have l6 := (c_g hh3).2.2.2.2.2.2.1
  rw [show bD B D 6 = B 6 + 1 by simp [bD]] at l6
  simp only [f_X2_addDog, f_X2_addDog_b28, g6, g7, Option.bind_some, w, k6, nI_1, p, l6, nI_pred]
  rw [if_neg (show ¬ (3 : Int32) ≤ nI (B 6) from nI_ge (b := 3) h3 (by omega))]
def ckind (k : Int32) : Int32 := if k = 0 ∨ k = 1 ∨ k = 4 then 1 else 0
theorem c_rowsKind (k : Int32) : f_X11_isRowsKind k M = some (ckind k, M) := by
  unfold f_X11_isRowsKind f_X11_isRowsKind_b14 f_X11_isRowsKind_b19 ckind
  by_cases h0 : k = 0
  · simp [h0]
  · by_cases h1 : k = 1
    · simp [h1]
    · by_cases h4 : k = 4 <;> simp [h0, h1, h4]
def ckindL (k : Int32) : Int32 := if k = 2 ∨ k = 3 then 1 else 0
theorem c_learnKind (k : Int32) : f_X11_isLearningKind k M = some (ckindL k, M) := by
  unfold f_X11_isLearningKind f_X11_isLearningKind_b10 f_X11_isLearningKind_b15 ckindL
  by_cases h0 : k = 2
  · simp [h0]
  · by_cases h1 : k = 3 <;> simp [h0, h1]
theorem c_dog_bad (hx : M.1 x = some (.inr (11, xo x h tl ab be cb cn cf))) (hh : M.1 h = some (.inr (2, ho (nB B) d))) (h5 : B 0 ≤ 5) {k a b : Int32} (hv : ckind k = 0 ∨ rowI (B 0) a = 0 ∨ rowI (B 0) b = 0) : f_X11_dog x k a b M = some (-2, zSet M x (.inr (11, xo x h tl ab be (cb + 1) cn cf))) := by
  simp only [f_X11_dog, f_X11_dog_b29, c_rowsKind, c_h hx, Option.bind_some, c_obh hh, c_isRow hh h5, c_obx hx, c_bad hx]
  by_cases h1 : ckind k = 0
  · simp only [if_pos h1]
  · by_cases h2 : rowI (B 0) a = 0
    · simp only [if_neg h1, if_pos h2]
    · simp only [if_neg h1, if_neg h2, if_pos (hv.resolve_left h1 |>.resolve_left h2)]
theorem c_dog_full (hx : M.1 x = some (.inr (11, xo x h tl ab be cb cn cf))) (hh : M.1 h = some (.inr (2, ho (nB B) d))) (h5 : B 0 ≤ 5) (h3 : B 6 = 3) {k a b : Int32} (h1 : ¬ ckind k = 0) (h2 : ¬ rowI (B 0) a = 0) (h4 : ¬ rowI (B 0) b = 0) : f_X11_dog x k a b M = some (-4, zSet M x (.inr (11, xo x h tl ab be cb cn (cf + 1)))) := by
  simp only [f_X11_dog, c_rowsKind, c_h hx, Option.bind_some, c_obh hh, c_isRow hh h5, c_obx hx, if_neg h1, if_neg h2, if_neg h4, c_isFull hh (Nat.le_of_eq h3), if_pos h3, c_full hx]
  rw [if_neg (by decide)]
theorem c_dog_ok (hx : M.1 x = some (.inr (11, xo x h tl ab be cb cn cf))) (hh : M.1 h = some (.inr (2, ho (nB B) d))) (hd : M.1 d = some (dgA f)) (hfr : ∀ q, M.2.1 ≤ q → M.1 q = none) (h5 : B 0 ≤ 5) (h3 : B 6 < 3) {k r0 r1 : Nat} (h1 : k = 0 ∨ k = 1 ∨ k = 4) (h2 : ¬ rowI (B 0) (nI r0) = 0) (h4 : ¬ rowI (B 0) (nI r1) = 0) : f_X11_dog x (nI k) (nI r0) (nI r1) M = some (nI (B 6), zSet (zSet (zAdd M (dogCell (mkD k r0 r1 0 0 0)) 3) d (dgA (va_up f (B 6) (some M.2.1)))) h (.inr (2, ho (nB (bD B (mkD k r0 r1 0 0 0))) d))) := by
  have nh : h ≠ M.2.1 := fun z => by rw [hfr h (by omega)] at hh; cases hh
  have nd : d ≠ M.2.1 := fun z => by rw [hfr d (by omega)] at hd; cases hd
  have ck : ckind (nI k) = 1 := by rcases h1 with rfl | rfl | rfl <;> decide
  have k4 : mkD k r0 r1 0 0 0 0 ≤ 4 := by show k ≤ 4; omega
  have hh2 : (zAdd M (dogCell (mkD k r0 r1 0 0 0)) 3).1 h = some (.inr (2, ho (nB B) d)) := by rw [zA_n _ _ _ nh]; exact hh
  have hd2 : (zAdd M (dogCell (mkD k r0 r1 0 0 0)) 3).1 d = some (dgA f) := by rw [zA_n _ _ _ nd]; exact hd
  simp only [f_X11_dog, c_rowsKind, c_h hx, Option.bind_some, c_obh hh, c_isRow hh h5, if_neg h2, if_neg h4, c_isFull hh (Nat.le_of_lt h3), if_neg (Nat.ne_of_lt h3), c_bred h1, zcase, c_obh hh2, c_addDog hh2 hd2 h3 k4 (zA_s _ _ _)]
  rw [if_neg (by rw [ck]; decide), if_pos trivial]
theorem c_pup_bad (hx : M.1 x = some (.inr (11, xo x h tl ab be cb cn cf))) (hh : M.1 h = some (.inr (2, ho (nB B) d))) (h5 : B 0 ≤ 5) {k a b a2 b2 l : Int32} (hv : ckindL k = 0 ∨ l < 1 ∨ 3 < l ∨ rowI (B 0) a = 0 ∨ rowI (B 0) b = 0 ∨ rowI (B 0) a2 = 0 ∨ rowI (B 0) b2 = 0) : f_X11_pup x k a b a2 b2 l M = some (-2, zSet M x (.inr (11, xo x h tl ab be (cb + 1) cn cf))) := by
  simp only [f_X11_pup, f_X11_pup_b72, f_X11_pup_b19, c_learnKind, c_h hx, Option.bind_some, c_obh hh, c_isRow hh h5, c_obx hx, c_bad hx]
  by_cases h1 : ckindL k = 0
  · simp only [if_pos h1]
  · by_cases h2 : l < 1
    · simp only [if_neg h1, if_pos h2]
    · by_cases h3 : l ≤ 3
      · by_cases h4 : rowI (B 0) a = 0
        · simp only [if_neg h1, if_neg h2, if_pos h3, if_pos h4]
        · by_cases h6 : rowI (B 0) b = 0
          · simp only [if_neg h1, if_neg h2, if_pos h3, if_neg h4, if_pos h6]
          · by_cases h7 : rowI (B 0) a2 = 0
            · simp only [if_neg h1, if_neg h2, if_pos h3, if_neg h4, if_neg h6, if_pos h7]
            · have h8 := hv.resolve_left h1 |>.resolve_left h2 |>.resolve_left (Int32.not_lt.mpr h3) |>.resolve_left h4 |>.resolve_left h6 |>.resolve_left h7
              simp only [if_neg h1, if_neg h2, if_pos h3, if_neg h4, if_neg h6, if_neg h7, if_pos h8]
      · simp only [if_neg h1, if_neg h2, if_neg h3]
theorem c_pup_full (hx : M.1 x = some (.inr (11, xo x h tl ab be cb cn cf))) (hh : M.1 h = some (.inr (2, ho (nB B) d))) (h5 : B 0 ≤ 5) (h3 : B 6 = 3) {k a b a2 b2 l : Int32} (h1 : ¬ ckindL k = 0) (hl1 : ¬ l < 1) (hl3 : l ≤ 3) (h2 : ¬ rowI (B 0) a = 0) (h4 : ¬ rowI (B 0) b = 0) (h6 : ¬ rowI (B 0) a2 = 0) (h7 : ¬ rowI (B 0) b2 = 0) : f_X11_pup x k a b a2 b2 l M = some (-4, zSet M x (.inr (11, xo x h tl ab be cb cn (cf + 1)))) := by
  simp only [f_X11_pup, c_learnKind, c_h hx, Option.bind_some, c_obh hh, c_isRow hh h5, c_obx hx, if_neg h1, if_neg hl1, if_pos hl3, if_neg h2, if_neg h4, if_neg h6, if_neg h7, c_isFull hh (Nat.le_of_eq h3), if_pos h3, c_full hx]
  rw [if_neg (by decide)]
theorem c_pup_ok (hx : M.1 x = some (.inr (11, xo x h tl ab be cb cn cf))) (hh : M.1 h = some (.inr (2, ho (nB B) d))) (hd : M.1 d = some (dgA f)) (hfr : ∀ q, M.2.1 ≤ q → M.1 q = none) (h5 : B 0 ≤ 5) (h3 : B 6 < 3) {k r0 r1 s0 s1 l : Nat} (h1 : k = 2 ∨ k = 3) (hl1 : ¬ nI l < 1) (hl3 : nI l ≤ 3) (h2 : ¬ rowI (B 0) (nI r0) = 0) (h4 : ¬ rowI (B 0) (nI r1) = 0) (h6 : ¬ rowI (B 0) (nI s0) = 0) (h7 : ¬ rowI (B 0) (nI s1) = 0) : f_X11_pup x (nI k) (nI r0) (nI r1) (nI s0) (nI s1) (nI l) M = some (nI (B 6), zSet (zSet (zAdd M (dogCell (mkD k r0 r1 s0 s1 l)) 6) d (dgA (va_up f (B 6) (some M.2.1)))) h (.inr (2, ho (nB (bD B (mkD k r0 r1 s0 s1 l))) d))) := by
  have nh : h ≠ M.2.1 := fun z => by rw [hfr h (by omega)] at hh; cases hh
  have nd : d ≠ M.2.1 := fun z => by rw [hfr d (by omega)] at hd; cases hd
  have ck : ckindL (nI k) = 1 := by rcases h1 with rfl | rfl <;> decide
  have k4 : mkD k r0 r1 s0 s1 l 0 ≤ 4 := by show k ≤ 4; omega
  have hh2 : (zAdd M (dogCell (mkD k r0 r1 s0 s1 l)) 6).1 h = some (.inr (2, ho (nB B) d)) := by rw [zA_n _ _ _ nh]; exact hh
  have hd2 : (zAdd M (dogCell (mkD k r0 r1 s0 s1 l)) 6).1 d = some (dgA f) := by rw [zA_n _ _ _ nd]; exact hd
  simp only [f_X11_pup, c_learnKind, c_h hx, Option.bind_some, c_obh hh, c_isRow hh h5, if_neg hl1, if_pos hl3, if_neg h2, if_neg h4, if_neg h6, if_neg h7, c_isFull hh (Nat.le_of_lt h3), if_neg (Nat.ne_of_lt h3), c_bredL h1, zcase, c_obh hh2, c_addDog hh2 hd2 h3 k4 (zA_s _ _ _)]
  rw [if_neg (by rw [ck]; decide), if_pos trivial]
theorem c_starts_bad1 (hx : M.1 x = some (.inr (11, xo x h tl ab be cb cn cf))) (hh : M.1 h = some (.inr (2, ho (nB B) d))) {v p w t : Int32} (hv : v < 0 ∨ nI (B 6) ≤ v) : f_X11_starts x v p w t M = some (-2, zSet M x (.inr (11, xo x h tl ab be (cb + 1) cn cf))) := by
  simp only [f_X11_starts, f_X11_starts_b25, c_h hx, Option.bind_some, c_obh hh, c_dogAt_no hh hv, zcase, c_obx hx, c_bad hx]
theorem c_starts_bad2 (hx : M.1 x = some (.inr (11, xo x h tl ab be cb cn cf))) (hh : M.1 h = some (.inr (2, ho (nB B) d))) (hd : M.1 d = some (dgA f)) (h3 : B 6 ≤ 3) {k a : Nat} (hk : k < B 6) (hf : f k = some a) {p w t : Int32} (hv : cheard p w t = 0) : f_X11_starts x (nI k) p w t M = some (-2, zSet M x (.inr (11, xo x h tl ab be (cb + 1) cn cf))) := by
  simp only [f_X11_starts, f_X11_starts_b25, c_h hx, Option.bind_some, c_obh hh, c_dogAt_ok hh hd h3 hk, hf, zcase, c_obx hx, c_bad hx, c_isHeard, if_pos hv]
theorem cheard_ok {n k b : Nat} (hn1 : 1 ≤ n) (hn : n ≤ 16) (hk : k < 2 ^ n) (hb : b < 2 ^ n) : cheard (nI k) (nI n) (nI b) = 1 := by
  unfold cheard
  rw [if_neg (show ¬ nI n < 1 from nI_nlt (b := 1) hn1 (by omega)), if_neg (show ¬ (16 : Int32) < nI n from nI_nlt (a := 16) hn (by omega)), abits_ok (by omega) hk, abits_ok (by omega) hb, if_neg (by decide), if_neg (by decide)]
theorem c_starts_ok (hx : M.1 x = some (.inr (11, xo x h tl ab be cb cn cf))) (hh : M.1 h = some (.inr (2, ho (nB B) d))) (hd : M.1 d = some (dgA f)) (hW : WB B) {k a : Nat} (hk : k < B 6) (hf : f k = some a) (ha : M.1 a = some (dogCell (dg B k))) {tu n bs : Nat} (hn1 : 1 ≤ n) (hn : n ≤ 16) (ht : tu < 2 ^ n) (hb : bs < 2 ^ n) : f_X11_starts x (nI k) (nI tu) (nI n) (nI bs) M = some (nI (bgs B k tu n bs), M) := by
  simp only [f_X11_starts, c_h hx, Option.bind_some, c_obh hh, c_dogAt_ok hh hd hW.nd hk, hf, zcase, c_obx hx, c_isHeard, cheard_ok hn1 hn ht hb, c_origins hx hh hW hk ha (show n < 31 by omega) ht hb]
  rw [if_neg (by decide)]
theorem c_which_bad (hx : M.1 x = some (.inr (11, xo x h tl ab be cb cn cf))) {p w t : Int32} (hv : cheard p w t = 0) : f_X11_which x p w t M = some (-2, zSet M x (.inr (11, xo x h tl ab be (cb + 1) cn cf))) := by
  simp only [f_X11_which, Option.bind_some, c_obx hx, c_bad hx, c_isHeard, if_pos hv]
theorem c_which_ok (hx : M.1 x = some (.inr (11, xo x h tl ab be cb cn cf))) (hh : M.1 h = some (.inr (2, ho (nB B) d))) (hd : M.1 d = some (dgA f)) (hW : WB B) (hf : ∀ k, k < B 6 → ∃ a, f k = some a ∧ M.1 a = some (dogCell (dg B k))) {tu n bs : Nat} (hn1 : 1 ≤ n) (hn : n ≤ 16) (ht : tu < 2 ^ n) (hb : bs < 2 ^ n) : f_X11_which x (nI tu) (nI n) (nI bs) M = some (nI (whs B tu n bs), M) := by
  have h3 := hW.nd
  simp only [f_X11_which, Option.bind_some, c_isHeard, cheard_ok hn1 hn ht hb]
  rw [if_neg (by decide)]
  refine loopZ (fun fuel j => f_X11_which_b22 fuel x (nI tu) (nI n) (nI bs) (nI (orF (fun d => if bgs B d tu n bs = 0 then 0 else 2 ^ d) j)) (nI j) M) (B 6) _ (by omega) (fun g j hj => ?_) (fun g => ?_)
  · show f_X11_which_b22 (g + 1) x (nI tu) (nI n) (nI bs) (nI (orF (fun d => if bgs B d tu n bs = 0 then 0 else 2 ^ d) j)) (nI j) M = _
    obtain ⟨a, hfa, ha⟩ := hf j hj
    have hl := bgs_lt hW j tu n bs
    simp only [f_X11_which_b22, f_X11_which_b71, c_h hx, Option.bind_some, (c_g hh).2.2.2.2.2.2.1, if_neg (nI_ge hj (show B 6 < 2 ^ 31 by omega)), c_obh hh, c_dogAt_ok hh hd h3 hj, hfa, zcase, c_obx hx, c_origins hx hh hW hj ha (show n < 31 by omega) ht hb, zlet, nI_1, n_sh1 (show j < 32 by omega), n_or, n_eq0 (show bgs B j tu n bs < 2 ^ 31 by omega)]
    rw [orF]
    by_cases hz : bgs B j tu n bs = 0
    · simp only [if_pos hz, Nat.or_zero]
    · simp only [if_neg hz]
  · show f_X11_which_b22 (g + 1) x (nI tu) (nI n) (nI bs) (nI (orF (fun d => if bgs B d tu n bs = 0 then 0 else 2 ^ d) (B 6))) (nI (B 6)) M = _
    simp only [f_X11_which_b22, c_h hx, Option.bind_some, (c_g hh).2.2.2.2.2.2.1, if_pos (nI_le (Nat.le_refl (B 6)) (show B 6 < 2 ^ 31 by omega))]
    rfl
end CE
