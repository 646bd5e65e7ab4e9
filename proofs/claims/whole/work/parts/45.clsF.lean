/-! bits, count, digest, images -/
def bcI (x0 : Int32) : Int32 :=
  let v1 := x0 - (((x0.toUInt32 >>> ((1 : Int32).toUInt32 &&& Int32.toUInt32 31)).toInt32) &&& 1431655765)
  let v2 := (v1 &&& 858993459) + (((v1.toUInt32 >>> ((2 : Int32).toUInt32 &&& Int32.toUInt32 31)).toInt32) &&& 858993459)
  let v3 := (v2 + ((v2.toUInt32 >>> ((4 : Int32).toUInt32 &&& Int32.toUInt32 31)).toInt32)) &&& 252645135
  let v4 := v3 + ((v3.toUInt32 >>> ((8 : Int32).toUInt32 &&& Int32.toUInt32 31)).toInt32)
  let v5 := v4 + ((v4.toUInt32 >>> ((16 : Int32).toUInt32 &&& Int32.toUInt32 31)).toInt32)
  v5 &&& 63
def pc5 (s : Nat) : Nat := s % 2 + s / 2 % 2 + s / 4 % 2 + s / 8 % 2 + s / 16 % 2
theorem bcI_5 : ∀ s, s < 32 → bcI (nI s) = nI (pc5 s) := by decide +kernel
theorem mbits_5 : ∀ s, s < 32 → mbits (nI s) = nI (pc5 s) := by decide +kernel
theorem c_bitC (v : Int32) (M : zMe) : f_J6_bitCount_0f7a4 v M = some (bcI v, M) := rfl
theorem c_bits {s : Nat} (hs : s < 32) (M : zMe) : f_J6_bitCount_0f7a4 (nI s) M = some (nI (pc5 s), M) := by rw [c_bitC, bcI_5 s hs]
theorem hsF_add (f : Nat → Int32) (h : Int64) (a : Nat) : ∀ b, hsF f h (a + b) = hsF (fun k => f (a + k)) (hsF f h a) b
  | 0 => rfl
  | b + 1 => by
    show hs (hsF f h (a + b)) (f (a + b)) = hs (hsF (fun k => f (a + k)) (hsF f h a) b) (f (a + b))
    rw [hsF_add f h a b]
def hlA (f : Nat → Option Nat) : zEn := .inl (.object "OneWhistle$Hill", 2, .inr (.inr (.inr (.inr f))))
section CG
variable {M : zMe} {x h d : Nat} {tl : Int32} {ab be : Int64} {cb cn cf : Int32} {B : Nat → Nat} {f : Nat → Option Nat}
theorem c_count (hx : M.1 x = some (.inr (11, xo x h tl ab be cb cn cf))) (hh : M.1 h = some (.inr (2, ho (nB B) d))) (hs : B 1 < 32) (w : Int32) : f_X11_count x w M = if zin w 0 3 = 0 then some (-2, zSet M x (.inr (11, xo x h tl ab be (cb + 1) cn cf))) else some (if w = 0 then nI (B 0) else if w = 1 then nI (B 6) else if w = 2 then mbits (nI (B 1)) else tl, M) := by
  have g3 : zgI M x [11] 3 = some tl := by simp [zgI, zg, hx, xo]
  simp only [f_X11_count, c_h hx, Option.bind_some, (c_g hh).1, (c_g hh).2.1, (c_g hh).2.2.2.2.2.2.1, c_bits hs, mbits_5 _ hs, g3, c_obx hx, c_bad hx]
  by_cases h0 : w = 0
  · subst h0; rw [if_pos rfl, if_neg (show ¬ zin 0 0 3 = 0 by decide), if_pos rfl]
  · by_cases h1 : w = 1
    · subst h1; rw [if_neg h0, if_pos rfl, if_neg (show ¬ zin 1 0 3 = 0 by decide), if_neg h0, if_pos rfl]
    · by_cases h2 : w = 2
      · subst h2; rw [if_neg h0, if_neg h1, if_pos rfl, if_neg (show ¬ zin 2 0 3 = 0 by decide), if_neg h0, if_neg h1, if_pos rfl]
      · by_cases h3 : w = 3
        · subst h3; rw [if_neg h0, if_neg h1, if_neg h2, if_pos rfl, if_neg (show ¬ zin 3 0 3 = 0 by decide), if_neg h0, if_neg h1, if_neg h2]
        · have hz : zin w 0 3 = 0 := by
            apply Classical.byContradiction
            intro z
            rcases zin03 z with e | e | e | e <;> contradiction
          rw [if_neg h0, if_neg h1, if_neg h2, if_neg h3, if_pos hz]
theorem c_digested {n a : Nat} {D : Nat → Nat} (ha : M.1 a = some (dogCell D)) (hD : DW n D) (v : Int64) : fv_X5_digested a v M = some (hsF (fun k => nI (D k)) v 6, M) := by
  obtain ⟨hk, -, -, -, hz⟩ := hD
  rcases (show D 0 = 0 ∨ D 0 = 1 ∨ D 0 = 4 ∨ D 0 = 2 ∨ D 0 = 3 by omega) with k | k | k | k | k
  · obtain ⟨z3, z4, z5⟩ := hz (by omega)
    rw [dogC0 k] at ha; simp [fv_X5_digested, ha, f_X5_digested, fv_X5_withRows, f_X5_withRows, f_X5_withLearnt, zlet, zgI, zg, dog3, hsF, hs, z3, z4, z5, nI_0]
  · obtain ⟨z3, z4, z5⟩ := hz (by omega)
    rw [dogC1 k] at ha; simp [fv_X5_digested, ha, f_X5_digested, fv_X5_withRows, f_X5_withRows, f_X5_withLearnt, zlet, zgI, zg, dog3, hsF, hs, z3, z4, z5, nI_0]
  · obtain ⟨z3, z4, z5⟩ := hz (by omega)
    rw [dogC4 k] at ha; simp [fv_X5_digested, ha, f_X5_digested, fv_X5_withRows, f_X5_withRows, f_X5_withLearnt, zlet, zgI, zg, dog3, hsF, hs, z3, z4, z5, nI_0]
  · rw [dogC2 k] at ha; simp [fv_X5_digested, ha, f_X6_digested, fv_X6_withRows, f_X5_withRows, f_X5_withLearnt, zlet, zgI, zg, dog6, hsF, hs]
  · rw [dogC3 k] at ha; simp [fv_X5_digested, ha, f_X6_digested, fv_X6_withRows, f_X5_withRows, f_X5_withLearnt, zlet, zgI, zg, dog6, hsF, hs]
theorem c_digest (hx : M.1 x = some (.inr (11, xo x h tl ab be cb cn cf))) (hh : M.1 h = some (.inr (2, ho (nB B) d))) (hd : M.1 d = some (dgA f)) (hW : WB B) (hf : ∀ k, k < B 6 → ∃ a, f k = some a ∧ M.1 a = some (dogCell (dg B k))) : f_X11_digest x M = some (dgst B tl ab be, M) := by
  have h3 := hW.nd
  have hs32 := hW.sh32
  have g3 : zgI M x [11] 3 = some tl := by simp [zgI, zg, hx, xo]
  have g4 : zgL M x [11] 4 = some ab := by simp [zgL, zg, hx, xo]
  have g5 : zgL M x [11] 5 = some be := by simp [zgL, zg, hx, xo]
  have lp : ∀ v : Int64, f_X11_digest_b66 zfu x v (nI 0) M = some (31 * (31 * hsF (fun k => nI (B (1 + k))) (hsF (fun k => nI (B (7 + k))) v (6 * B 6)) 5 + ab) + be, M) := by
    intro v
    refine loopZ (fun fuel j => f_X11_digest_b66 fuel x (hsF (fun k => nI (B (7 + k))) v (6 * j)) (nI j) M) (B 6) _ (by omega) (fun g j hj => ?_) (fun g => ?_)
    · show f_X11_digest_b66 (g + 1) x (hsF (fun k => nI (B (7 + k))) v (6 * j)) (nI j) M = _
      obtain ⟨a, hfa, ha⟩ := hf j hj
      simp only [f_X11_digest_b66, f_X11_digest_b99, c_h hx, Option.bind_some, (c_g hh).2.2.2.2.2.2.1, if_neg (nI_ge hj (show B 6 < 2 ^ 31 by omega)), c_obh hh, c_dogAt_ok hh hd h3 hj, hfa, zcase, c_digested ha (hW.dw j hj), zlet, nI_1]
      rw [show 6 * (j + 1) = 6 * j + 6 by omega, hsF_add _ _ (6 * j) 6]
      congr 2
      funext k
      simp only [dg]
      congr 2
      omega
    · show f_X11_digest_b66 (g + 1) x (hsF (fun k => nI (B (7 + k))) v (6 * B 6)) (nI (B 6)) M = _
      obtain ⟨-, k1, k2, k3, k4, k5, k6, -⟩ := c_g hh
      simp only [f_X11_digest_b66, c_h hx, Option.bind_some, k1, k2, k3, k4, k5, k6, if_pos (nI_le (Nat.le_refl (B 6)) (show B 6 < 2 ^ 31 by omega)), zlet, g4, g5]
      rfl
  simp only [f_X11_digest, c_h hx, Option.bind_some, (c_g hh).1, (c_g hh).2.1, (c_g hh).2.2.2.2.2.2.1, c_bits hs32, g3, zlet]
  rw [show (0 : Int32) = nI 0 from rfl, lp, dgst, mbits_5 _ hs32]
  rfl
theorem c_image_bad (hx : M.1 x = some (.inr (11, xo x h tl ab be cb cn cf))) {i : Int32} (hi : i < 0 ∨ 1 < i) : f_X11_image x i M = some (-2, zSet M x (.inr (11, xo x h tl ab be (cb + 1) cn cf))) := by
  simp only [f_X11_image, f_X11_image_b9, c_obx hx, Option.bind_some, c_bad hx]
  by_cases h0 : i < 0
  · rw [if_pos h0]
  · have h1 : ¬ i < 2 := by
      have := hi.resolve_left h0
      rw [Int32.lt_iff_toInt_lt] at this ⊢
      rw [show (1 : Int32).toInt = 1 from rfl] at this
      rw [show (2 : Int32).toInt = 2 from rfl]
      omega
    rw [if_neg h0, if_neg h1]
theorem c_from_bad (hx : M.1 x = some (.inr (11, xo x h tl ab be cb cn cf))) {i : Int32} (hi : i < 0 ∨ 1 < i) : f_X11_from x i M = some (-2, zSet M x (.inr (11, xo x h tl ab be (cb + 1) cn cf))) := by
  simp only [f_X11_from, f_X11_from_b9, c_obx hx, Option.bind_some, c_bad hx]
  by_cases h0 : i < 0
  · rw [if_pos h0]
  · have h1 : ¬ i < 2 := by
      have := hi.resolve_left h0
      rw [Int32.lt_iff_toInt_lt] at this ⊢
      rw [show (1 : Int32).toInt = 1 from rfl] at this
      rw [show (2 : Int32).toInt = 2 from rfl]
      omega
    rw [if_neg h0, if_neg h1]
theorem c_image_ok {fi : Nat → Option Nat} (hx : M.1 x = some (.inr (11, xo x h tl ab be cb cn cf))) (hh : M.1 h = some (.inr (2, ho (nB B) d))) (hd : M.1 d = some (dgA f)) (h3 : M.1 (x + 3) = some (hlA fi)) (hok : ∀ k, k < 3 → ∀ a, f k = some a → ∃ D : Nat → Nat, D 0 ≤ 4 ∧ M.1 a = some (dogCell D)) (hfr : ∀ q, M.2.1 ≤ q → M.1 q = none) {i : Nat} (hi : i < 2) : ∃ M' g, f_X11_image x (nI i) M = some (1, M') ∧ M'.1 (x + 3) = some (hlA (va_up fi i (some M.2.1))) ∧ M'.1 M.2.1 = some (.inr (2, ho (nB B) (M.2.1 + 1))) ∧ M'.1 (M.2.1 + 1) = some (dgA g) ∧ (∀ k, k < 3 → g k = f k) ∧ (∀ q, q ≠ x + 3 → q ≠ M.2.1 → q ≠ M.2.1 + 1 → M'.1 q = M.1 q) ∧ M'.2 = (M.2.1 + 2, M.2.2 + 11) := by
  obtain ⟨N, g, n1, n2, n3, n4, n5, n6⟩ := c_copy hh hd hok hfr
  have a1 : x + 3 ≠ M.2.1 := fun z => by rw [hfr _ (by omega)] at h3; cases h3
  have a2 : x + 3 ≠ M.2.1 + 1 := fun z => by rw [hfr _ (by omega)] at h3; cases h3
  have gx : zgN M x [11] 1 = some (x + 3) := by simp [zgN, zg, hx, xo]
  have w : zwR N (x + 3) (nI i) (some M.2.1) "OneWhistle$Hill" [2] = some (zSet N (x + 3) (hlA (va_up fi i (some M.2.1)))) := by
    simp only [zwR, n5 _ a1 a2, h3, hlA, n2]
    rw [if_neg (nI_in hi (by omega)), if_pos trivial, if_pos (by decide), nI_clamp (by omega)]
  refine ⟨zSet N (x + 3) (hlA (va_up fi i (some M.2.1))), g, ?_, zS_s _ _ _, ?_, ?_, n4, ?_, n6⟩
  · simp only [f_X11_image, gx, c_h hx, Option.bind_some, c_obh hh, n1, w]
    rw [if_neg (nI_pos (by omega)), if_pos (show nI i < 2 from nI_lt (b := 2) hi (by omega))]
  · rw [zS_n _ _ (Ne.symm a1)]; exact n2
  · rw [zS_n _ _ (Ne.symm a2)]; exact n3
  · intro q q1 q2 q3
    rw [zS_n _ _ q1]
    exact n5 q q2 q3
theorem c_from_no {fi : Nat → Option Nat} (hx : M.1 x = some (.inr (11, xo x h tl ab be cb cn cf))) (h3 : M.1 (x + 3) = some (hlA fi)) {i : Nat} (hi : i < 2) (hn : fi i = none) : f_X11_from x (nI i) M = some (-3, zSet M x (.inr (11, xo x h tl ab be cb (cn + 1) cf))) := by
  have gx : zgN M x [11] 1 = some (x + 3) := by simp [zgN, zg, hx, xo]
  have r : zrR M (x + 3) (nI i) = some none := by
    simp only [zrR, h3, hlA]
    rw [if_neg (nI_in hi (by omega)), nI_clamp (by omega), hn]
  simp only [f_X11_from, gx, Option.bind_some, r, zcase, c_obx hx, c_no hx]
  rw [if_neg (nI_pos (by omega)), if_pos (show nI i < 2 from nI_lt (b := 2) hi (by omega))]
theorem c_from_ok {fi : Nat → Option Nat} {a : Nat} (hx : M.1 x = some (.inr (11, xo x h tl ab be cb cn cf))) (h3 : M.1 (x + 3) = some (hlA fi)) {i : Nat} (hi : i < 2) (hn : fi i = some a) (hh : M.1 a = some (.inr (2, ho (nB B) d))) (hd : M.1 d = some (dgA f)) (hok : ∀ k, k < 3 → ∀ a, f k = some a → ∃ D : Nat → Nat, D 0 ≤ 4 ∧ M.1 a = some (dogCell D)) (hfr : ∀ q, M.2.1 ≤ q → M.1 q = none) : ∃ M' g, f_X11_from x (nI i) M = some (1, M') ∧ M'.1 x = some (.inr (11, xo x M.2.1 tl ab be cb cn cf)) ∧ M'.1 M.2.1 = some (.inr (2, ho (nB B) (M.2.1 + 1))) ∧ M'.1 (M.2.1 + 1) = some (dgA g) ∧ (∀ k, k < 3 → g k = f k) ∧ (∀ q, q ≠ x → q ≠ M.2.1 → q ≠ M.2.1 + 1 → M'.1 q = M.1 q) ∧ M'.2 = (M.2.1 + 2, M.2.2 + 11) := by
  obtain ⟨N, g, n1, n2, n3, n4, n5, n6⟩ := c_copy hh hd hok hfr
  have a1 : x ≠ M.2.1 := fun z => by rw [hfr _ (by omega)] at hx; cases hx
  have a2 : x ≠ M.2.1 + 1 := fun z => by rw [hfr _ (by omega)] at hx; cases hx
  have gx : zgN M x [11] 1 = some (x + 3) := by simp [zgN, zg, hx, xo]
  have r : zrR M (x + 3) (nI i) = some (some a) := by
    simp only [zrR, h3, hlA]
    rw [if_neg (nI_in hi (by omega)), nI_clamp (by omega), hn]
  have w : zpR N x [11] 0 (some M.2.1) = some (zSet N x (.inr (11, xo x M.2.1 tl ab be cb cn cf))) := by
    simp only [zpR, zp, n5 _ a1 a2, hx]
    rw [if_pos (by decide)]
    rfl
  refine ⟨zSet N x (.inr (11, xo x M.2.1 tl ab be cb cn cf)), g, ?_, zS_s _ _ _, ?_, ?_, n4, ?_, n6⟩
  · simp only [f_X11_from, gx, Option.bind_some, r, zcase, c_obh hh, n1, w]
    rw [if_neg (nI_pos (by omega)), if_pos (show nI i < 2 from nI_lt (b := 2) hi (by omega))]
  · rw [zS_n _ _ (Ne.symm a1)]; exact n2
  · rw [zS_n _ _ (Ne.symm a2)]; exact n3
  · intro q q1 q2 q3
    rw [zS_n _ _ q1]
    exact n5 q q2 q3
end CG
