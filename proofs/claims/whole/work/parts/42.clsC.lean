/-! the class's calls on a hill whose book is B, whose dogs are in f -/
def nB (B : Nat → Nat) : Nat → Int32 := fun k => nI (B k)
theorem cpl_no {n : Nat} {v : Int32} (h : v < 0 ∨ nI n ≤ v) : cpl (nI n) v = 0 := by
  unfold cpl
  by_cases h0 : v < 0
  · rw [if_pos h0]
  · rw [if_neg h0, if_pos (h.resolve_left h0)]
theorem cpl_ok {n k : Nat} (hk : k < n) (hn : n < 2 ^ 31) : cpl (nI n) (nI k) = 1 := by
  unfold cpl
  rw [if_neg (nI_pos (by omega)), if_neg (nI_ge hk hn)]
theorem n_lt1 {v : Int32} (h : v < nI 0 ∨ nI 1 < v) : v < 0 ∨ 1 < v := h
def abits (v : Int32) (n : Int32) : Int32 := if v < 0 then 0 else if (v >>> (n &&& 31)) = 0 then 1 else 0
theorem abits01 (v n : Int32) : abits v n = 0 ∨ abits v n = 1 := by unfold abits; split <;> (try split) <;> simp
theorem c_areBits (v n : Int32) (M : zMe) : f_X11_areBits v n M = some (abits v n, M) := by
  unfold f_X11_areBits f_X11_areBits_b14 f_X11_areBits_b15 abits
  split
  · simp
  · split <;> simp
theorem abits_no {n : Nat} (hn : n < 31) {v : Int32} (h : v < 0 ∨ nI (2 ^ n) ≤ v) : abits v (nI n) = 0 := by
  unfold abits
  by_cases h0 : v < 0
  · rw [if_pos h0]
  · rw [if_neg h0]
    have h1 := h.resolve_left h0
    obtain ⟨k, hk, rfl⟩ := nI_of h0
    have h2 : 2 ^ n ≤ k := (nI_leI (Nat.pow_lt_pow_right (by decide) hn) hk).mp h1
    rw [n_shr hk (by omega), if_neg]
    intro z
    rw [n_eq0 (dv_lt hk)] at z
    have := (Nat.div_eq_zero_iff).mp z
    have := Nat.two_pow_pos n
    omega
theorem abits_ok {n k : Nat} (hn : n < 31) (hk : k < 2 ^ n) : abits (nI k) (nI n) = 1 := by
  have h31 := p31 hn hk
  unfold abits
  rw [if_neg (nI_pos h31), n_shr h31 (by omega), Nat.div_eq_of_lt hk, if_pos (by decide)]
theorem t_case {n : Nat} (hn : n < 31) (v : Int32) : (zin v 0 (((1 : Int32) <<< (nI n &&& 31)) - 1) = 0 ∧ abits v (nI n) = 0) ∨ ∃ k, k < 2 ^ n ∧ v = nI k := by
  rw [n_sh1 (by omega)]
  rcases zin_case (Nat.pow_lt_pow_right (by decide) hn : 2 ^ n < 2 ^ 31) v with ⟨h1, h2⟩ | h
  · exact Or.inl ⟨h1, abits_no hn h2⟩
  · exact Or.inr h
def ctune (v n : Int32) : Int32 := if n < 0 then 0 else if 20 < n then 0 else if abits v n = 0 then 0 else 1
theorem c_isTune (v n : Int32) (M : zMe) : f_X11_isTune v n M = some (ctune v n, M) := by
  unfold f_X11_isTune f_X11_isTune_b22 f_X11_isTune_b23 ctune
  simp only [c_areBits, Option.bind_some]
  split
  · simp
  · split
    · simp
    · split <;> simp
def cheard (v n b : Int32) : Int32 := if n < 1 then 0 else if 16 < n then 0 else if abits v n = 0 then 0 else if abits b n = 0 then 0 else 1
theorem c_isHeard (v n b : Int32) (M : zMe) : f_X11_isHeard v n b M = some (cheard v n b, M) := by
  unfold f_X11_isHeard f_X11_isHeard_b31 f_X11_isHeard_b32 cheard
  simp only [c_areBits, Option.bind_some]
  split
  · simp
  · split
    · simp
    · split
      · simp
      · split <;> simp
section CC
variable {M : zMe} {x h d : Nat} {tl : Int32} {ab be : Int64} {cb cn cf : Int32} {B : Nat → Nat} {f : Nat → Option Nat}
theorem c_g (hh : M.1 h = some (.inr (2, ho (nB B) d))) : zgI M h [2] 0 = some (nI (B 0)) ∧ zgI M h [2] 1 = some (nI (B 1)) ∧ zgI M h [2] 2 = some (nI (B 2)) ∧ zgI M h [2] 3 = some (nI (B 3)) ∧ zgI M h [2] 4 = some (nI (B 4)) ∧ zgI M h [2] 5 = some (nI (B 5)) ∧ zgI M h [2] 6 = some (nI (B 6)) ∧ zgN M h [2] 7 = some d := by
  simp [zgI, zgN, zg, hh, ho, nB]
theorem c_dogAt_no (hh : M.1 h = some (.inr (2, ho (nB B) d))) {v : Int32} (hv : v < 0 ∨ nI (B 6) ≤ v) : f_X2_dogAt h v M = some (none, M) := by
  obtain ⟨-, -, -, -, -, -, g6, -⟩ := c_g hh
  unfold f_X2_dogAt f_X2_dogAt_b21 f_X2_dogAt_b22
  by_cases h0 : v < 0
  · rw [if_pos h0]
  · rw [if_neg h0, g6, Option.bind_some, if_pos (hv.resolve_left h0)]
theorem c_dogAt_ok (hh : M.1 h = some (.inr (2, ho (nB B) d))) (hd : M.1 d = some (.inl (.object "OneWhistle$Plain", 3, .inr (.inr (.inr (.inr f)))))) (h3 : B 6 ≤ 3) {k : Nat} (hk : k < B 6) : f_X2_dogAt h (nI k) M = some (f k, M) := by
  obtain ⟨-, -, -, -, -, -, g6, g7⟩ := c_g hh
  have r : zrR M d (nI k) = some (f k) := by
    simp only [zrR, hd]
    rw [if_neg (nI_in (show k < 3 by omega) (by omega)), nI_clamp (by omega)]
  unfold f_X2_dogAt f_X2_dogAt_b22
  rw [if_neg (nI_pos (by omega)), g6, Option.bind_some, if_neg (nI_ge hk (by omega)), g7, Option.bind_some, r, Option.bind_some]
theorem c_isRow (hh : M.1 h = some (.inr (2, ho (nB B) d))) (h5 : B 0 ≤ 5) (v : Int32) : f_X2_isRow h v M = some (rowI (B 0) v, M) := by
  obtain ⟨g0, -⟩ := c_g hh
  unfold f_X2_isRow f_X2_isRow_b15
  by_cases h0 : v < 0
  · rw [if_pos h0, rowI, if_pos h0]
  · obtain ⟨r, hr, rfl⟩ := nI_of h0
    rw [if_neg h0, rowI_n hr, g0, Option.bind_some, show (3 : Int32) * nI (B 0) = nI (3 * B 0) from pk_mul 3 _, n_shr hr (by omega)]
    have hq : nI (r / 2 ^ (3 * B 0)) = 0 ↔ r < 2 ^ (3 * B 0) := by
      rw [n_eq0 (dv_lt hr), Nat.div_eq_zero_iff]
      have := Nat.two_pow_pos (3 * B 0)
      omega
    by_cases hc : r < 2 ^ (3 * B 0)
    · rw [if_pos (hq.mpr hc)]
      have key := loopIZ (S := Unit) (fun fuel j _ => f_X2_isRow_b19 fuel h (nI r) (nI j) M) (B 0) (fun j _ => rwb (B 0) r j = true) (fun q => q = (if isR (B 0) r then 1 else 0, M)) (by omega) (fun g j s hj hI => ?_) (fun g s hI => ?_) () rfl
      · obtain ⟨q, k1, k2⟩ := key
        rw [k2] at k1
        exact k1
      · have m8 : r / 2 ^ (3 * j) % 8 < 8 := Nat.mod_lt _ (by decide)
        simp only [f_X2_isRow_b19, g0, Option.bind_some, if_neg (nI_ge hj (show B 0 < 2 ^ 31 by omega)), show (3 : Int32) * nI j = nI (3 * j) from pk_mul 3 _, n_shr hr (show 3 * j < 32 by omega), n_a7 (Nat.lt_trans (dv_lt hr) (by decide) : r / 2 ^ (3 * j) < 2 ^ 32), zlet, nI_1]
        by_cases hb : r / 2 ^ (3 * j) % 8 < B 0
        · rw [if_pos (nI_lt hb (by omega))]
          exact Or.inl ⟨(), rfl, by rw [rwb, hI, decide_eq_true hb]; rfl⟩
        · rw [if_neg (nI_nlt (by omega) (by omega))]
          refine Or.inr ⟨_, rfl, ?_⟩
          rw [if_neg]
          intro z
          exact hb (((isR_iff _ _).mp z).2 j hj)
      · simp only [f_X2_isRow_b19, g0, Option.bind_some, if_pos (nI_le (Nat.le_refl (B 0)) (show B 0 < 2 ^ 31 by omega))]
        refine ⟨_, rfl, ?_⟩
        rw [isR, hI, decide_eq_true hc]
        rfl
    · rw [if_neg (fun z => hc (hq.mp z)), isR, decide_eq_false hc, Bool.and_false]
      rfl
theorem c_areDogs (hh : M.1 h = some (.inr (2, ho (nB B) d))) (v : Int32) : f_X2_areDogs h v M = some (abits v (nI (B 6)), M) := by
  obtain ⟨-, -, -, -, -, -, g6, -⟩ := c_g hh
  rw [f_X2_areDogs, g6, Option.bind_some, c_areBits, Option.bind_some, if_pos (abits01 _ _)]
theorem c_goes_bad1 (hx : M.1 x = some (.inr (11, xo x h tl ab be cb cn cf))) (hh : M.1 h = some (.inr (2, ho (nB B) d))) {v p w t : Int32} (hv : v < 0 ∨ nI (B 6) ≤ v) : f_X11_goes x v p w t M = some (-2, zSet M x (.inr (11, xo x h tl ab be (cb + 1) cn cf))) := by
  simp only [f_X11_goes, f_X11_goes_b47, c_h hx, Option.bind_some, c_obh hh, c_dogAt_no hh hv, zcase, c_obx hx, c_bad hx]
theorem c_goes_bad2 (hx : M.1 x = some (.inr (11, xo x h tl ab be cb cn cf))) (hh : M.1 h = some (.inr (2, ho (nB B) d))) (hd : M.1 d = some (.inl (.object "OneWhistle$Plain", 3, .inr (.inr (.inr (.inr f)))))) (h3 : B 6 ≤ 3) {k a : Nat} (hk : k < B 6) (hf : f k = some a) {p w t : Int32} (hv : cpl (nI (B 0)) p = 0 ∨ w < 0 ∨ 1 < w ∨ t < 0 ∨ 99 < t) : f_X11_goes x (nI k) p w t M = some (-2, zSet M x (.inr (11, xo x h tl ab be (cb + 1) cn cf))) := by
  simp only [f_X11_goes, f_X11_goes_b47, c_h hx, Option.bind_some, c_obh hh, c_dogAt_ok hh hd h3 hk, hf, zcase, c_obx hx, c_bad hx, c_isPlace hh, nB]
  by_cases h1 : cpl (nI (B 0)) p = 0
  · simp only [if_pos h1]
  · by_cases h2 : w < 0
    · simp only [if_neg h1, if_pos h2]
    · by_cases h4 : 1 < w
      · simp only [if_neg h1, if_neg h2, if_pos h4]
      · by_cases h5 : t < 0
        · simp only [if_neg h1, if_neg h2, if_neg h4, if_pos h5]
        · have h6 : ¬ t ≤ 99 := by
            have := hv.resolve_left h1 |>.resolve_left h2 |>.resolve_left h4 |>.resolve_left h5
            exact Int32.not_le.mpr this
          simp only [if_neg h1, if_neg h2, if_neg h4, if_neg h5, if_neg h6]
theorem dglt (hW : WB B) {k : Nat} (hk : k < B 6) : ∀ j, j < 6 → dg B k j < 2 ^ 31 := fun j hj => by
  have := (hW.dw k hk).lt hW.n5 j hj
  omega
theorem c_goes_ok (hx : M.1 x = some (.inr (11, xo x h tl ab be cb cn cf))) (hh : M.1 h = some (.inr (2, ho (nB B) d))) (hd : M.1 d = some (.inl (.object "OneWhistle$Plain", 3, .inr (.inr (.inr (.inr f)))))) (hW : WB B) {k a : Nat} (hk : k < B 6) (hf : f k = some a) (ha : M.1 a = some (dogCell (dg B k))) {p w t : Nat} (hp : p < B 0) (hw : w < 2) (ht : t ≤ 99) : f_X11_goes x (nI k) (nI p) (nI w) (nI t) M = some (nI (gog (B 1) (dg B k) w t p), M) := by
  have h5 := hW.n5
  have hs := hW.sh32
  simp only [f_X11_goes, c_h hx, Option.bind_some, c_obh hh, c_dogAt_ok hh hd hW.nd hk, hf, zcase, c_isPlace hh, nB, cpl_ok hp (show B 0 < 2 ^ 31 by omega), (c_g hh).2.1]
  rw [if_neg (by decide), if_neg (nI_pos (by omega)), if_neg (show ¬ (1 : Int32) < nI w from nI_nlt (a := 1) (by omega) (by omega)), if_neg (nI_pos (by omega)), if_pos (show nI t ≤ 99 from nI_le (b := 99) ht (by omega)), c_next ha (hW.dw k hk).1 (dglt hW hk) (by omega) (by omega) hw (by omega), Option.bind_some]
theorem c_run_bad1 (hx : M.1 x = some (.inr (11, xo x h tl ab be cb cn cf))) (hh : M.1 h = some (.inr (2, ho (nB B) d))) {v p w t : Int32} (hv : v < 0 ∨ nI (B 6) ≤ v) : f_X11_run x v p w t M = some (-2, zSet M x (.inr (11, xo x h tl ab be (cb + 1) cn cf))) := by
  simp only [f_X11_run, f_X11_run_b35, c_h hx, Option.bind_some, c_obh hh, c_dogAt_no hh hv, zcase, c_obx hx, c_bad hx]
theorem c_run_bad2 (hx : M.1 x = some (.inr (11, xo x h tl ab be cb cn cf))) (hh : M.1 h = some (.inr (2, ho (nB B) d))) (hd : M.1 d = some (.inl (.object "OneWhistle$Plain", 3, .inr (.inr (.inr (.inr f)))))) (h3 : B 6 ≤ 3) {k a : Nat} (hk : k < B 6) (hf : f k = some a) {p w t : Int32} (hv : cpl (nI (B 0)) p = 0 ∨ ctune w t = 0) : f_X11_run x (nI k) p w t M = some (-2, zSet M x (.inr (11, xo x h tl ab be (cb + 1) cn cf))) := by
  simp only [f_X11_run, f_X11_run_b35, c_h hx, Option.bind_some, c_obh hh, c_dogAt_ok hh hd h3 hk, hf, zcase, c_obx hx, c_bad hx, c_isPlace hh, nB, c_isTune]
  by_cases h1 : cpl (nI (B 0)) p = 0
  · simp only [if_pos h1]
  · simp only [if_neg h1, if_pos (hv.resolve_left h1)]
theorem ctune_ok {n k : Nat} (hn : n ≤ 20) (hk : k < 2 ^ n) : ctune (nI k) (nI n) = 1 := by
  unfold ctune
  rw [if_neg (nI_pos (by omega)), if_neg (show ¬ (20 : Int32) < nI n from nI_nlt (a := 20) hn (by omega)), abits_ok (by omega) hk, if_neg (by decide)]
theorem c_run_ok (hx : M.1 x = some (.inr (11, xo x h tl ab be cb cn cf))) (hh : M.1 h = some (.inr (2, ho (nB B) d))) (hd : M.1 d = some (.inl (.object "OneWhistle$Plain", 3, .inr (.inr (.inr (.inr f)))))) (hW : WB B) {k a : Nat} (hk : k < B 6) (hf : f k = some a) (ha : M.1 a = some (dogCell (dg B k))) {p tu n : Nat} (hp : p < B 0) (hn : n ≤ 20) (ht : tu < 2 ^ n) : f_X11_run x (nI k) (nI p) (nI tu) (nI n) M = some (nI (rnf (B 1) (dg B k) tu p n), M) := by
  have h5 := hW.n5
  have hs := hW.sh32
  simp only [f_X11_run, c_h hx, Option.bind_some, c_obh hh, c_dogAt_ok hh hd hW.nd hk, hf, zcase, c_isPlace hh, nB, cpl_ok hp (show B 0 < 2 ^ 31 by omega), (c_g hh).2.1, c_isTune, ctune_ok hn ht]
  rw [if_neg (by decide), if_neg (by decide), c_behind ha (hW.dw k hk).1 (dglt hW hk) (by omega) (by omega) (by omega) (p31 (by omega) ht), Option.bind_some]
theorem c_meets_bad1 (hx : M.1 x = some (.inr (11, xo x h tl ab be cb cn cf))) (hh : M.1 h = some (.inr (2, ho (nB B) d))) {v w t : Int32} (hv : v < 0 ∨ nI (B 6) ≤ v) : f_X11_meets x v w t M = some (-2, zSet M x (.inr (11, xo x h tl ab be (cb + 1) cn cf))) := by
  simp only [f_X11_meets, f_X11_meets_b23, c_h hx, Option.bind_some, c_obh hh, c_dogAt_no hh hv, zcase, c_obx hx, c_bad hx]
theorem c_meets_bad2 (hx : M.1 x = some (.inr (11, xo x h tl ab be cb cn cf))) (hh : M.1 h = some (.inr (2, ho (nB B) d))) (hd : M.1 d = some (.inl (.object "OneWhistle$Plain", 3, .inr (.inr (.inr (.inr f)))))) (h3 : B 6 ≤ 3) {k a : Nat} (hk : k < B 6) (hf : f k = some a) {w t : Int32} (hv : ctune w t = 0) : f_X11_meets x (nI k) w t M = some (-2, zSet M x (.inr (11, xo x h tl ab be (cb + 1) cn cf))) := by
  simp only [f_X11_meets, f_X11_meets_b23, c_h hx, Option.bind_some, c_obh hh, c_dogAt_ok hh hd h3 hk, hf, zcase, c_obx hx, c_bad hx, c_isTune, if_pos hv]
theorem c_meets_ok (hx : M.1 x = some (.inr (11, xo x h tl ab be cb cn cf))) (hh : M.1 h = some (.inr (2, ho (nB B) d))) (hd : M.1 d = some (.inl (.object "OneWhistle$Plain", 3, .inr (.inr (.inr (.inr f)))))) (hW : WB B) {k a : Nat} (hk : k < B 6) (hf : f k = some a) (ha : M.1 a = some (dogCell (dg B k))) {tu n : Nat} (hn : n ≤ 20) (ht : tu < 2 ^ n) : f_X11_meets x (nI k) (nI tu) (nI n) M = some (nI (mts B k tu n), M) := by
  have h5 := hW.n5
  have hs := hW.sh32
  simp only [f_X11_meets, c_h hx, Option.bind_some, c_obh hh, c_dogAt_ok hh hd hW.nd hk, hf, zcase, c_isTune, ctune_ok hn ht]
  rw [if_neg (by decide)]
  refine loopZ (fun fuel j => f_X11_meets_b36 fuel x (nI tu) (nI n) a (nI (orF (fun p => 2 ^ rnf (B 1) (dg B k) tu p n) j)) (nI j) M) (B 0) _ (by omega) (fun g j hj => ?_) (fun g => ?_)
  · show f_X11_meets_b36 (g + 1) x (nI tu) (nI n) a (nI (orF (fun p => 2 ^ rnf (B 1) (dg B k) tu p n) j)) (nI j) M = _
    have h8 := rnf8 (sh := B 1) (D := dg B k) (tu := tu) (show j < 8 by omega) n
    simp only [f_X11_meets_b36, c_h hx, Option.bind_some, (c_g hh).1, (c_g hh).2.1, zlet, nI_1]
    rw [if_neg (nI_ge hj (by omega)), c_behind ha (hW.dw k hk).1 (dglt hW hk) (by omega) (by omega) (by omega) (p31 (by omega) ht), Option.bind_some, n_sh1 (by omega), n_or]
    rfl
  · show f_X11_meets_b36 (g + 1) x (nI tu) (nI n) a (nI (orF (fun p => 2 ^ rnf (B 1) (dg B k) tu p n) (B 0))) (nI (B 0)) M = _
    simp only [f_X11_meets_b36, c_h hx, Option.bind_some, (c_g hh).1]
    rw [if_pos (nI_le (Nat.le_refl _) (by omega))]
    rfl
theorem hrd_ge {sh : Nat} {D : Nat → Nat} {ba tu bs p : Nat} {j n : Nat} (hj : j ≤ n) (h : hrd sh D ba tu bs p j = false) : hrd sh D ba tu bs p n = false := by
  induction n with
  | zero => rw [show j = 0 by omega] at h; exact h
  | succ n ih =>
    by_cases e : j = n + 1
    · rw [← e]; exact h
    · rw [hrd, ih (by omega)]
      rfl
theorem c_sounds (hx : M.1 x = some (.inr (11, xo x h tl ab be cb cn cf))) (hh : M.1 h = some (.inr (2, ho (nB B) d))) (hW : WB B) {k a : Nat} (hk : k < B 6) (ha : M.1 a = some (dogCell (dg B k))) {p tu n bs : Nat} (hp : p < 8) (hn : n < 31) (ht : tu < 2 ^ n) (hb : bs < 2 ^ n) : f_X11_soundsSo x a (nI p) (nI tu) (nI n) (nI bs) M = some (if hrd (B 1) (dg B k) (B 3) tu bs p n then 1 else 0, M) := by
  have hs := hW.sh32
  have hba := hW.ba32
  have key := loopIZ (S := Unit) (fun fuel j _ => f_X11_soundsSo_b6 fuel x a (nI tu) (nI n) (nI bs) (nI (rnf (B 1) (dg B k) tu p j)) (nI j) M) n (fun j _ => hrd (B 1) (dg B k) (B 3) tu bs p j = true) (fun q => q = (if hrd (B 1) (dg B k) (B 3) tu bs p n then 1 else 0, M)) (by omega) (fun g j s hj hI => ?_) (fun g s hI => ?_) () rfl
  · obtain ⟨q, k1, k2⟩ := key
    rw [k2] at k1
    exact k1
  · have h8 := rnf8 (sh := B 1) (D := dg B k) (tu := tu) hp (j + 1)
    simp only [f_X11_soundsSo_b6, c_h hx, Option.bind_some, (c_g hh).2.1, (c_g hh).2.2.2.1, if_neg (nI_ge hj (show n < 2 ^ 31 by omega)), n_bit (p31 hn ht) (show j < 32 by omega), c_next ha (hW.dw k hk).1 (dglt hW hk) (show B 1 < 2 ^ 31 by omega) (rnf8 hp j) (bw2 (tu.testBit j)) (show j < 2 ^ 31 by omega), c_holds, zlet, nI_1]
    rw [show gog (B 1) (dg B k) (if tu.testBit j then 1 else 0) j (rnf (B 1) (dg B k) tu p j) = rnf (B 1) (dg B k) tu p (j + 1) from rfl, n_hold (by omega) (by omega), n_hold (p31 hn hb) (by omega)]
    have e : hrd (B 1) (dg B k) (B 3) tu bs p (j + 1) = ((B 3).testBit (rnf (B 1) (dg B k) tu p (j + 1)) == bs.testBit j) := by rw [hrd, hI]; rfl
    by_cases hc : (B 3).testBit (rnf (B 1) (dg B k) tu p (j + 1)) = bs.testBit j
    · rw [hc, if_pos rfl]
      exact Or.inl ⟨(), rfl, by rw [e, hc]; simp⟩
    · have e2 : hrd (B 1) (dg B k) (B 3) tu bs p n = false := hrd_ge (show j + 1 ≤ n by omega) (by rw [e]; simpa using hc)
      rw [if_neg (by revert hc; cases (B 3).testBit (rnf (B 1) (dg B k) tu p (j + 1)) <;> cases bs.testBit j <;> simp), e2]
      exact Or.inr ⟨_, rfl, rfl⟩
  · simp only [f_X11_soundsSo_b6, if_pos (nI_le (Nat.le_refl n) (show n < 2 ^ 31 by omega)), hI]
    exact ⟨_, rfl, rfl⟩
theorem c_origins (hx : M.1 x = some (.inr (11, xo x h tl ab be cb cn cf))) (hh : M.1 h = some (.inr (2, ho (nB B) d))) (hW : WB B) {k a : Nat} (hk : k < B 6) (ha : M.1 a = some (dogCell (dg B k))) {tu n bs : Nat} (hn : n < 31) (ht : tu < 2 ^ n) (hb : bs < 2 ^ n) : f_X11_origins x a (nI tu) (nI n) (nI bs) M = some (nI (bgs B k tu n bs), M) := by
  have h5 := hW.n5
  refine loopZ (fun fuel j => f_X11_origins_b6 fuel x a (nI tu) (nI n) (nI bs) (nI (orF (fun p => if hrd (B 1) (dg B k) (B 3) tu bs p n then 2 ^ p else 0) j)) (nI j) M) (B 0) _ (by omega) (fun g j hj => ?_) (fun g => ?_)
  · show f_X11_origins_b6 (g + 1) x a (nI tu) (nI n) (nI bs) (nI (orF (fun p => if hrd (B 1) (dg B k) (B 3) tu bs p n then 2 ^ p else 0) j)) (nI j) M = _
    simp only [f_X11_origins_b6, f_X11_origins_b41, c_h hx, Option.bind_some, (c_g hh).1, c_obx hx, zlet, nI_1, c_sounds hx hh hW hk ha (show j < 8 by omega) hn ht hb]
    rw [if_neg (nI_ge hj (by omega)), n_sh1 (by omega), orF]
    cases hrd (B 1) (dg B k) (B 3) tu bs j n
    · simp
    · simp (decide := true) [n_or]
  · show f_X11_origins_b6 (g + 1) x a (nI tu) (nI n) (nI bs) (nI (orF (fun p => if hrd (B 1) (dg B k) (B 3) tu bs p n then 2 ^ p else 0) (B 0))) (nI (B 0)) M = _
    simp only [f_X11_origins_b6, c_h hx, Option.bind_some, (c_g hh).1]
    rw [if_pos (nI_le (Nat.le_refl _) (by omega))]
    rfl
end CC
