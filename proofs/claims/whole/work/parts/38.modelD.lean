section MD
variable {M : zMe} {m : Nat} {sc : Nat → Int32} {lg : Nat → Int64} {ar : Nat → Nat → Int32} {en : Nat → Int64} {B : Nat → Nat}
theorem m_goes_bad {a b c t : Int32} (h : zin a 0 (ar 0 6 - 1) = 0 ∨ zin b 0 (ar 0 0 - 1) = 0 ∨ zin c 0 1 = 0 ∨ zin t 0 99 = 0) : f_X12_goes m a b c t (mmk M m sc lg ar en) = some (-2, mmk M m sc lg (mref ar 0) en) := by
  simp only [f_X12_goes, f_X12_goes_b48, f_X12_goes_b52, mm_ob, m_isDog, m_isPlace, m_in, m_bad, Option.bind_some]
  by_cases h1 : zin a 0 (ar 0 6 - 1) = 0
  · simp only [if_pos h1]
  · by_cases h2 : zin b 0 (ar 0 0 - 1) = 0
    · simp only [if_neg h1, if_pos h2]
    · by_cases h3 : zin c 0 1 = 0
      · simp only [if_neg h1, if_neg h2, if_pos h3]
      · by_cases h4 : zin t 0 99 = 0
        · simp only [if_neg h1, if_neg h2, if_neg h3, if_pos h4]
        · exact absurd h (by simp [h1, h2, h3, h4])
theorem m_goes_ok (hB : Bk (ar 0) B) (hW : WB B) {d p w t : Nat} (hd : d < B 6) (hp : p < B 0) (hw : w < 2) (ht : t ≤ 99) : f_X12_goes m (nI d) (nI p) (nI w) (nI t) (mmk M m sc lg ar en) = some (nI (gog (B 1) (dg B d) w t p), mmk M m sc lg ar en) := by
  have := hW.nd
  have := hW.n5
  simp only [f_X12_goes, f_X12_goes_b52, mm_ob, m_isDog, m_isPlace, m_in, m_bad, Option.bind_some, hB 6 (by omega), hB 0 (by omega)]
  rw [zin_n (by omega) hd, zin_n (by omega) hp, show zin (nI w) 0 1 = 1 from zin_k (a := 0) (b := 1) (by omega) (by omega) (by omega), show zin (nI t) 0 99 = 1 from zin_k (a := 0) (b := 99) (by omega) (by omega) (by omega)]
  simp (decide := true) only [if_neg, m_goN hB hW hd (show p < 8 by omega) hw (show t < 2 ^ 31 by omega), Option.bind_some, if_false]
theorem m_run_bad {a b c n : Int32} (h : zin a 0 (ar 0 6 - 1) = 0 ∨ zin b 0 (ar 0 0 - 1) = 0 ∨ zin n 0 20 = 0 ∨ zin c 0 (((1 : Int32) <<< (n &&& 31)) - 1) = 0) : f_X12_run m a b c n (mmk M m sc lg ar en) = some (-2, mmk M m sc lg (mref ar 0) en) := by
  simp only [f_X12_run, f_X12_run_b49, f_X12_run_b53, mm_ob, m_isDog, m_isPlace, m_in, m_bad, m_isTune, Option.bind_some]
  by_cases h1 : zin a 0 (ar 0 6 - 1) = 0
  · simp only [if_pos h1]
  · by_cases h2 : zin b 0 (ar 0 0 - 1) = 0
    · simp only [if_neg h1, if_pos h2]
    · by_cases h3 : zin n 0 20 = 0
      · simp only [if_neg h1, if_neg h2, if_pos h3]
      · by_cases h4 : zin c 0 (((1 : Int32) <<< (n &&& 31)) - 1) = 0
        · simp only [if_neg h1, if_neg h2, if_neg h3, if_pos h4]
        · exact absurd h (by simp [h1, h2, h3, h4])
theorem zin_t {n k : Nat} (hn : n < 31) (hk : k < 2 ^ n) : zin (nI k) 0 (((1 : Int32) <<< (nI n &&& 31)) - 1) = 1 := by
  rw [n_sh1 (by omega)]
  exact zin_n (Nat.pow_lt_pow_right (by decide) hn) hk
theorem p31 {n k : Nat} (hn : n < 31) (hk : k < 2 ^ n) : k < 2 ^ 31 := Nat.lt_trans hk (Nat.pow_lt_pow_right (by decide) hn)
theorem m_run_ok (hB : Bk (ar 0) B) (hW : WB B) {d p tu n : Nat} (hd : d < B 6) (hp : p < B 0) (hn : n ≤ 20) (ht : tu < 2 ^ n) : f_X12_run m (nI d) (nI p) (nI tu) (nI n) (mmk M m sc lg ar en) = some (nI (rnf (B 1) (dg B d) tu p n), mmk M m sc lg ar en) := by
  have := hW.nd
  have := hW.n5
  simp only [f_X12_run, f_X12_run_b53, mm_ob, m_isDog, m_isPlace, m_in, m_isTune, m_bad, Option.bind_some, hB 6 (by omega), hB 0 (by omega)]
  rw [zin_n (by omega) hd, zin_n (by omega) hp, show zin (nI n) 0 20 = 1 from zin_k (a := 0) (b := 20) (by omega) (by omega) (by omega), zin_t (by omega) ht]
  simp (decide := true) only [if_neg, m_ran hB hW hd (show p < 8 by omega) (show n < 32 by omega) (p31 (show n < 31 by omega) ht), Option.bind_some, if_false]
theorem m_meets_bad {a c n : Int32} (h : zin a 0 (ar 0 6 - 1) = 0 ∨ zin n 0 20 = 0 ∨ zin c 0 (((1 : Int32) <<< (n &&& 31)) - 1) = 0) : f_X12_meets m a c n (mmk M m sc lg ar en) = some (-2, mmk M m sc lg (mref ar 0) en) := by
  simp only [f_X12_meets, f_X12_meets_b27, mm_ob, m_isDog, m_isPlace, m_in, m_bad, m_isTune, Option.bind_some]
  by_cases h1 : zin a 0 (ar 0 6 - 1) = 0
  · simp only [if_pos h1]
  · by_cases h3 : zin n 0 20 = 0
    · simp only [if_neg h1, if_pos h3]
    · by_cases h4 : zin c 0 (((1 : Int32) <<< (n &&& 31)) - 1) = 0
      · simp only [if_neg h1, if_neg h3, if_pos h4]
      · exact absurd h (by simp [h1, h3, h4])
def mts (B : Nat → Nat) (d tu n : Nat) : Nat := orF (fun p => 2 ^ rnf (B 1) (dg B d) tu p n) (B 0)
theorem m_meets_ok (hB : Bk (ar 0) B) (hW : WB B) {d tu n : Nat} (hd : d < B 6) (hn : n ≤ 20) (ht : tu < 2 ^ n) : f_X12_meets m (nI d) (nI tu) (nI n) (mmk M m sc lg ar en) = some (nI (mts B d tu n), mmk M m sc lg ar en) := by
  have := hW.nd
  have := hW.n5
  have e0 : ar 0 0 = nI (B 0) := hB 0 (by omega)
  simp only [f_X12_meets, mm_ob, m_isDog, m_isPlace, m_in, m_isTune, m_bad, Option.bind_some, hB 6 (by omega)]
  rw [zin_n (by omega) hd, show zin (nI n) 0 20 = 1 from zin_k (a := 0) (b := 20) (by omega) (by omega) (by omega), zin_t (by omega) ht]
  simp (decide := true) only [if_neg, if_false]
  refine loopZ (fun fuel j => f_X12_meets_b38 fuel m (nI d) (nI tu) (nI n) (nI (orF (fun p => 2 ^ rnf (B 1) (dg B d) tu p n) j)) (nI j) (mmk M m sc lg ar en)) (B 0) _ (by omega) (fun f j hj => ?_) (fun f => ?_)
  · show f_X12_meets_b38 (f + 1) m (nI d) (nI tu) (nI n) (nI (orF (fun p => 2 ^ rnf (B 1) (dg B d) tu p n) j)) (nI j) (mmk M m sc lg ar en) = _
    have h8 := rnf8 (sh := B 1) (D := dg B d) (tu := tu) (show j < 8 by omega) n
    simp (decide := true) only [f_X12_meets_b38, mm_gN0, Option.bind_some, mm_r1, zt0, if_neg, e0, mm_ob, zlet, nI_1]
    rw [if_neg (nI_ge hj (by omega)), m_ran hB hW hd (by omega) (by omega) (p31 (show n < 31 by omega) ht), Option.bind_some, n_sh1 (by omega), n_or]
    rfl
  · show f_X12_meets_b38 (f + 1) m (nI d) (nI tu) (nI n) (nI (orF (fun p => 2 ^ rnf (B 1) (dg B d) tu p n) (B 0))) (nI (B 0)) (mmk M m sc lg ar en) = _
    simp (decide := true) only [f_X12_meets_b38, mm_gN0, Option.bind_some, mm_r1, zt0, if_neg, e0]
    rw [if_pos (nI_le (Nat.le_refl _) (by omega))]
    rfl
theorem m_which_bad {a n b : Int32} (h : zin n 1 16 = 0 ∨ zin a 0 (((1 : Int32) <<< (n &&& 31)) - 1) = 0 ∨ zin b 0 (((1 : Int32) <<< (n &&& 31)) - 1) = 0) : f_X12_which m a n b (mmk M m sc lg ar en) = some (-2, mmk M m sc lg (mref ar 0) en) := by
  simp only [f_X12_which, f_X12_which_b28, mm_ob, m_in, m_bad, m_isTune, Option.bind_some]
  by_cases h1 : zin n 1 16 = 0
  · simp only [if_pos h1]
  · by_cases h3 : zin a 0 (((1 : Int32) <<< (n &&& 31)) - 1) = 0
    · simp only [if_neg h1, if_pos h3]
    · by_cases h4 : zin b 0 (((1 : Int32) <<< (n &&& 31)) - 1) = 0
      · simp only [if_neg h1, if_neg h3, if_pos h4]
      · exact absurd h (by simp [h1, h3, h4])
theorem orF_lt {f : Nat → Nat} {b : Nat} (h : ∀ k, f k < 2 ^ b) : ∀ n, orF f n < 2 ^ b
  | 0 => Nat.two_pow_pos b
  | n + 1 => Nat.or_lt_two_pow (orF_lt h n) (h n)
theorem orF_ltn {f : Nat → Nat} {b : Nat} : ∀ n, (∀ k, k < n → f k < 2 ^ b) → orF f n < 2 ^ b
  | 0, _ => Nat.two_pow_pos b
  | n + 1, h => Nat.or_lt_two_pow (orF_ltn n (fun k hk => h k (by omega))) (h n (by omega))
theorem bgs_lt (hW : WB B) (d tu n bs : Nat) : bgs B d tu n bs < 32 := by
  have := hW.n5
  refine orF_ltn (b := 5) _ (fun k hk => ?_)
  split
  · exact Nat.pow_lt_pow_right (by decide) (by omega)
  · decide
def whs (B : Nat → Nat) (tu n bs : Nat) : Nat := orF (fun d => if bgs B d tu n bs = 0 then 0 else 2 ^ d) (B 6)
theorem m_which_ok (hB : Bk (ar 0) B) (hW : WB B) {tu n bs : Nat} (hn1 : 1 ≤ n) (hn : n ≤ 16) (ht : tu < 2 ^ n) (hb : bs < 2 ^ n) : f_X12_which m (nI tu) (nI n) (nI bs) (mmk M m sc lg ar en) = some (nI (whs B tu n bs), mmk M m sc lg ar en) := by
  have := hW.nd
  have e6 : ar 0 6 = nI (B 6) := hB 6 (by omega)
  simp only [f_X12_which, mm_ob, m_in, m_isTune, m_bad, Option.bind_some]
  rw [show zin (nI n) 1 16 = 1 from zin_k (a := 1) (b := 16) (by omega) (by omega) (by omega), zin_t (by omega) ht, zin_t (by omega) hb]
  simp (decide := true) only [if_neg, if_false]
  refine loopZ (fun fuel j => f_X12_which_b39 fuel m (nI tu) (nI n) (nI bs) (nI (orF (fun d => if bgs B d tu n bs = 0 then 0 else 2 ^ d) j)) (nI j) (mmk M m sc lg ar en)) (B 6) _ (by omega) (fun f j hj => ?_) (fun f => ?_)
  · show f_X12_which_b39 (f + 1) m (nI tu) (nI n) (nI bs) (nI (orF (fun d => if bgs B d tu n bs = 0 then 0 else 2 ^ d) j)) (nI j) (mmk M m sc lg ar en) = _
    have hl := bgs_lt hW j tu n bs
    simp (decide := true) only [f_X12_which_b39, f_X12_which_b73, mm_gN0, Option.bind_some, mm_r1, zt6, if_neg, e6, mm_ob, zlet, nI_1]
    rw [if_neg (nI_ge hj (by omega)), m_begins hB hW hj (by omega) (p31 (show n < 31 by omega) ht) (p31 (show n < 31 by omega) hb), Option.bind_some, n_sh1 (by omega), orF]
    simp only [n_eq0 (show bgs B j tu n bs < 2 ^ 31 by omega)]
    by_cases hz : bgs B j tu n bs = 0
    · simp only [if_pos hz, Nat.or_zero]
      rw [show (0 : Int32) = nI 0 from rfl, n_or, Nat.or_zero]
    · simp only [if_neg hz]
      rw [n_or]
  · show f_X12_which_b39 (f + 1) m (nI tu) (nI n) (nI bs) (nI (orF (fun d => if bgs B d tu n bs = 0 then 0 else 2 ^ d) (B 6))) (nI (B 6)) (mmk M m sc lg ar en) = _
    simp (decide := true) only [f_X12_which_b39, mm_gN0, Option.bind_some, mm_r1, zt6, if_neg, e6]
    rw [if_pos (nI_le (Nat.le_refl _) (by omega))]
    rfl
theorem m_starts_bad {d a n b : Int32} (h : zin d 0 (ar 0 6 - 1) = 0 ∨ zin n 1 16 = 0 ∨ zin a 0 (((1 : Int32) <<< (n &&& 31)) - 1) = 0 ∨ zin b 0 (((1 : Int32) <<< (n &&& 31)) - 1) = 0) : f_X12_starts m d a n b (mmk M m sc lg ar en) = some (-2, mmk M m sc lg (mref ar 0) en) := by
  simp only [f_X12_starts, f_X12_starts_b49, f_X12_starts_b53, mm_ob, m_isDog, m_in, m_bad, m_isTune, Option.bind_some]
  by_cases h0 : zin d 0 (ar 0 6 - 1) = 0
  · simp only [if_pos h0]
  · by_cases h1 : zin n 1 16 = 0
    · simp only [if_neg h0, if_pos h1]
    · by_cases h3 : zin a 0 (((1 : Int32) <<< (n &&& 31)) - 1) = 0
      · simp only [if_neg h0, if_neg h1, if_pos h3]
      · by_cases h4 : zin b 0 (((1 : Int32) <<< (n &&& 31)) - 1) = 0
        · simp only [if_neg h0, if_neg h1, if_neg h3, if_pos h4]
        · exact absurd h (by simp [h0, h1, h3, h4])
theorem m_starts_ok (hB : Bk (ar 0) B) (hW : WB B) {d tu n bs : Nat} (hd : d < B 6) (hn1 : 1 ≤ n) (hn : n ≤ 16) (ht : tu < 2 ^ n) (hb : bs < 2 ^ n) : f_X12_starts m (nI d) (nI tu) (nI n) (nI bs) (mmk M m sc lg ar en) = some (nI (bgs B d tu n bs), mmk M m sc lg ar en) := by
  have := hW.nd
  simp only [f_X12_starts, f_X12_starts_b53, mm_ob, m_isDog, m_in, m_isTune, m_bad, Option.bind_some, hB 6 (by omega)]
  rw [zin_n (by omega) hd, show zin (nI n) 1 16 = 1 from zin_k (a := 1) (b := 16) (by omega) (by omega) (by omega), zin_t (by omega) ht, zin_t (by omega) hb]
  simp (decide := true) only [if_neg, if_false, m_begins hB hW hd (show n < 32 by omega) (p31 (show n < 31 by omega) ht) (p31 (show n < 31 by omega) hb), Option.bind_some]
/-! rows, dogs -/
theorem m_isRowN (hB : Bk (ar 0) B) (hn : B 0 ≤ 5) {r : Nat} (hr : r < 2 ^ 31) : f_X12_isRow m (nI r) (mmk M m sc lg ar en) = some (if isR (B 0) r then 1 else 0, mmk M m sc lg ar en) := by
  have e0 : ar 0 0 = nI (B 0) := hB 0 (by omega)
  rw [f_X12_isRow, if_neg (nI_pos hr), f_X12_isRow_b11]
  suffices key : f_X12_isRow_b15 zfu m (nI (r / 2 ^ (3 * 0))) (if rwb (B 0) r 0 then 1 else 0) (nI 0) (mmk M m sc lg ar en) = some (if isR (B 0) r then 1 else 0, mmk M m sc lg ar en) by
    rw [Nat.mul_zero, Nat.pow_zero, Nat.div_one] at key
    exact key
  refine loopZ (fun fuel j => f_X12_isRow_b15 fuel m (nI (r / 2 ^ (3 * j))) (if rwb (B 0) r j then 1 else 0) (nI j) (mmk M m sc lg ar en)) (B 0) _ (by omega) (fun f j hj => ?_) (fun f => ?_)
  · show f_X12_isRow_b15 (f + 1) m (nI (r / 2 ^ (3 * j))) (if rwb (B 0) r j then 1 else 0) (nI j) (mmk M m sc lg ar en) = _
    have hd : r / 2 ^ (3 * j) < 2 ^ 31 := dv_lt hr
    have e8 : nI (r / 2 ^ (3 * j)) / 8 = nI (r / 2 ^ (3 * (j + 1))) := by
      rw [show (8 : Int32) = nI 8 from rfl, pk_div hd (by decide) (by decide), dv8]
    have em : nI (r / 2 ^ (3 * j)) - nI (r / 2 ^ (3 * (j + 1))) * 8 = nI (r / 2 ^ (3 * j) % 8) := by
      rw [← e8]
      exact pk_rem (d := 8) hd (by decide) (by decide)
    have m8 : r / 2 ^ (3 * j) % 8 < 8 := Nat.mod_lt _ (by decide)
    simp (decide := true) only [f_X12_isRow_b15, f_X12_isRow_b47, f_X12_isRow_b48, mm_gN0, Option.bind_some, mm_r1, zt0, if_neg, e0, zlet, nI_1, e8, em]
    rw [if_neg (nI_ge hj (by omega)), show rwb (B 0) r (j + 1) = (rwb (B 0) r j && decide (r / 2 ^ (3 * j) % 8 < B 0)) from rfl]
    cases rwb (B 0) r j
    · simp
    · by_cases hc : r / 2 ^ (3 * j) % 8 < B 0
      · rw [if_neg (by decide), if_neg (nI_ge hc (by omega))]
        simp [hc]
      · rw [if_neg (by decide), if_pos (nI_le (by omega) (by omega))]
        simp [hc]
  · show f_X12_isRow_b15 (f + 1) m (nI (r / 2 ^ (3 * B 0))) (if rwb (B 0) r (B 0) then 1 else 0) (nI (B 0)) (mmk M m sc lg ar en) = _
    simp (decide := true) only [f_X12_isRow_b15, f_X12_isRow_b72, f_X12_isRow_b73, mm_gN0, Option.bind_some, mm_r1, zt0, if_neg, e0]
    rw [if_pos (nI_le (Nat.le_refl _) (by omega)), isR]
    simp only [n_eq0 (show r / 2 ^ (3 * B 0) < 2 ^ 31 from dv_lt hr)]
    cases rwb (B 0) r (B 0)
    · simp
    · have hq : r / 2 ^ (3 * B 0) = 0 ↔ r < 2 ^ (3 * B 0) := by
        rw [Nat.div_eq_zero_iff]
        have := Nat.two_pow_pos (3 * B 0)
        omega
      by_cases hc : r < 2 ^ (3 * B 0)
      · simp [hq.mpr hc, hc]
      · simp [hc, show ¬ r / 2 ^ (3 * B 0) = 0 from fun z => hc (hq.mp z)]
theorem m_isRow_neg (hB : Bk (ar 0) B) (hn : B 0 ≤ 5) {v : Int32} (hv : v < 0) : f_X12_isRow m v (mmk M m sc lg ar en) = some (0, mmk M m sc lg ar en) := by
  have e0 : ar 0 0 = nI (B 0) := hB 0 (by omega)
  rw [f_X12_isRow, if_pos hv, f_X12_isRow_b11]
  obtain ⟨r, h1, h2⟩ := loopI (S := Int32) (fun fuel j s => f_X12_isRow_b15 fuel m s 0 (nI j) (mmk M m sc lg ar en)) (B 0) (fun _ _ => True) (fun r => r = (0, mmk M m sc lg ar en)) (fun f j s hj _ => Or.inl ⟨s / 8, by
      simp (decide := true) only [f_X12_isRow_b15, f_X12_isRow_b47, f_X12_isRow_b48, mm_gN0, Option.bind_some, mm_r1, zt0, if_neg, e0, zlet, nI_1, if_true]
      rw [if_neg (nI_ge hj (by omega))], trivial⟩) (fun f s _ => ⟨_, by
      simp (decide := true) only [f_X12_isRow_b15, f_X12_isRow_b72, f_X12_isRow_b73, mm_gN0, Option.bind_some, mm_r1, zt0, if_neg, e0, if_true]
      rw [if_pos (nI_le (Nat.le_refl _) (by omega))], rfl⟩) (B 0) 0 zfu v (by omega) (by unfold zfu; omega) trivial
  rw [show (0 : Int32) = nI 0 from rfl] at h1 ⊢
  rw [h2] at h1
  exact h1
def bcomes (bk : Nat → Int32) (nd : Nat) (k r0 r1 s0 s1 l : Int32) : Nat → Int32 := upd (upd (upd (upd (upd (upd (upd bk (7 + 6 * nd) k) (7 + 6 * nd + 1) r0) (7 + 6 * nd + 2) r1) (7 + 6 * nd + 3) s0) (7 + 6 * nd + 4) s1) (7 + 6 * nd + 5) l) 6 (nI (nd + 1))
theorem m_comes (hB : Bk (ar 0) B) (hnd : B 6 ≤ 3) (k r0 r1 s0 s1 l : Int32) : f_X12_comes m k r0 r1 s0 s1 l (mmk M m sc lg ar en) = if B 6 = 3 then some (-4, mmk M m sc lg (mref ar 2) en) else some (nI (B 6), mmk M m sc lg (updA ar 0 (bcomes (ar 0) (B 6) k r0 r1 s0 s1 l)) en) := by
  have e6 : ar 0 6 = nI (B 6) := hB 6 (by omega)
  have e7 : (7 + 6 * nI (B 6) : Int32) = nI (7 + 6 * B 6) := by
    rw [show (6 : Int32) = nI 6 from rfl, show (7 : Int32) = nI 7 from rfl, pk_mul, nI_add]
  have a1 : ∀ a, nI a + 2 = nI (a + 2) := fun a => nI_add a 2
  have a3 : ∀ a, nI a + 3 = nI (a + 3) := fun a => nI_add a 3
  have a4 : ∀ a, nI a + 4 = nI (a + 4) := fun a => nI_add a 4
  have a5 : ∀ a, nI a + 5 = nI (a + 5) := fun a => nI_add a 5
  simp (decide := true) only [f_X12_comes, mm_gN0, Option.bind_some, mm_r1, zt6, if_neg, e6, mm_ob, m_ref2, zlet, e7, nI_1, a1, a3, a4, a5, n_eq3 (show B 6 < 2 ^ 31 by omega)]
  by_cases h : B 6 = 3
  · rw [if_pos h, if_pos h]
  · rw [if_neg h, if_neg h]
    rw [mm_wN1 (show 7 + 6 * B 6 < 25 by omega)]
    simp only [Option.bind_some, mm_gN0, updA_s, updA_A]
    rw [mm_wN1 (show 7 + 6 * B 6 + 1 < 25 by omega)]
    simp only [Option.bind_some, mm_gN0, updA_s, updA_A]
    rw [mm_wN1 (show 7 + 6 * B 6 + 2 < 25 by omega)]
    simp only [Option.bind_some, mm_gN0, updA_s, updA_A]
    rw [mm_wN1 (show 7 + 6 * B 6 + 3 < 25 by omega)]
    simp only [Option.bind_some, mm_gN0, updA_s, updA_A]
    rw [mm_wN1 (show 7 + 6 * B 6 + 4 < 25 by omega)]
    simp only [Option.bind_some, mm_gN0, updA_s, updA_A]
    rw [mm_wN1 (show 7 + 6 * B 6 + 5 < 25 by omega)]
    simp only [Option.bind_some, mm_gN0, updA_s, updA_A]
    have u : ∀ (f : Nat → Int32) (i : Nat) (x : Int32), ¬ 6 = i → upd f i x 6 = f 6 := fun f i x h => by simp [upd, h]
    have g6 : (upd (upd (upd (upd (upd (upd (ar 0) (7 + 6 * B 6) k) (7 + 6 * B 6 + 1) r0) (7 + 6 * B 6 + 2) r1) (7 + 6 * B 6 + 3) s0) (7 + 6 * B 6 + 4) s1) (7 + 6 * B 6 + 5) l) 6 = nI (B 6) := by
      rw [u _ _ _ (by omega), u _ _ _ (by omega), u _ _ _ (by omega), u _ _ _ (by omega), u _ _ _ (by omega), u _ _ _ (by omega), e6]
    simp (decide := true) only [mm_r1, zt6, if_neg, if_false, updA_s, g6, Option.bind_some, mm_w1, mm_gN0, updA_A, nI_1]
    have us : ∀ (f : Nat → Int32) (x : Int32), upd f 6 x 6 = x := fun f x => by simp [upd]
    rw [us, nI_pred]
    rfl
end MD
