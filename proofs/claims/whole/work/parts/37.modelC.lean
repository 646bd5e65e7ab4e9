/-! which numbers a call takes -/
theorem zin_case {n : Nat} (hn : n < 2 ^ 31) (v : Int32) : (zin v 0 (nI n - 1) = 0 ∧ (v < 0 ∨ nI n ≤ v)) ∨ ∃ k, k < n ∧ v = nI k := by
  rcases pk_ix v hn with h | h | h
  · exact Or.inl ⟨by unfold zin; rw [if_pos h], Or.inl h⟩
  · refine Or.inl ⟨?_, Or.inr h⟩
    unfold zin
    by_cases h0 : v < 0
    · rw [if_pos h0]
    · rw [if_neg h0, if_pos]
      rw [Int32.lt_iff_toInt_lt]
      rw [Int32.le_iff_toInt_le, nI_toInt hn] at h
      by_cases hz : n = 0
      · subst hz
        have : (nI 0 - 1 : Int32).toInt = -1 := by decide
        omega
      · obtain ⟨k, rfl⟩ : ∃ k, n = k + 1 := ⟨n - 1, by omega⟩
        rw [nI_pred, nI_toInt (by omega)]
        omega
  · exact Or.inr h
theorem zin_n {n k : Nat} (hn : n < 2 ^ 31) (hk : k < n) : zin (nI k) 0 (nI n - 1) = 1 := by
  obtain ⟨j, rfl⟩ : ∃ j, n = j + 1 := ⟨n - 1, by omega⟩
  unfold zin
  rw [nI_pred, if_neg (nI_pos (by omega)), if_neg (nI_nlt (by omega) (by omega))]
theorem zin_r {a b : Nat} (hb : b < 2 ^ 31) (hab : a ≤ b) (v : Int32) : (zin v (nI a) (nI b) = 0 ∧ (v < nI a ∨ nI b < v)) ∨ ∃ k, a ≤ k ∧ k ≤ b ∧ v = nI k := by
  by_cases h1 : v < nI a
  · exact Or.inl ⟨by unfold zin; rw [if_pos h1], Or.inl h1⟩
  · by_cases h2 : nI b < v
    · exact Or.inl ⟨by unfold zin; rw [if_neg h1, if_pos h2], Or.inr h2⟩
    · refine Or.inr ?_
      rw [Int32.lt_iff_toInt_lt, nI_toInt (by omega)] at h1
      rw [Int32.lt_iff_toInt_lt, nI_toInt hb] at h2
      exact ⟨v.toInt.toNat, by omega, by omega, eq_of_toInt (by omega) (by omega)⟩
theorem zin_k {a b k : Nat} (hb : b < 2 ^ 31) (h1 : a ≤ k) (h2 : k ≤ b) : zin (nI k) (nI a) (nI b) = 1 := by
  unfold zin
  rw [if_neg (nI_nlt h1 (by omega)), if_neg (nI_nlt h2 hb)]
theorem p2b {n k : Nat} (h : n ≤ k) : 2 ^ n ≤ 2 ^ k := Nat.pow_le_pow_right (by decide) h
/-! functions of numbers -/
def orF (f : Nat → Nat) : Nat → Nat
  | 0 => 0
  | k + 1 => orF f k ||| f k
def rnf (sh : Nat) (D : Nat → Nat) (tu p : Nat) : Nat → Nat
  | 0 => p
  | k + 1 => gog sh D (if tu.testBit k then 1 else 0) k (rnf sh D tu p k)
def hrd (sh : Nat) (D : Nat → Nat) (ba tu bs p : Nat) : Nat → Bool
  | 0 => true
  | k + 1 => hrd sh D ba tu bs p k && (ba.testBit (rnf sh D tu p (k + 1)) == bs.testBit k)
theorem bw2 (b : Bool) : (if b then 1 else 0) < 2 := by cases b <;> decide
theorem rnf8 {sh : Nat} {D : Nat → Nat} {tu p : Nat} (hp : p < 8) : ∀ k, rnf sh D tu p k < 8
  | 0 => hp
  | k + 1 => gog8 (rnf8 hp k)
theorem rnf_lt {n sh : Nat} {D : Nat → Nat} {tu p : Nat} (h : DW n D) (hp : p < n) : ∀ k, rnf sh D tu p k < n
  | 0 => hp
  | k + 1 => gog_lt h (bw2 _) (rnf_lt h hp k)
def rwb (n r : Nat) : Nat → Bool
  | 0 => true
  | k + 1 => rwb n r k && decide (r / 2 ^ (3 * k) % 8 < n)
def isR (n r : Nat) : Bool := rwb n r n && decide (r < 2 ^ (3 * n))
theorem rwb_iff (n r : Nat) : ∀ k, rwb n r k = true ↔ ∀ j, j < k → r / 2 ^ (3 * j) % 8 < n
  | 0 => by simp [rwb]
  | k + 1 => by
    rw [rwb, Bool.and_eq_true, rwb_iff n r k, decide_eq_true_iff]
    constructor
    · rintro ⟨h1, h2⟩ j hj
      by_cases e : j = k
      · rw [e]; exact h2
      · exact h1 j (by omega)
    · intro h
      exact ⟨fun j hj => h j (by omega), h k (by omega)⟩
theorem isR_iff (n r : Nat) : isR n r = true ↔ RowOK n r := by
  rw [isR, Bool.and_eq_true, rwb_iff, decide_eq_true_iff]
  exact And.comm
theorem dv8 (r k : Nat) : r / 2 ^ (3 * k) / 8 = r / 2 ^ (3 * (k + 1)) := by
  rw [Nat.div_div_eq_div_mul, show 3 * (k + 1) = 3 * k + 3 by omega, Nat.pow_add]
section MC
variable {M : zMe} {m : Nat} {sc : Nat → Int32} {lg : Nat → Int64} {ar : Nat → Nat → Int32} {en : Nat → Int64} {B : Nat → Nat}
theorem m_goN (hB : Bk (ar 0) B) (hW : WB B) {d p w t : Nat} (hd : d < B 6) (hp : p < 8) (hw : w < 2) (ht : t < 2 ^ 31) : f_X12_go m (nI d) (nI p) (nI w) (nI t) (mmk M m sc lg ar en) = some (nI (gog (B 1) (dg B d) w t p), mmk M m sc lg ar en) := by
  have := hW.nd
  have := hW.sh32
  rw [m_go d (by omega) _ _ _ (nI_w hw), mgoN hB (by omega) (fun j hj => by have := (hW.dw d hd).lt hW.n5 j hj; omega) (by omega) hp hw ht]
theorem m_ran (hB : Bk (ar 0) B) (hW : WB B) {d p tu n : Nat} (hd : d < B 6) (hp : p < 8) (hn : n < 32) (ht : tu < 2 ^ 31) : f_X12_ran m (nI d) (nI p) (nI tu) (nI n) (mmk M m sc lg ar en) = some (nI (rnf (B 1) (dg B d) tu p n), mmk M m sc lg ar en) := by
  refine loopZ (fun fuel j => f_X12_ran_b6 fuel m (nI d) (nI tu) (nI n) (nI (rnf (B 1) (dg B d) tu p j)) (nI j) (mmk M m sc lg ar en)) n _ (by omega) (fun f j hj => ?_) (fun f => ?_)
  · show f_X12_ran_b6 (f + 1) m (nI d) (nI tu) (nI n) (nI (rnf (B 1) (dg B d) tu p j)) (nI j) (mmk M m sc lg ar en) = _
    rw [f_X12_ran_b6, if_neg (nI_ge hj (by omega)), mm_ob, Option.bind_some, n_bit ht (by omega), m_goN hB hW hd (rnf8 hp j) (bw2 _) (by omega), Option.bind_some, zlet, nI_1]
    rfl
  · show f_X12_ran_b6 (f + 1) m (nI d) (nI tu) (nI n) (nI (rnf (B 1) (dg B d) tu p n)) (nI n) (mmk M m sc lg ar en) = _
    rw [f_X12_ran_b6, if_pos (nI_le (Nat.le_refl n) (by omega))]
theorem m_heard (hB : Bk (ar 0) B) (hW : WB B) {d p tu n bs : Nat} (hd : d < B 6) (hp : p < 8) (hn : n < 32) (ht : tu < 2 ^ 31) (hbs : bs < 2 ^ 31) : f_X12_heard m (nI d) (nI p) (nI tu) (nI n) (nI bs) (mmk M m sc lg ar en) = some (if hrd (B 1) (dg B d) (B 3) tu bs p n then 1 else 0, mmk M m sc lg ar en) := by
  have hba := hW.ba32
  have e3 : ar 0 3 = nI (B 3) := hB 3 (by omega)
  refine loopZ (fun fuel j => f_X12_heard_b9 fuel m (nI d) (nI tu) (nI n) (nI bs) (nI (rnf (B 1) (dg B d) tu p j)) (if hrd (B 1) (dg B d) (B 3) tu bs p j then 1 else 0) (nI j) (mmk M m sc lg ar en)) n _ (by omega) (fun f j hj => ?_) (fun f => ?_)
  · show f_X12_heard_b9 (f + 1) m (nI d) (nI tu) (nI n) (nI bs) (nI (rnf (B 1) (dg B d) tu p j)) (if hrd (B 1) (dg B d) (B 3) tu bs p j then 1 else 0) (nI j) (mmk M m sc lg ar en) = _
    rw [f_X12_heard_b9, if_neg (nI_ge hj (by omega)), mm_ob, Option.bind_some, n_bit ht (by omega), m_goN hB hW hd (rnf8 hp j) (bw2 _) (by omega), Option.bind_some]
    have er : gog (B 1) (dg B d) (if tu.testBit j then 1 else 0) j (rnf (B 1) (dg B d) tu p j) = rnf (B 1) (dg B d) tu p (j + 1) := rfl
    have h8 := rnf8 (sh := B 1) (D := dg B d) (tu := tu) hp (j + 1)
    simp (decide := true) only [f_X12_heard_b63, f_X12_heard_b64, mm_gN0, Option.bind_some, mm_r1, zt3, if_neg, e3, er, zlet, nI_1]
    rw [n_bit (show B 3 < 2 ^ 31 by omega) (show rnf (B 1) (dg B d) tu p (j + 1) < 32 by omega), n_bit hbs (show j < 32 by omega)]
    rw [show hrd (B 1) (dg B d) (B 3) tu bs p (j + 1) = (hrd (B 1) (dg B d) (B 3) tu bs p j && ((B 3).testBit (rnf (B 1) (dg B d) tu p (j + 1)) == bs.testBit j)) from rfl]
    cases hrd (B 1) (dg B d) (B 3) tu bs p j <;> cases (B 3).testBit (rnf (B 1) (dg B d) tu p (j + 1)) <;> cases bs.testBit j <;> simp (decide := true)
  · show f_X12_heard_b9 (f + 1) m (nI d) (nI tu) (nI n) (nI bs) (nI (rnf (B 1) (dg B d) tu p n)) (if hrd (B 1) (dg B d) (B 3) tu bs p n then 1 else 0) (nI n) (mmk M m sc lg ar en) = _
    rw [f_X12_heard_b9, if_pos (nI_le (Nat.le_refl n) (by omega))]
    cases hrd (B 1) (dg B d) (B 3) tu bs p n <;> simp
def bgs (B : Nat → Nat) (d tu n bs : Nat) : Nat := orF (fun p => if hrd (B 1) (dg B d) (B 3) tu bs p n then 2 ^ p else 0) (B 0)
theorem m_begins (hB : Bk (ar 0) B) (hW : WB B) {d tu n bs : Nat} (hd : d < B 6) (hn : n < 32) (ht : tu < 2 ^ 31) (hbs : bs < 2 ^ 31) : f_X12_begins m (nI d) (nI tu) (nI n) (nI bs) (mmk M m sc lg ar en) = some (nI (bgs B d tu n bs), mmk M m sc lg ar en) := by
  have h5 := hW.n5
  have e0 : ar 0 0 = nI (B 0) := hB 0 (by omega)
  refine loopZ (fun fuel j => f_X12_begins_b6 fuel m (nI d) (nI tu) (nI n) (nI bs) (nI (orF (fun p => if hrd (B 1) (dg B d) (B 3) tu bs p n then 2 ^ p else 0) j)) (nI j) (mmk M m sc lg ar en)) (B 0) _ (by omega) (fun f j hj => ?_) (fun f => ?_)
  · show f_X12_begins_b6 (f + 1) m (nI d) (nI tu) (nI n) (nI bs) (nI (orF (fun p => if hrd (B 1) (dg B d) (B 3) tu bs p n then 2 ^ p else 0) j)) (nI j) (mmk M m sc lg ar en) = _
    simp (decide := true) only [f_X12_begins_b6, f_X12_begins_b41, mm_gN0, Option.bind_some, mm_r1, zt0, if_neg, e0, mm_ob, zlet, nI_1]
    rw [if_neg (nI_ge hj (by omega)), m_heard hB hW hd (by omega) hn ht hbs, Option.bind_some, n_sh1 (by omega), orF]
    cases hrd (B 1) (dg B d) (B 3) tu bs j n
    · simp (decide := true)
    · simp (decide := true) [n_or]
  · show f_X12_begins_b6 (f + 1) m (nI d) (nI tu) (nI n) (nI bs) (nI (orF (fun p => if hrd (B 1) (dg B d) (B 3) tu bs p n then 2 ^ p else 0) (B 0))) (nI (B 0)) (mmk M m sc lg ar en) = _
    simp (decide := true) only [f_X12_begins_b6, mm_gN0, Option.bind_some, mm_r1, zt0, if_neg, e0]
    rw [if_pos (nI_le (Nat.le_refl _) (by omega))]
    rfl
end MC
