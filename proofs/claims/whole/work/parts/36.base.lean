/-! loops with fuel, numbers -/
theorem loopE {R : Type} (F : Nat → Nat → R) (N : Nat) (r : R) (hs : ∀ f j, j < N → F (f + 1) j = F f (j + 1)) (he : ∀ f, F (f + 1) N = r) : ∀ k j fuel, j + k = N → k < fuel → F fuel j = r := by
  intro k
  induction k with
  | zero =>
    intro j fuel h1 h2
    obtain ⟨f, rfl⟩ : ∃ f, fuel = f + 1 := ⟨fuel - 1, by omega⟩
    have e : j = N := by omega
    subst e
    exact he f
  | succ k ih =>
    intro j fuel h1 h2
    obtain ⟨f, rfl⟩ : ∃ f, fuel = f + 1 := ⟨fuel - 1, by omega⟩
    rw [hs f j (by omega)]
    exact ih (j + 1) f (by omega) (by omega)
theorem loopZ {R : Type} (F : Nat → Nat → R) (N : Nat) (r : R) (hN : N < 1000000) (hs : ∀ f j, j < N → F (f + 1) j = F f (j + 1)) (he : ∀ f, F (f + 1) N = r) : F zfu 0 = r := loopE F N r hs he N 0 zfu (by omega) (by unfold zfu; omega)
/-- a loop whose state s goes on by a relation; it ends at N, or before it -/
theorem loopI {S R : Type} (F : Nat → Nat → S → Option R) (N : Nat) (I : Nat → S → Prop) (Q : R → Prop) (hs : ∀ f j s, j < N → I j s → (∃ s', F (f + 1) j s = F f (j + 1) s' ∧ I (j + 1) s') ∨ ∃ r, F (f + 1) j s = some r ∧ Q r) (he : ∀ f s, I N s → ∃ r, F (f + 1) N s = some r ∧ Q r) : ∀ k j fuel s, j + k = N → k < fuel → I j s → ∃ r, F fuel j s = some r ∧ Q r := by
  intro k
  induction k with
  | zero =>
    intro j fuel s h1 h2 hI
    obtain ⟨f, rfl⟩ : ∃ f, fuel = f + 1 := ⟨fuel - 1, by omega⟩
    have e : j = N := by omega
    subst e
    exact he f s hI
  | succ k ih =>
    intro j fuel s h1 h2 hI
    obtain ⟨f, rfl⟩ : ∃ f, fuel = f + 1 := ⟨fuel - 1, by omega⟩
    rcases hs f j s (by omega) hI with ⟨s', e, hI'⟩ | h
    · rw [e]
      exact ih (j + 1) f s' (by omega) (by omega) hI'
    · exact h
theorem loopIZ {S R : Type} (F : Nat → Nat → S → Option R) (N : Nat) (I : Nat → S → Prop) (Q : R → Prop) (hN : N < 1000000) (hs : ∀ f j s, j < N → I j s → (∃ s', F (f + 1) j s = F f (j + 1) s' ∧ I (j + 1) s') ∨ ∃ r, F (f + 1) j s = some r ∧ Q r) (he : ∀ f s, I N s → ∃ r, F (f + 1) N s = some r ∧ Q r) (s : S) (h0 : I 0 s) : ∃ r, F zfu 0 s = some r ∧ Q r := loopI F N I Q hs he N 0 zfu s (by omega) (by unfold zfu; omega) h0
theorem bs_l : ∀ n, n < 32 → ((nI n &&& 31).toBitVec.smod 32).toNat = n := by decide +kernel
theorem n_sh1 {k : Nat} (h : k < 32) : (1 : Int32) <<< (nI k &&& 31) = nI (2 ^ k) := by
  have e := pk_shlN (n := 1) (nI k &&& 31) k (bs_l k h) (by rw [Nat.one_mul]; exact Nat.pow_lt_pow_right (by decide) h)
  rw [Nat.one_mul] at e
  exact e
theorem n_shl {a k : Nat} (h : k < 32) (ha : a * 2 ^ k < 2 ^ 32) : nI a <<< (nI k &&& 31) = nI (a * 2 ^ k) := pk_shlN _ k (bs_l k h) ha
theorem n_shr {a k : Nat} (ha : a < 2 ^ 31) (hk : k < 32) : nI a >>> (nI k &&& 31) = nI (a / 2 ^ k) := pk_shrN ha _ k (bs_l k hk)
theorem n_a7 {a : Nat} (ha : a < 2 ^ 32) : nI a &&& 7 = nI (a % 8) := pk_andN ha 3 rfl
theorem n_a1 {a : Nat} (ha : a < 2 ^ 32) : nI a &&& 1 = nI (a % 2) := pk_andN ha 1 rfl
theorem n_a31 {a : Nat} (ha : a < 2 ^ 32) : nI a &&& 31 = nI (a % 32) := pk_andN ha 5 rfl
theorem n_and (a b : Nat) : nI a &&& nI b = nI (a &&& b) := by
  apply Int32.toBitVec_inj.mp
  rw [Int32.toBitVec_and]
  apply BitVec.eq_of_toNat_eq
  show ((a % 2 ^ 32) &&& (b % 2 ^ 32)) = (a &&& b) % 2 ^ 32
  rw [Nat.and_mod_two_pow]
theorem n_or (a b : Nat) : nI a ||| nI b = nI (a ||| b) := by
  apply Int32.toBitVec_inj.mp
  rw [Int32.toBitVec_or]
  apply BitVec.eq_of_toNat_eq
  show ((a % 2 ^ 32) ||| (b % 2 ^ 32)) = (a ||| b) % 2 ^ 32
  rw [Nat.or_mod_two_pow]
theorem n_xor (a b : Nat) : nI a ^^^ nI b = nI (a ^^^ b) := by
  apply Int32.toBitVec_inj.mp
  rw [Int32.toBitVec_xor]
  apply BitVec.eq_of_toNat_eq
  show ((a % 2 ^ 32) ^^^ (b % 2 ^ 32)) = (a ^^^ b) % 2 ^ 32
  rw [Nat.xor_mod_two_pow]
theorem tb_mod (a k : Nat) : a / 2 ^ k % 2 = if a.testBit k then 1 else 0 := by
  rw [Nat.testBit_eq_decide_div_mod_eq]
  by_cases h : a / 2 ^ k % 2 = 1
  · simp [h]
  · simp [h]; omega
theorem dv_lt {a b c : Nat} (h : a < c) : a / b < c := Nat.lt_of_le_of_lt (Nat.div_le_self a b) h
theorem n_bit {a k : Nat} (ha : a < 2 ^ 31) (hk : k < 32) : (nI a >>> (nI k &&& 31)) &&& 1 = nI (if a.testBit k then 1 else 0) := by
  rw [n_shr ha hk, n_a1 (Nat.lt_trans (dv_lt ha) (by decide)), tb_mod]
theorem n_bit1 {a k : Nat} (ha : a < 2 ^ 31) (hk : k < 32) : ((nI a >>> (nI k &&& 31)) &&& 1 = 1) ↔ a.testBit k = true := by
  rw [n_bit ha hk]
  cases a.testBit k <;> decide
theorem n_bit0 {a k : Nat} (ha : a < 2 ^ 31) (hk : k < 32) : ((nI a >>> (nI k &&& 31)) &&& 1 = 0) ↔ a.testBit k = false := by
  rw [n_bit ha hk]
  cases a.testBit k <;> decide
theorem n_rem2 {t : Nat} (ht : t < 2 ^ 31) : nI t - nI t / 2 * 2 = nI (t % 2) := pk_rem (d := 2) ht (by decide) (by decide)
/-! where a dog goes, in numbers -/
def stp (sh r p : Nat) : Nat := if sh.testBit (r / 2 ^ (3 * p) % 8) then p else r / 2 ^ (3 * p) % 8
/-- D: a dog's kind, rows, later rows, and when it learns -/
def gog (sh : Nat) (D : Nat → Nat) (w t p : Nat) : Nat :=
  if D 0 = 1 ∧ t % 2 = 1 then p else if D 0 = 4 ∧ t % 2 = 0 then p
  else if (D 0 = 2 ∨ D 0 = 3) ∧ D 5 ≤ t then (if D 0 = 3 then stp sh (D (3 + w)) (stp sh (D (3 + w)) p) else stp sh (D (3 + w)) p)
  else stp sh (D (1 + w)) p
def RowOK (n r : Nat) : Prop := r < 2 ^ (3 * n) ∧ ∀ k, k < n → r / 2 ^ (3 * k) % 8 < n
def DW (n : Nat) (D : Nat → Nat) : Prop := D 0 ≤ 4 ∧ RowOK n (D 1) ∧ RowOK n (D 2) ∧ (D 0 = 2 ∨ D 0 = 3 → RowOK n (D 3) ∧ RowOK n (D 4) ∧ 1 ≤ D 5 ∧ D 5 ≤ 3) ∧ (¬ (D 0 = 2 ∨ D 0 = 3) → D 3 = 0 ∧ D 4 = 0 ∧ D 5 = 0)
/-- dog d of the book -/
def dg (B : Nat → Nat) (d : Nat) : Nat → Nat := fun j => B (7 + 6 * d + j)
def WB (B : Nat → Nat) : Prop := (2 ≤ B 0) ∧ (B 0 ≤ 5) ∧ (B 1 < 2 ^ B 0) ∧ (B 2 < B 0) ∧ (B 3 < 2 ^ B 0) ∧ (1 ≤ B 4 ∧ B 4 ≤ 9) ∧ (1 ≤ B 5 ∧ B 5 ≤ 9) ∧ (B 6 ≤ 3) ∧ (∀ d, d < B 6 → DW (B 0) (dg B d))
theorem WB.n2 {B : Nat → Nat} (h : WB B) : 2 ≤ B 0 := h.1
theorem WB.n5 {B : Nat → Nat} (h : WB B) : B 0 ≤ 5 := h.2.1
theorem WB.sh {B : Nat → Nat} (h : WB B) : B 1 < 2 ^ B 0 := h.2.2.1
theorem WB.go {B : Nat → Nat} (h : WB B) : B 2 < B 0 := h.2.2.2.1
theorem WB.ba {B : Nat → Nat} (h : WB B) : B 3 < 2 ^ B 0 := h.2.2.2.2.1
theorem WB.b4 {B : Nat → Nat} (h : WB B) : 1 ≤ B 4 ∧ B 4 ≤ 9 := h.2.2.2.2.2.1
theorem WB.b5 {B : Nat → Nat} (h : WB B) : 1 ≤ B 5 ∧ B 5 ≤ 9 := h.2.2.2.2.2.2.1
theorem WB.nd {B : Nat → Nat} (h : WB B) : B 6 ≤ 3 := h.2.2.2.2.2.2.2.1
theorem WB.dw {B : Nat → Nat} (h : WB B) : ∀ d, d < B 6 → DW (B 0) (dg B d) := h.2.2.2.2.2.2.2.2
def Bk (f : Nat → Int32) (B : Nat → Nat) : Prop := ∀ k, k < 25 → f k = nI (B k)
theorem p2_32 {n : Nat} (h : n ≤ 5) : 2 ^ n ≤ 32 := Nat.pow_le_pow_right (n := 2) (by decide) h
theorem WB.sh32 {B : Nat → Nat} (h : WB B) : B 1 < 32 := Nat.lt_of_lt_of_le h.sh (p2_32 h.n5)
theorem WB.ba32 {B : Nat → Nat} (h : WB B) : B 3 < 32 := Nat.lt_of_lt_of_le h.ba (p2_32 h.n5)
theorem RowOK.lt {n r : Nat} (h : RowOK n r) (hn : n ≤ 5) : r < 32768 := Nat.lt_of_lt_of_le h.1 (Nat.le_trans (Nat.pow_le_pow_right (n := 2) (by decide) (show 3 * n ≤ 15 by omega)) (by decide))
theorem DW.lt {n : Nat} {D : Nat → Nat} (h : DW n D) (hn : n ≤ 5) : ∀ j, j < 6 → D j < 32768 := by
  obtain ⟨h0, h1, h2, h3, h4⟩ := h
  intro j hj
  by_cases y : D 0 = 2 ∨ D 0 = 3
  · obtain ⟨a, b, c, d⟩ := h3 y
    rcases (show j = 0 ∨ j = 1 ∨ j = 2 ∨ j = 3 ∨ j = 4 ∨ j = 5 by omega) with rfl | rfl | rfl | rfl | rfl | rfl
    · omega
    · exact h1.lt hn
    · exact h2.lt hn
    · exact a.lt hn
    · exact b.lt hn
    · omega
  · obtain ⟨a, b, c⟩ := h4 y
    rcases (show j = 0 ∨ j = 1 ∨ j = 2 ∨ j = 3 ∨ j = 4 ∨ j = 5 by omega) with rfl | rfl | rfl | rfl | rfl | rfl
    · omega
    · exact h1.lt hn
    · exact h2.lt hn
    · omega
    · omega
    · omega
theorem stp8 {sh r p : Nat} (hp : p < 8) : stp sh r p < 8 := by
  unfold stp
  split
  · exact hp
  · exact Nat.mod_lt _ (by decide)
theorem stp_lt {n sh r p : Nat} (h : RowOK n r) (hp : p < n) : stp sh r p < n := by
  unfold stp
  split
  · exact hp
  · exact h.2 p hp
theorem gog8 {sh : Nat} {D : Nat → Nat} {w t p : Nat} (hp : p < 8) : gog sh D w t p < 8 := by
  unfold gog
  split
  · exact hp
  · split
    · exact hp
    · split
      · split
        · exact stp8 (stp8 hp)
        · exact stp8 hp
      · exact stp8 hp
theorem gog_lt {n sh : Nat} {D : Nat → Nat} {w t p : Nat} (h : DW n D) (hw : w < 2) (hp : p < n) : gog sh D w t p < n := by
  obtain ⟨h0, h1, h2, h3, h4⟩ := h
  have r1 : RowOK n (D (1 + w)) := by
    rcases (show w = 0 ∨ w = 1 by omega) with rfl | rfl
    · exact h1
    · exact h2
  unfold gog
  split
  · exact hp
  · split
    · exact hp
    · split
      next hc =>
        have hy := h3 hc.1
        have r3 : RowOK n (D (3 + w)) := by
          rcases (show w = 0 ∨ w = 1 by omega) with rfl | rfl
          · exact hy.1
          · exact hy.2.1
        split
        · exact stp_lt r3 (stp_lt r3 hp)
        · exact stp_lt r3 hp
      · exact stp_lt r1 hp
theorem mstepN {bk : Nat → Int32} {sh r p : Nat} (h1 : bk 1 = nI sh) (hs : sh < 2 ^ 31) (hr : r < 2 ^ 31) (hp : p < 8) : mstep bk (nI r) (nI p) = nI (stp sh r p) := by
  unfold mstep stp
  have e3 : (3 : Int32) * nI p = nI (3 * p) := pk_mul 3 p
  have hm : r / 2 ^ (3 * p) % 8 < 8 := Nat.mod_lt _ (by decide)
  rw [e3, n_shr hr (by omega), n_a7 (Nat.lt_trans (dv_lt hr) (by decide)), h1]
  by_cases h : sh.testBit (r / 2 ^ (3 * p) % 8) = true
  · rw [if_pos ((n_bit1 hs (by omega)).mpr h), if_pos h]
  · rw [if_neg (fun z => h ((n_bit1 hs (by omega)).mp z)), if_neg h]
theorem nI_w {w : Nat} (hw : w < 2) : nI w = 0 ∨ nI w = 1 := by
  rcases (show w = 0 ∨ w = 1 by omega) with rfl | rfl
  · exact Or.inl rfl
  · exact Or.inr rfl
theorem n_eq1 {a : Nat} (h : a < 2 ^ 31) : (nI a = 1) = (a = 1) := propext (nI_eq (b := 1) h (by decide))
theorem n_eq0 {a : Nat} (h : a < 2 ^ 31) : (nI a = 0) = (a = 0) := propext (nI_eq (b := 0) h (by decide))
theorem n_eq2 {a : Nat} (h : a < 2 ^ 31) : (nI a = 2) = (a = 2) := propext (nI_eq (b := 2) h (by decide))
theorem n_eq3 {a : Nat} (h : a < 2 ^ 31) : (nI a = 3) = (a = 3) := propext (nI_eq (b := 3) h (by decide))
theorem n_eq4 {a : Nat} (h : a < 2 ^ 31) : (nI a = 4) = (a = 4) := propext (nI_eq (b := 4) h (by decide))
theorem mgoN {bk : Nat → Int32} {B : Nat → Nat} {d p w t : Nat} (hB : Bk bk B) (hsh : B 1 < 2 ^ 31) (hD : ∀ j, j < 6 → dg B d j < 2 ^ 31) (hd : d < 3) (hp : p < 8) (hw : w < 2) (ht : t < 2 ^ 31) : mgo bk d (nI p) (nI w) (nI t) = nI (gog (B 1) (dg B d) w t p) := by
  have b1 : bk 1 = nI (B 1) := hB 1 (by omega)
  have e0 : bk (7 + 6 * d) = nI (dg B d 0) := hB _ (by omega)
  have e5 : bk (7 + 6 * d + 5) = nI (dg B d 5) := hB _ (by omega)
  have e3 : bk (7 + 6 * d + 3 + w) = nI (dg B d (3 + w)) := by rw [hB _ (by omega)]; unfold dg; rw [Nat.add_assoc]
  have e1 : bk (7 + 6 * d + 1 + w) = nI (dg B d (1 + w)) := by rw [hB _ (by omega)]; unfold dg; rw [Nat.add_assoc]
  have h0 := hD 0 (by omega)
  have h5 := hD 5 (by omega)
  have h3 := hD (3 + w) (by omega)
  have h1 := hD (1 + w) (by omega)
  have m2 : t % 2 < 2 ^ 31 := Nat.lt_trans (Nat.mod_lt _ (by decide)) (by decide)
  have s3 : mstep bk (nI (dg B d (3 + w))) (nI p) = nI (stp (B 1) (dg B d (3 + w)) p) := mstepN b1 hsh h3 hp
  have s33 : mstep bk (nI (dg B d (3 + w))) (nI (stp (B 1) (dg B d (3 + w)) p)) = nI (stp (B 1) (dg B d (3 + w)) (stp (B 1) (dg B d (3 + w)) p)) := mstepN b1 hsh h3 (stp8 hp)
  have s1 : mstep bk (nI (dg B d (1 + w))) (nI p) = nI (stp (B 1) (dg B d (1 + w)) p) := mstepN b1 hsh h1 hp
  unfold mgo gog
  rw [nI_clamp (show w < 2 ^ 31 by omega), e0, e5, e3, e1, n_rem2 ht]
  simp only [n_eq1 h0, n_eq4 h0, n_eq2 h0, n_eq3 h0, n_eq1 m2, n_eq0 m2, nI_ltI ht h5, s3, s33, s1, Nat.not_lt]
  split
  · rfl
  · split
    · rfl
    · split
      · split <;> rfl
      · rfl
