/-! THE CLASS'S INVARIANT -/
/-- a dog's cell is at a -/
def Dg (M : zMe) (x a : Nat) (D : Nat → Nat) : Prop := M.1 a = some (dogCell D) ∧ x + 44 ≤ a ∧ a < M.2.1
/-- a hill at h, its dogs' array at d -/
def Hl (M : zMe) (x h d : Nat) (B : Nat → Nat) (f : Nat → Option Nat) : Prop := M.1 h = some (.inr (2, ho (nB B) d)) ∧ WB B ∧ M.1 d = some (dgA f) ∧ (∀ k, k < B 6 → ∃ a, f k = some a ∧ Dg M x a (dg B k)) ∧ (∀ k, k < 3 → ∀ a, f k = some a → ∃ D : Nat → Nat, D 0 ≤ 4 ∧ Dg M x a D) ∧ (h = x + 1 ∨ x + 44 ≤ h) ∧ (d = x + 2 ∨ x + 44 ≤ d) ∧ h < M.2.1 ∧ d < M.2.1
def WK (M : zMe) (x : Nat) (A Z : Nat → Nat) (sr : Nat) : Prop := (∃ J, KR M (x + 5) J A Z sr) ∧ LRs M (x + 5) ∧ LnR M (x + 23) ∧ (∃ v, M.1 (x + 27) = some (.inr (10, [.ref (x + 28), .int v]))) ∧ (∃ g, M.1 (x + 28) = some (.inl (.int, 288, .inl g))) ∧ (∃ g, M.1 (x + 29) = some (lgA 5 g)) ∧ (∃ g, M.1 (x + 30) = some (lgA 5 g)) ∧ (∀ i, i < 3 → (x + 20 ≤ A i ∧ A i ≤ x + 22) ∨ x + 44 ≤ A i)
/-- what a call shows: book, text's length, fraction, refusals, text's bytes, images kept -/
abbrev PS : Type := (Nat → Nat) × Nat × (Int64 × Int64) × (Nat → Int32) × (Nat → Int32) × (Nat → Bool) × (Nat → Nat → Nat)
def CI (M : zMe) (x : Nat) (P : PS) (A Z : Nat → Nat) (sr : Nat) : Prop := ∃ h d f tx fi,
  M.1 x = some (.inr (11, xo x h (nI P.2.1) P.2.2.1.1 P.2.2.1.2 (P.2.2.2.1 0) (P.2.2.2.1 1) (P.2.2.2.1 2))) ∧ Hl M x h d P.1 f ∧ M.1 (x + 3) = some (hlA fi) ∧
  (∀ i, i < 2 → (fi i = none ∧ P.2.2.2.2.2.1 i = false) ∨ ∃ a e g, fi i = some a ∧ P.2.2.2.2.2.1 i = true ∧ Hl M x a e (P.2.2.2.2.2.2 i) g ∧ a ≠ h ∧ e ≠ d) ∧
  M.1 (x + 4) = some (.inl (.byte, 200, .inl tx)) ∧ (∀ k, k < 200 → tx k &&& 255 = P.2.2.2.2.1 k) ∧ P.2.1 ≤ 200 ∧ WK M x A Z sr ∧ x + 44 ≤ M.2.1 ∧ (∀ q, M.2.1 ≤ q → M.1 q = none)
/-- a work step: only the searches' own cells change -/
def WFr (M M' : zMe) (x : Nat) (A : Nat → Nat) : Prop := M.2.1 ≤ M'.2.1 ∧ (∀ q, q < M.2.1 → ¬ (x + 5 ≤ q ∧ q ≤ x + 19) → ¬ (x + 23 ≤ q ∧ q ≤ x + 30) → (∀ i, i < 3 → q ≠ A i) → M'.1 q = M.1 q) ∧ ((∀ q, M.2.1 ≤ q → M.1 q = none) → ∀ q, M'.2.1 ≤ q → M'.1 q = none)
theorem KR.arr {M : zMe} {c : Nat} {J A Z : Nat → Nat} {sr : Nat} (h : KR M c J A Z sr) {i : Nat} (hi : i < 3) : ∃ N g, M.1 (A i) = some (lgA N g) := by
  obtain ⟨I, fe, fl, fs, v, r0, r1, r2, r3, r4, -⟩ := h
  rcases (show i = 0 ∨ i = 1 ∨ i = 2 by omega) with rfl | rfl | rfl
  · exact ⟨_, _, r4⟩
  · exact ⟨_, _, r1⟩
  · exact ⟨_, _, r2⟩
section CIS
variable {M M' : zMe} {x : Nat} {A A' Z Z' : Nat → Nat} {sr sr' : Nat} {P : PS}
theorem WK.ne (h : WK M x A Z sr) {q : Nat} {e : zEn} (hq : M.1 q = some e) (he : ∀ N g, e ≠ lgA N g) : ∀ i, i < 3 → q ≠ A i := by
  intro i hi z
  obtain ⟨⟨J, hJ⟩, -⟩ := h
  obtain ⟨N, g, e2⟩ := hJ.arr hi
  rw [z, e2] at hq
  injection hq with hq
  exact he N g hq.symm
theorem ne_ho (B : Nat → Nat) (d : Nat) : ∀ N g, (.inr (2, ho (nB B) d) : zEn) ≠ lgA N g := fun N g h => by simp [lgA] at h
theorem ne_dg (f : Nat → Option Nat) : ∀ N g, dgA f ≠ lgA N g := fun N g h => by simp [lgA, dgA] at h
theorem ne_dc (D : Nat → Nat) : ∀ N g, dogCell D ≠ lgA N g := fun N g h => by simp [lgA, dogCell] at h
/-- a hill stays where its cells stay -/
theorem Hl.keep {h d : Nat} {B : Nat → Nat} {f : Nat → Option Nat} (hl : Hl M x h d B f) (hm : M.2.1 ≤ M'.2.1) (k1 : M'.1 h = M.1 h) (k2 : M'.1 d = M.1 d) (k3 : ∀ a D, Dg M x a D → M'.1 a = M.1 a) : Hl M' x h d B f := by
  obtain ⟨h1, h2, h3, h4, h5, h6, h7, h8, h9⟩ := hl
  have kd : ∀ a D, Dg M x a D → Dg M' x a D := fun a D hd => ⟨by rw [k3 a D hd]; exact hd.1, hd.2.1, by have := hd.2.2; omega⟩
  refine ⟨by rw [k1]; exact h1, h2, by rw [k2]; exact h3, fun k hk => ?_, fun k hk a ha => ?_, h6, h7, by omega, by omega⟩
  · obtain ⟨a, a1, a2⟩ := h4 k hk
    exact ⟨a, a1, kd a _ a2⟩
  · obtain ⟨D, D1, D2⟩ := h5 k hk a ha
    exact ⟨D, D1, kd a _ D2⟩
theorem Hl.work {h d : Nat} {B : Nat → Nat} {f : Nat → Option Nat} (hl : Hl M x h d B f) (hw : WK M x A Z sr) (hf : WFr M M' x A) : Hl M' x h d B f := by
  have h1 := hl.1
  have h3 := hl.2.2.1
  have h6 := hl.2.2.2.2.2
  refine hl.keep hf.1 (hf.2.1 h (by omega) (by omega) (by omega) (hw.ne h1 (ne_ho _ _))) (hf.2.1 d (by omega) (by omega) (by omega) (hw.ne h3 (ne_dg _))) (fun a D hd => ?_)
  have := hd.2
  exact hf.2.1 a (by omega) (by omega) (by omega) (hw.ne hd.1 (ne_dc _))
theorem WK.ne2 (h : WK M x A Z sr) {q : Nat} (hq : q < x + 20 ∨ (x + 22 < q ∧ q < x + 44)) : ∀ i, i < 3 → q ≠ A i := by
  intro i hi z
  have := h.2.2.2.2.2.2.2 i hi
  omega
theorem CI.work (h : CI M x P A Z sr) (hf : WFr M M' x A) (hw : WK M' x A' Z' sr') : CI M' x P A' Z' sr' := by
  obtain ⟨hh, d, f, tx, fi, c1, c2, c3, c4, c5, c6, c7, c8, c9, c10⟩ := h
  refine ⟨hh, d, f, tx, fi, ?_, c2.work c8 hf, ?_, fun i hi => ?_, ?_, c6, c7, hw, by have := hf.1; omega, hf.2.2 c10⟩
  · rw [hf.2.1 x (by omega) (by omega) (by omega) (c8.ne2 (by omega))]; exact c1
  · rw [hf.2.1 _ (by omega) (by omega) (by omega) (c8.ne2 (by omega))]; exact c3
  · rcases c4 i hi with z | ⟨a, e, g, y1, y2, y3, y4⟩
    · exact Or.inl z
    · exact Or.inr ⟨a, e, g, y1, y2, y3.work c8 hf, y4⟩
  · rw [hf.2.1 _ (by omega) (by omega) (by omega) (c8.ne2 (by omega))]; exact c5
theorem WFr.refl (M : zMe) (x : Nat) (A : Nat → Nat) : WFr M M x A := ⟨Nat.le_refl _, fun _ _ _ _ _ => rfl, fun h => h⟩
/-- the chase has worked -/
theorem WK.chase {J' : Nat → Nat} (h : WK M x A Z sr) (hf : KFr M M' (x + 5) A A' Z Z') (hk : KR M' (x + 5) J' A' Z' sr') (hl : LRs M' (x + 5)) (hx : x + 44 ≤ M.2.1) : WK M' x A' Z' sr' ∧ WFr M M' x A := by
  obtain ⟨w1, w2, w3, w4, w5, w6, w7, w8⟩ := h
  have w8' : ∀ q, x + 23 ≤ q → q ≤ x + 30 → M'.1 q = M.1 q := fun q q1 q2 => hf.2.1 q (by omega) (by omega) (by omega) (fun i hi z => by have := w8 i hi; omega)
  refine ⟨⟨⟨J', hk⟩, hl, w3.kept (fun q a b => w8' q (by omega) (by omega)), ?_, ?_, ?_, ?_, fun i hi => ?_⟩, hf.1, fun q q1 q2 _ q4 => hf.2.1 q q1 (by omega) (by omega) q4, hf.2.2.1⟩
  · rw [w8' _ (by omega) (by omega)]; exact w4
  · rw [w8' _ (by omega) (by omega)]; exact w5
  · rw [w8' _ (by omega) (by omega)]; exact w6
  · rw [w8' _ (by omega) (by omega)]; exact w7
  · rcases hf.2.2.2.2.2 i hi with ⟨j, hj, e⟩ | e
    · rw [e]; exact w8 j hj
    · exact Or.inr (by omega)
theorem WFr.trans {M2 : zMe} {A1 : Nat → Nat} (h : WFr M M' x A) (k : WFr M' M2 x A1) (ha : ∀ i, i < 3 → (∃ j, j < 3 ∧ A1 i = A j) ∨ M.2.1 ≤ A1 i) : WFr M M2 x A := by
  obtain ⟨h1, h2, h3⟩ := h
  obtain ⟨k1, k2, k3⟩ := k
  refine ⟨by omega, fun q q1 q2 q3 q4 => ?_, fun z => k3 (h3 z)⟩
  rw [k2 q (by omega) q2 q3 (fun i hi z => ?_)]
  · exact h2 q q1 q2 q3 q4
  · rcases ha i hi with ⟨j, hj, e⟩ | e
    · exact q4 j hj (by rw [z, e])
    · omega
/-- the room that is used -/
def Rm (M M' : zMe) (Z Z' : Nat → Nat) : Prop := M'.2.1 + (Z 0 + Z 1 + Z 2) ≤ M.2.1 + (Z' 0 + Z' 1 + Z' 2) ∧ M'.2.2 + 2 * (Z 0 + Z 1 + Z 2) ≤ M.2.2 + 2 * (Z' 0 + Z' 1 + Z' 2)
/-- lanes are followed: the chase's cells alone change -/
theorem FL.wfr {c lc n sh sp od ae al : Nat} {tg : Nat → Nat} {D : Nat → Nat → Nat} {X : Nat → Nat} (h : FL M M' (x + 5) lc n sh sp od tg D ae al X) (A : Nat → Nat) (hx : x + 44 ≤ M.2.1) : WFr M M' x A := by
  obtain ⟨-, -, -, h2, hq⟩ := h
  refine ⟨by rw [h2]; exact Nat.le_refl _, fun q q1 q2 _ _ => hq q (by omega) (by omega), fun hf q hq' => ?_⟩
  rw [h2] at hq'
  rw [hq q (by omega) (by omega)]
  exact hf q hq'
theorem FL.wk {lc n sh sp od : Nat} {tg : Nat → Nat} {D : Nat → Nat → Nat} {X : Nat → Nat} (h : FL M M' (x + 5) lc n sh sp od tg D (A 1) (A 2) X) (hw : WK M x A Z sr) (hx : x + 44 ≤ M.2.1) : WK M' x A Z sr := by
  have hl := h.lrs
  obtain ⟨⟨J, w1⟩, w2, w3, w4, w5, w6, w7, w8⟩ := hw
  have hk := h.kr w1
  obtain ⟨-, -, -, h2, hq⟩ := h
  refine ⟨⟨_, hk⟩, hl, w3.kept (fun q a b => hq q (by omega) (by omega)), ?_, ?_, ?_, ?_, w8⟩
  · rw [hq _ (by omega) (by omega)]; exact w4
  · rw [hq _ (by omega) (by omega)]; exact w5
  · rw [hq _ (by omega) (by omega)]; exact w6
  · rw [hq _ (by omega) (by omega)]; exact w7
end CIS
/-- each dog of the set is at the goal -/
def GDs (B : Nat → Nat) (sv ds u t : Nat) : Prop := ∀ d, d < B 6 → ds.testBit d = true → sru (stg sv (dg B d) (B 0)) (2 ^ B 0 - 1) u t = 2 ^ B 2
