/-- the reference's thirteen cells hold these -/
def MF (M : zMe) (m : Nat) (sc : Nat → Int32) (lg : Nat → Int64) (ar : Nat → Nat → Int32) (en : Nat → Int64) : Prop := M.1 m = some (.inr (12, mdF m sc lg)) ∧ M.1 (m + 1) = some (.inl (.int, 25, .inl (ar 0))) ∧ M.1 (m + 2) = some (.inl (.int, 25, .inl (ar 1))) ∧ M.1 (m + 3) = some (.inl (.int, 50, .inl (ar 2))) ∧ M.1 (m + 4) = some (.inl (.boolean, 2, .inl (ar 3))) ∧ M.1 (m + 5) = some (.inl (.int, 200, .inl (ar 4))) ∧ M.1 (m + 6) = some (.inl (.int, 3, .inl (ar 5))) ∧ M.1 (m + 7) = some (.inl (.int, 65536, .inl (ar 6))) ∧ M.1 (m + 8) = some (.inl (.int, 65536, .inl (ar 7))) ∧ M.1 (m + 9) = some (.inl (.int, 2, .inl (ar 8))) ∧ M.1 (m + 10) = some (.inl (.boolean, 125, .inl (ar 9))) ∧ M.1 (m + 11) = some (.inl (.int, 288, .inl (ar 10))) ∧ M.1 (m + 12) = some (.inl (.long, 10, .inr (.inl en)))
theorem mm_self {M : zMe} {m : Nat} {sc : Nat → Int32} {lg : Nat → Int64} {ar : Nat → Nat → Int32} {en : Nat → Int64} (h : MF M m sc lg ar en) : mmk M m sc lg ar en = M := by
  obtain ⟨h0, h1, h2, h3, h4, h5, h6, h7, h8, h9, h10, h11, h12⟩ := h
  refine zMe_ext (fun q => ?_) rfl
  by_cases hm : q < m ∨ m + 12 < q
  · exact mm_out hm
  · obtain ⟨k, hk, rfl⟩ : ∃ k, k ≤ 12 ∧ q = m + k := ⟨q - m, by omega, by omega⟩
    rcases (show k = 0 ∨ k = 1 ∨ k = 2 ∨ k = 3 ∨ k = 4 ∨ k = 5 ∨ k = 6 ∨ k = 7 ∨ k = 8 ∨ k = 9 ∨ k = 10 ∨ k = 11 ∨ k = 12 by omega) with rfl | rfl | rfl | rfl | rfl | rfl | rfl | rfl | rfl | rfl | rfl | rfl | rfl
    · rw [Nat.add_zero, h0]; exact mm_at

    · rw [h1]; exact mm_at1
    · rw [h2]; exact mm_at2
    · rw [h3]; exact mm_at3
    · rw [h4]; exact mm_at4
    · rw [h5]; exact mm_at5
    · rw [h6]; exact mm_at6
    · rw [h7]; exact mm_at7
    · rw [h8]; exact mm_at8
    · rw [h9]; exact mm_at9
    · rw [h10]; exact mm_at10
    · rw [h11]; exact mm_at11
    · rw [h12]; exact mm_at12
def bk0 : Nat → Int32 := upd (upd (upd (fun _ => 0) 0 5) 4 1) 5 1
def ar0 : Nat → Nat → Int32 := fun j => if j = 0 then bk0 else fun _ => 0
def lg0 : Nat → Int64 := fun j => if j = 1 then 1 else 0
set_option maxHeartbeats 16000000 in
set_option maxRecDepth 100000 in
theorem t_x12 (m u : Nat) (M : zMe) (hM2 : M.2 = (m, u)) : ∃ M2, f_X12_init m (zAdd M (.inr (12, [.null, .null, .null, .null, .null, .int 0, .null, .long 0, .long 0, .int 0, .int 0, .int 0, .int 0, .null, .null, .null, .int 0, .int 0, .null, .null, .null])) 21) = some M2 ∧ MF M2 m (fun _ => 0) lg0 ar0 (fun _ => 0) ∧ M2.2 = (m + 13, u + 131823) ∧ ∀ q, q < m → M2.1 q = M.1 q := by
  have key : ∃ M2 : zMe, f_X12_init m (zAdd M (.inr (12, [.null, .null, .null, .null, .null, .int 0, .null, .long 0, .long 0, .int 0, .int 0, .int 0, .int 0, .null, .null, .null, .int 0, .int 0, .null, .null, .null])) 21) = some M2 ∧ M2.2 = (m + 13, u + 131823) ∧ (M2.1 m = some (.inr (12, mdF m (fun _ => 0) lg0)) ∧ M2.1 (m + 1) = some (.inl (.int, 25, .inl bk0)) ∧ M2.1 (m + 2) = some (.inl (.int, 25, .inl (fun _ => 0))) ∧ M2.1 (m + 3) = some (.inl (.int, 50, .inl (fun _ => 0))) ∧ M2.1 (m + 4) = some (.inl (.boolean, 2, .inl (fun _ => 0))) ∧ M2.1 (m + 5) = some (.inl (.int, 200, .inl (fun _ => 0))) ∧ M2.1 (m + 6) = some (.inl (.int, 3, .inl (fun _ => 0))) ∧ M2.1 (m + 7) = some (.inl (.int, 65536, .inl (fun _ => 0))) ∧ M2.1 (m + 8) = some (.inl (.int, 65536, .inl (fun _ => 0))) ∧ M2.1 (m + 9) = some (.inl (.int, 2, .inl (fun _ => 0))) ∧ M2.1 (m + 10) = some (.inl (.boolean, 125, .inl (fun _ => 0))) ∧ M2.1 (m + 11) = some (.inl (.int, 288, .inl (fun _ => 0))) ∧ M2.1 (m + 12) = some (.inl (.long, 10, .inr (.inl (fun _ => 0))))) ∧ ∀ q, q < m → M2.1 q = M.1 q := by
    simp (decide := true) [f_X12_init, znI, znL, zpR, zpL, zp, zgN, zg, zwI, zSet, zAdd, va_rf, hM2, zt0, zt2, zt3, zt4, zt5, zt10, zt25, zt50, zt125, zt200, zt288, zt65536, Nat.add_assoc, bk0, mdF, lg0]
    intro q hq
    have e : ∀ k, ¬ q = m + k := fun k => by omega
    simp [e, show ¬ q = m by omega]
  obtain ⟨M2, k1, k2, ⟨k3, k4, k5⟩, k6⟩ := key
  exact ⟨M2, k1, ⟨k3, k4, k5⟩, k2, k6⟩
