/-! the two objects, new -/
set_option maxHeartbeats 4000000 in
theorem t_x2init (x : Nat) (M : zMe) (fs : List Value) (h : M.1 x = some (.inr (2, [.int 0, .int 0, .int 0, .int 0, .int 0, .int 0, .int 0, .null]))) (hlt : x < M.2.1) : ∃ M2, f_X2_init x M = some M2 ∧ M2.1 x = some (.inr (2, [.int 5, .int 0, .int 0, .int 0, .int 1, .int 1, .int 0, .ref M.2.1])) ∧ M2.1 M.2.1 = some (.inl (.object "OneWhistle$Plain", 3, .inr (.inr (.inr (.inr (fun _ => none)))))) ∧ M2.2 = (M.2.1 + 1, M.2.2 + 3) ∧ ∀ q, q ≠ x → q ≠ M.2.1 → M2.1 q = M.1 q := by
  have h1 : ¬ x = M.2.1 := by omega
  have h2 : ¬ M.2.1 = x := by omega
  simp (decide := true) [f_X2_init, zpI, zp, zpR, znR, h, zSet, zAdd, va_rf, h1, h2, zt3]
  intro q hq hq2
  simp [hq, hq2]
