/-! the two objects, new -/
theorem zt320 : (320 : Int32).toNatClampNeg = 320 := by decide
theorem zt672 : (672 : Int32).toNatClampNeg = 672 := by decide
theorem zt64 : (64 : Int32).toNatClampNeg = 64 := by decide
theorem zt288 : (288 : Int32).toNatClampNeg = 288 := by decide
theorem zt65536 : (65536 : Int32).toNatClampNeg = 65536 := by decide
theorem zt125 : (125 : Int32).toNatClampNeg = 125 := by decide
set_option maxHeartbeats 4000000 in
theorem t_x2init (x : Nat) (M : zMe) (h : M.1 x = some (.inr (2, [.int 0, .int 0, .int 0, .int 0, .int 0, .int 0, .int 0, .null]))) (hlt : x < M.2.1) : ∃ M2, f_X2_init x M = some M2 ∧ M2.1 x = some (.inr (2, [.int 5, .int 0, .int 0, .int 0, .int 1, .int 1, .int 0, .ref M.2.1])) ∧ M2.1 M.2.1 = some (.inl (.object "OneWhistle$Plain", 3, .inr (.inr (.inr (.inr (fun _ => none)))))) ∧ M2.2 = (M.2.1 + 1, M.2.2 + 3) ∧ ∀ q, q ≠ x → q ≠ M.2.1 → M2.1 q = M.1 q := by
  have h1 : ¬ x = M.2.1 := by omega
  have h2 : ¬ M.2.1 = x := by omega
  simp (decide := true) [f_X2_init, zpI, zp, zpR, znR, h, zSet, zAdd, va_rf, h1, h2, zt3]
  intro q hq hq2
  simp [hq, hq2]
set_option maxHeartbeats 4000000 in
theorem t_x4init (x : Nat) (M : zMe) (h : M.1 x = some (.inr (4, [.null, .null, .null, .int 0]))) (hlt : x < M.2.1) : ∃ M2, f_X4_init x M = some M2 ∧ M2.1 x = some (.inr (4, [.ref M.2.1, .ref (M.2.1 + 1), .ref (M.2.1 + 2), .int 0])) ∧ M2.1 M.2.1 = some (.inl (.int, 320, .inl (fun _ => 0))) ∧ M2.1 (M.2.1 + 1) = some (.inl (.int, 672, .inl (fun _ => 0))) ∧ M2.1 (M.2.1 + 2) = some (.inl (.int, 5, .inl (fun _ => 0))) ∧ M2.2 = (M.2.1 + 3, M.2.2 + 997) ∧ ∀ q, q ≠ x → (q < M.2.1 ∨ M.2.1 + 2 < q) → M2.1 q = M.1 q := by
  have h1 : ¬ x = M.2.1 := by omega
  have h2 : ¬ M.2.1 = x := by omega
  have h3 : ¬ x = M.2.1 + 1 := by omega
  have h4 : ¬ M.2.1 + 1 = x := by omega
  have h5 : ¬ x = M.2.1 + 2 := by omega
  have h6 : ¬ M.2.1 + 2 = x := by omega
  simp (decide := true) [f_X4_init, zpI, zp, zpR, znI, h, zSet, zAdd, va_rf, h1, h2, h3, h4, h5, h6, zt5, zt320, zt672, Nat.add_assoc]
  intro q hq hq2
  simp [hq, show ¬ q = M.2.1 by omega, show ¬ q = M.2.1 + 1 by omega, show ¬ q = M.2.1 + 2 by omega]
set_option maxHeartbeats 4000000 in
theorem t_x8init (x : Nat) (M : zMe) (h : M.1 x = some (.inr (8, [.null, .int 0, .long 0]))) (hlt : x < M.2.1) : ∃ M2, f_X8_init x M = some M2 ∧ M2.1 x = some (.inr (8, [.ref M.2.1, .int 0, .long 0])) ∧ M2.1 M.2.1 = some (.inl (.long, 64, .inr (.inl (fun _ => 0)))) ∧ M2.2 = (M.2.1 + 1, M.2.2 + 64) ∧ ∀ q, q ≠ x → q ≠ M.2.1 → M2.1 q = M.1 q := by
  have h1 : ¬ x = M.2.1 := by omega
  have h2 : ¬ M.2.1 = x := by omega
  simp (decide := true) [f_X8_init, zpI, zpL, zp, zpR, znL, h, zSet, zAdd, va_rf, h1, h2, zt64]
  intro q hq hq2
  simp [hq, hq2]
set_option maxHeartbeats 4000000 in
theorem t_x10init (x : Nat) (M : zMe) (h : M.1 x = some (.inr (10, [.null, .int 0]))) (hlt : x < M.2.1) : ∃ M2, f_X10_init x M = some M2 ∧ M2.1 x = some (.inr (10, [.ref M.2.1, .int 0])) ∧ M2.1 M.2.1 = some (.inl (.int, 288, .inl (fun _ => 0))) ∧ M2.2 = (M.2.1 + 1, M.2.2 + 288) ∧ ∀ q, q ≠ x → q ≠ M.2.1 → M2.1 q = M.1 q := by
  have h1 : ¬ x = M.2.1 := by omega
  have h2 : ¬ M.2.1 = x := by omega
  simp (decide := true) [f_X10_init, zpI, zp, zpR, znI, h, zSet, zAdd, va_rf, h1, h2, zt288]
  intro q hq hq2
  simp [hq, hq2]
/-- Chase(): the object at x; behind M's last cell: the array of lanes, three lanes of four cells, Seen with its slots, two arrays -/
def ch0 (x a : Nat) : List Value := [.ref a, .ref (a + 13), .int 0, .int 0, .int 0, .ref (a + 15), .ref (a + 16), .int 0, .int 1, .int 1048576, .int 0]
def ln0 (a : Nat) : List Value := [.ref (a + 1), .ref (a + 2), .ref (a + 3), .int 0]
/-- a lane as it is new: four cells from a -/
def Ln0 (M : zMe) (a : Nat) : Prop := M.1 a = some (.inr (4, ln0 a)) ∧ M.1 (a + 1) = some (.inl (.int, 320, .inl (fun _ => 0))) ∧ M.1 (a + 2) = some (.inl (.int, 672, .inl (fun _ => 0))) ∧ M.1 (a + 3) = some (.inl (.int, 5, .inl (fun _ => 0)))
theorem Ln0.kept {M M2 : zMe} {a : Nat} (h : Ln0 M a) (hq : ∀ q, a ≤ q → q ≤ a + 3 → M2.1 q = M.1 q) : Ln0 M2 a := ⟨by rw [hq a (by omega) (by omega)]; exact h.1, by rw [hq _ (by omega) (by omega)]; exact h.2.1, by rw [hq _ (by omega) (by omega)]; exact h.2.2.1, by rw [hq _ (by omega) (by omega)]; exact h.2.2.2⟩
/-- a new lane, made at M's end -/
theorem t_lane (M : zMe) : ∃ M2, f_X4_init M.2.1 (zAdd M (.inr (4, [.null, .null, .null, .int 0])) 4) = some M2 ∧ Ln0 M2 M.2.1 ∧ M2.2 = (M.2.1 + 4, M.2.2 + 1001) ∧ ∀ q, q < M.2.1 → M2.1 q = M.1 q := by
  obtain ⟨M2, e, a1, a2, a3, a4, a5, a6⟩ := t_x4init M.2.1 (zAdd M (.inr (4, [.null, .null, .null, .int 0])) 4) (zA_s _ _ _) (by show M.2.1 < M.2.1 + 1; omega)
  have e1 : (zAdd M (.inr (4, [.null, .null, .null, .int 0])) 4).2 = (M.2.1 + 1, M.2.2 + 4) := rfl
  rw [e1] at a1 a2 a3 a4 a5 a6
  refine ⟨M2, e, ⟨a1, a2, a3, a4⟩, by rw [a5], fun q hq => ?_⟩
  rw [a6 q (by omega) (Or.inl (by show q < M.2.1 + 1; omega)), zA_n _ _ _ (by omega)]

set_option maxHeartbeats 4000000 in
/-- Chase() on an object that is the last cell -/
theorem t_chase (M : zMe) : ∃ M2, f_X0_init M.2.1 (zAdd M (.inr (0, [.null, .null, .int 0, .int 0, .int 0, .null, .null, .int 0, .int 0, .int 0, .int 0])) 11) = some M2 ∧ M2.1 M.2.1 = some (.inr (0, ch0 M.2.1 (M.2.1 + 1))) ∧ M2.1 (M.2.1 + 1) = some (.inl (.object "OneWhistle$Lane", 3, .inr (.inr (.inr (.inr (va_up (va_up (va_up (fun _ => none) 0 (some (M.2.1 + 2))) 1 (some (M.2.1 + 6))) 2 (some (M.2.1 + 10)))))))) ∧ Ln0 M2 (M.2.1 + 2) ∧ Ln0 M2 (M.2.1 + 6) ∧ Ln0 M2 (M.2.1 + 10) ∧ M2.1 (M.2.1 + 14) = some (.inr (8, [.ref (M.2.1 + 15), .int 0, .long 0])) ∧ M2.1 (M.2.1 + 15) = some (.inl (.long, 64, .inr (.inl (fun _ => 0)))) ∧ M2.1 (M.2.1 + 16) = some (.inl (.long, 32, .inr (.inl (fun _ => 0)))) ∧ M2.1 (M.2.1 + 17) = some (.inl (.long, 32, .inr (.inl (fun _ => 0)))) ∧ M2.2 = (M.2.1 + 18, M.2.2 + 3148) ∧ ∀ q, q < M.2.1 → M2.1 q = M.1 q := by
  obtain ⟨n, hn⟩ : ∃ n, M.2.1 = n := ⟨_, rfl⟩
  obtain ⟨u, hu⟩ : ∃ u, M.2.2 = u := ⟨_, rfl⟩
  have hM2 : M.2 = (n, u) := by rw [← hn, ← hu]
  rw [hn, hu]
  unfold f_X0_init
  -- the array of lanes
  obtain ⟨A1, hA1⟩ : ∃ z, z = zAdd M (.inr (0, [.null, .null, .int 0, .int 0, .int 0, .null, .null, .int 0, .int 0, .int 0, .int 0])) 11 := ⟨_, rfl⟩
  rw [← hA1]
  have a1 : A1.2 = (n + 1, u + 11) := by rw [hA1]; simp [zAdd, hM2]
  have a2 : A1.1 n = some (.inr (0, [.null, .null, .int 0, .int 0, .int 0, .null, .null, .int 0, .int 0, .int 0, .int 0])) := by rw [hA1, ← hn]; exact zA_s _ _ _
  have a3 : ∀ q, q < n → A1.1 q = M.1 q := fun q hq => by rw [hA1]; exact zA_n _ _ _ (by omega)
  obtain ⟨A2, hA2⟩ : ∃ z, z = zAdd A1 (.inl (.object "OneWhistle$Lane", 3, .inr (.inr (.inr (.inr (fun _ => none)))))) 3 := ⟨_, rfl⟩
  have e2 : znR A1 "OneWhistle$Lane" 3 = some A2 := by simp (decide := true) [znR, zt3, hA2]
  rw [e2, Option.bind_some]
  have b1 : A2.2 = (n + 2, u + 14) := by rw [hA2]; simp [zAdd, a1]
  have b2 : A2.1 (n + 1) = some (.inl (.object "OneWhistle$Lane", 3, .inr (.inr (.inr (.inr (fun _ => none)))))) := by rw [hA2, show n + 1 = A1.2.1 by rw [a1]]; exact zA_s _ _ _
  have b3 : ∀ q, q < n + 1 → A2.1 q = A1.1 q := fun q hq => by rw [hA2]; exact zA_n _ _ _ (by rw [a1]; show q ≠ n + 1; omega)
  rw [show A1.2.1 = n + 1 by rw [a1]]
  -- the three lanes
  have lane : ∀ (B : zMe) (k : Nat) (f : Nat → Option Nat) (j : Int32) (hj : ¬ (j < 0 ∨ 3 ≤ j.toNatClampNeg)), n + 1 < k → B.2.1 = k → B.1 (n + 1) = some (.inl (.object "OneWhistle$Lane", 3, .inr (.inr (.inr (.inr f))))) → ∃ B2 B3, f_X4_init k (zAdd B (.inr (4, [.null, .null, .null, .int 0])) 4) = some B2 ∧ zwR B2 (n + 1) j (some k) "OneWhistle$Lane" [4] = some B3 ∧ B3.1 (n + 1) = some (.inl (.object "OneWhistle$Lane", 3, .inr (.inr (.inr (.inr (va_up f j.toNatClampNeg (some k))))))) ∧ Ln0 B3 k ∧ B3.2 = (k + 4, B.2.2 + 1001) ∧ ∀ q, q < k → q ≠ n + 1 → B3.1 q = B.1 q := by
    intro B k f j hj hk hB hf
    subst hB
    obtain ⟨B2, c1, c2, c3, c4⟩ := t_lane B
    have d1 : B2.1 (n + 1) = some (.inl (.object "OneWhistle$Lane", 3, .inr (.inr (.inr (.inr f))))) := by rw [c4 _ hk]; exact hf
    refine ⟨B2, zSet B2 (n + 1) (.inl (.object "OneWhistle$Lane", 3, .inr (.inr (.inr (.inr (va_up f j.toNatClampNeg (some B.2.1))))))), c1, ?_, zS_s _ _ _, c2.kept (fun q h1 h2 => zS_n _ _ (by omega)), by simp [zSet, c3], fun q hq hq2 => by rw [zS_n _ _ hq2]; exact c4 q hq⟩
    simp [zwR, d1, hj, c2.1]
  obtain ⟨B2, B3, c1, c2, c3, c4, c5, c6⟩ := lane A2 (n + 2) _ 0 (by decide) (by omega) (by rw [b1]) b2
  rw [show A2.2.1 = n + 2 by rw [b1]]
  simp only [zlet]
  rw [c1, Option.bind_some, c2, Option.bind_some]
  obtain ⟨D2, D3, d1, d2, d3, d4, d5, d6⟩ := lane B3 (n + 6) _ 1 (by decide) (by omega) (by rw [c5]) c3
  rw [show B3.2.1 = n + 6 by rw [c5]]
  rw [d1, Option.bind_some, d2, Option.bind_some]
  obtain ⟨E2, E3, e1, e2, e3, e4, e5, e6⟩ := lane D3 (n + 10) _ 2 (by decide) (by omega) (by rw [d5]) d3
  rw [show D3.2.1 = n + 10 by rw [d5]]
  rw [e1, Option.bind_some, e2, Option.bind_some]
  have x1 : E3.1 n = some (.inr (0, [.null, .null, .int 0, .int 0, .int 0, .null, .null, .int 0, .int 0, .int 0, .int 0])) := by rw [e6 n (by omega) (by omega), d6 n (by omega) (by omega), c6 n (by omega) (by omega), b3 n (by omega)]; exact a2
  have lo : ∀ q, q < n → E3.1 q = M.1 q := fun q hq => by rw [e6 q (by omega) (by omega), d6 q (by omega) (by omega), c6 q (by omega) (by omega), b3 q (by omega), a3 q hq]
  have l1 : Ln0 E3 (n + 2) := (c4.kept (fun q h1 h2 => d6 q (by omega) (by omega))).kept (fun q h1 h2 => e6 q (by omega) (by omega))
  have l2 : Ln0 E3 (n + 6) := d4.kept (fun q h1 h2 => e6 q (by omega) (by omega))
  -- the object's fields, Seen, the two arrays
  obtain ⟨G1, hG1⟩ : ∃ z, z = zSet E3 n (.inr (0, [.ref (n + 1), .null, .int 0, .int 0, .int 0, .null, .null, .int 0, .int 0, .int 0, .int 0])) := ⟨_, rfl⟩
  have g1 : zpR E3 n [0] 0 (some (n + 1)) = some G1 := by simp [zpR, zp, x1, va_rf, hG1]
  rw [g1, Option.bind_some]
  have g2 : G1.2 = (n + 14, u + 3017) := by rw [hG1]; simp [zSet, e5, d5, c5, b1, Nat.add_assoc]
  rw [show G1.2.1 = n + 14 by rw [g2]]
  obtain ⟨G2, hG2⟩ : ∃ z, z = zAdd G1 (.inr (8, [.null, .int 0, .long 0])) 3 := ⟨_, rfl⟩
  rw [← hG2]
  have g3 : G2.2 = (n + 15, u + 3020) := by rw [hG2]; simp [zAdd, g2]
  obtain ⟨G3, k1, k2, k3, k4, k5⟩ := t_x8init (n + 14) G2 (by rw [hG2, show n + 14 = G1.2.1 by rw [g2]]; exact zA_s _ _ _) (by rw [g3]; show n + 14 < n + 15; omega)
  rw [k1, Option.bind_some]
  have k0 : ∀ q, q < n + 14 → G3.1 q = G1.1 q := fun q hq => by rw [k5 q (by omega) (by rw [g3]; show q ≠ n + 15; omega), hG2]; exact zA_n _ _ _ (by rw [g2]; show q ≠ n + 14; omega)
  have k6 : G3.1 n = some (.inr (0, [.ref (n + 1), .null, .int 0, .int 0, .int 0, .null, .null, .int 0, .int 0, .int 0, .int 0])) := by rw [k0 n (by omega), hG1]; exact zS_s _ _ _
  rw [g3] at k2 k3 k4
  have k7 : G3.2 = (n + 16, u + 3084) := by rw [k4]
  have p1 : n ≠ n + 16 := by omega
  have p2 : n ≠ n + 17 := by omega
  have p3 : n + 16 ≠ n := by omega
  have p4 : n + 17 ≠ n := by omega
  simp (decide := true) [zpR, zpI, zpZ, zp, znL, k6, zSet, zAdd, va_rf, k7, zt32, p1, p2, p3, p4, Nat.add_assoc]
  refine ⟨by simp [ch0, Nat.add_assoc], ?_, ?_, ?_, ?_, k2, k3, ?_⟩
  · rw [k0 _ (by omega), hG1, zS_n _ _ (by omega)]; simpa (decide := true) [zt0, zt1, zt2] using e3
  · refine l1.kept (fun q h1 h2 => ?_)
    simp [show ¬ q = n by omega, show ¬ q = n + 16 by omega, show ¬ q = n + 17 by omega]
    rw [k0 _ (by omega), hG1, zS_n _ _ (by omega)]
  · refine l2.kept (fun q h1 h2 => ?_)
    simp [show ¬ q = n by omega, show ¬ q = n + 16 by omega, show ¬ q = n + 17 by omega]
    rw [k0 _ (by omega), hG1, zS_n _ _ (by omega)]
  · refine e4.kept (fun q h1 h2 => ?_)
    simp [show ¬ q = n by omega, show ¬ q = n + 16 by omega, show ¬ q = n + 17 by omega]
    rw [k0 _ (by omega), hG1, zS_n _ _ (by omega)]
  · intro q hq
    simp [show ¬ q = n by omega, show ¬ q = n + 16 by omega, show ¬ q = n + 17 by omega]
    rw [k0 _ (by omega), hG1, zS_n _ _ (by omega)]
    exact lo q hq
