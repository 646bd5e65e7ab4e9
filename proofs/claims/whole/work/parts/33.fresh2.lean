/-- a new OneWhistle at x: thirty-one cells -/
def CF (M : zMe) (x : Nat) : Prop :=
  M.1 x = some (.inr (11, [.ref (x + 1), .ref (x + 3), .ref (x + 4), .int 0, .long 0, .long 1, .int 0, .int 0, .int 0, .ref (x + 5), .ref (x + 23), .ref (x + 27), .ref (x + 29), .ref (x + 30)])) ∧
  M.1 (x + 1) = some (.inr (2, [.int 5, .int 0, .int 0, .int 0, .int 1, .int 1, .int 0, .ref (x + 2)])) ∧
  M.1 (x + 2) = some (.inl (.object "OneWhistle$Plain", 3, .inr (.inr (.inr (.inr (fun _ => none)))))) ∧
  M.1 (x + 3) = some (.inl (.object "OneWhistle$Hill", 2, .inr (.inr (.inr (.inr (fun _ => none)))))) ∧
  M.1 (x + 4) = some (.inl (.byte, 200, .inl (fun _ => 0))) ∧
  M.1 (x + 5) = some (.inr (0, ch0 (x + 5) (x + 6))) ∧
  M.1 (x + 6) = some (.inl (.object "OneWhistle$Lane", 3, .inr (.inr (.inr (.inr (va_up (va_up (va_up (fun _ => none) 0 (some (x + 7))) 1 (some (x + 11))) 2 (some (x + 15)))))))) ∧
  Ln0 M (x + 7) ∧ Ln0 M (x + 11) ∧ Ln0 M (x + 15) ∧
  M.1 (x + 19) = some (.inr (8, [.ref (x + 20), .int 0, .long 0])) ∧
  M.1 (x + 20) = some (.inl (.long, 64, .inr (.inl (fun _ => 0)))) ∧
  M.1 (x + 21) = some (.inl (.long, 32, .inr (.inl (fun _ => 0)))) ∧
  M.1 (x + 22) = some (.inl (.long, 32, .inr (.inl (fun _ => 0)))) ∧
  Ln0 M (x + 23) ∧
  M.1 (x + 27) = some (.inr (10, [.ref (x + 28), .int 0])) ∧
  M.1 (x + 28) = some (.inl (.int, 288, .inl (fun _ => 0))) ∧
  M.1 (x + 29) = some (.inl (.long, 5, .inr (.inl (fun _ => 0)))) ∧
  M.1 (x + 30) = some (.inl (.long, 5, .inr (.inl (fun _ => 0))))
theorem CF.kept {M M2 : zMe} {x : Nat} (h : CF M x) (hq : ∀ q, x ≤ q → q ≤ x + 30 → M2.1 q = M.1 q) : CF M2 x := by
  obtain ⟨h0, h1, h2, h3, h4, h5, h6, l1, l2, l3, h7, h8, h9, h10, l4, h11, h12, h13, h14⟩ := h
  have k : ∀ j, j ≤ 30 → M2.1 (x + j) = M.1 (x + j) := fun j hj => hq _ (by omega) (by omega)
  exact ⟨by rw [hq x (by omega) (by omega)]; exact h0, by rw [k 1 (by omega)]; exact h1, by rw [k 2 (by omega)]; exact h2, by rw [k 3 (by omega)]; exact h3, by rw [k 4 (by omega)]; exact h4, by rw [k 5 (by omega)]; exact h5, by rw [k 6 (by omega)]; exact h6, l1.kept (fun q a b => hq q (by omega) (by omega)), l2.kept (fun q a b => hq q (by omega) (by omega)), l3.kept (fun q a b => hq q (by omega) (by omega)), by rw [k 19 (by omega)]; exact h7, by rw [k 20 (by omega)]; exact h8, by rw [k 21 (by omega)]; exact h9, by rw [k 22 (by omega)]; exact h10, l4.kept (fun q a b => hq q (by omega) (by omega)), by rw [k 27 (by omega)]; exact h11, by rw [k 28 (by omega)]; exact h12, by rw [k 29 (by omega)]; exact h13, by rw [k 30 (by omega)]; exact h14⟩
/-- one field of the object at x -/
theorem zp_at {M : zMe} {a ci k : Nat} {fs : List Value} {v : Value} (h : M.1 a = some (.inr (ci, fs))) : zp M a [ci] k v = some (zSet M a (.inr (ci, fs.set k v))) := by simp [zp, h]
set_option maxHeartbeats 8000000 in
theorem t_x11 (x u : Nat) (M : zMe) (hM2 : M.2 = (x, u)) : ∃ M2, f_X11_init x (zAdd M (.inr (11, [.null, .null, .null, .int 0, .long 0, .long 0, .int 0, .int 0, .int 0, .null, .null, .null, .null, .null])) 14) = some M2 ∧ CF M2 x ∧ M2.2 = (x + 31, u + 4676) ∧ ∀ q, q < x → M2.1 q = M.1 q := by
  unfold f_X11_init
  obtain ⟨A, hA⟩ : ∃ z, z = zAdd M (.inr (11, [.null, .null, .null, .int 0, .long 0, .long 0, .int 0, .int 0, .int 0, .null, .null, .null, .null, .null])) 14 := ⟨_, rfl⟩
  rw [← hA]
  have a1 : A.2 = (x + 1, u + 14) := by rw [hA]; simp [zAdd, hM2]
  have a2 : A.1 x = some (.inr (11, [.null, .null, .null, .int 0, .long 0, .long 0, .int 0, .int 0, .int 0, .null, .null, .null, .null, .null])) := by rw [hA, show x = M.2.1 by rw [hM2]]; exact zA_s _ _ _
  have a3 : ∀ q, q < x → A.1 q = M.1 q := fun q hq => by rw [hA]; exact zA_n _ _ _ (by rw [hM2]; show q ≠ x; omega)
  simp only [zlet]
  rw [show A.2.1 = x + 1 by rw [a1]]
  -- the hill
  obtain ⟨B, hB⟩ : ∃ z, z = zAdd A (.inr (2, [.int 0, .int 0, .int 0, .int 0, .int 0, .int 0, .int 0, .null])) 8 := ⟨_, rfl⟩
  rw [← hB]
  have b1 : B.2 = (x + 2, u + 22) := by rw [hB]; simp [zAdd, a1]
  have b2 : B.1 (x + 1) = some (.inr (2, [.int 0, .int 0, .int 0, .int 0, .int 0, .int 0, .int 0, .null])) := by rw [hB, show x + 1 = A.2.1 by rw [a1]]; exact zA_s _ _ _
  have b3 : ∀ q, q < x + 1 → B.1 q = A.1 q := fun q hq => by rw [hB]; exact zA_n _ _ _ (by rw [a1]; show q ≠ x + 1; omega)
  obtain ⟨C, c1, c2, c3, c4, c5⟩ := t_x2init (x + 1) B b2 (by rw [b1]; show x + 1 < x + 2; omega)
  rw [c1, Option.bind_some]
  rw [b1] at c2 c3 c4 c5
  have c6 : C.1 x = some (.inr (11, [.null, .null, .null, .int 0, .long 0, .long 0, .int 0, .int 0, .int 0, .null, .null, .null, .null, .null])) := by rw [c5 x (by omega) (by show x ≠ x + 2; omega), b3 x (by omega)]; exact a2
  have c7 : ∀ q, q < x → C.1 q = M.1 q := fun q hq => by rw [c5 q (by omega) (by show q ≠ x + 2; omega), b3 q (by omega), a3 q hq]
  have c4 : C.2 = (x + 3, u + 25) := c4
  -- fields up to the chase
  obtain ⟨D, hD⟩ : ∃ z, z = zSet C x (.inr (11, [.ref (x + 1), .null, .null, .int 0, .long 0, .long 0, .int 0, .int 0, .int 0, .null, .null, .null, .null, .null])) := ⟨_, rfl⟩
  have d1 : zpR C x [11] 0 (some (x + 1)) = some D := by rw [zpR, zp_at c6, hD]; rfl
  rw [d1, Option.bind_some]
  have d2 : D.2 = (x + 3, u + 25) := by rw [hD]; exact c4
  have d3 : D.1 x = some (.inr (11, [.ref (x + 1), .null, .null, .int 0, .long 0, .long 0, .int 0, .int 0, .int 0, .null, .null, .null, .null, .null])) := by rw [hD]; exact zS_s _ _ _
  have d4 : ∀ q, q ≠ x → D.1 q = C.1 q := fun q hq => by rw [hD]; exact zS_n _ _ hq
  obtain ⟨E, hE⟩ : ∃ z, z = zAdd D (.inl (.object "OneWhistle$Hill", 2, .inr (.inr (.inr (.inr (fun _ => none)))))) 2 := ⟨_, rfl⟩
  have e1 : znR D "OneWhistle$Hill" 2 = some E := by simp (decide := true) [znR, zt2, hE]
  rw [e1, Option.bind_some]
  have e2 : E.2 = (x + 4, u + 27) := by rw [hE]; simp [zAdd, d2]
  have e3 : E.1 (x + 3) = some (.inl (.object "OneWhistle$Hill", 2, .inr (.inr (.inr (.inr (fun _ => none)))))) := by rw [hE, show x + 3 = D.2.1 by rw [d2]]; exact zA_s _ _ _
  have e4 : ∀ q, q < x + 3 → E.1 q = D.1 q := fun q hq => by rw [hE]; exact zA_n _ _ _ (by rw [d2]; show q ≠ x + 3; omega)
  rw [show D.2.1 = x + 3 by rw [d2]]
  obtain ⟨F, hF⟩ : ∃ z, z = zSet E x (.inr (11, [.ref (x + 1), .ref (x + 3), .null, .int 0, .long 0, .long 0, .int 0, .int 0, .int 0, .null, .null, .null, .null, .null])) := ⟨_, rfl⟩
  have f1 : zpR E x [11] 1 (some (x + 3)) = some F := by rw [zpR, zp_at (by rw [e4 x (by omega)]; exact d3), hF]; rfl
  rw [f1, Option.bind_some]
  have f2 : F.2 = (x + 4, u + 27) := by rw [hF]; exact e2
  have f3 : F.1 x = some (.inr (11, [.ref (x + 1), .ref (x + 3), .null, .int 0, .long 0, .long 0, .int 0, .int 0, .int 0, .null, .null, .null, .null, .null])) := by rw [hF]; exact zS_s _ _ _
  have f4 : ∀ q, q ≠ x → F.1 q = E.1 q := fun q hq => by rw [hF]; exact zS_n _ _ hq
  obtain ⟨G, hG⟩ : ∃ z, z = zAdd F (.inl (.byte, 200, .inl (fun _ => 0))) 200 := ⟨_, rfl⟩
  have g1 : znI F .byte 200 = some G := by simp (decide := true) [znI, zt200, hG]
  rw [g1, Option.bind_some]
  have g2 : G.2 = (x + 5, u + 227) := by rw [hG]; simp [zAdd, f2]
  have g3 : G.1 (x + 4) = some (.inl (.byte, 200, .inl (fun _ => 0))) := by rw [hG, show x + 4 = F.2.1 by rw [f2]]; exact zA_s _ _ _
  have g4 : ∀ q, q < x + 4 → G.1 q = F.1 q := fun q hq => by rw [hG]; exact zA_n _ _ _ (by rw [f2]; show q ≠ x + 4; omega)
  rw [show F.2.1 = x + 4 by rw [f2]]
  have g5 : G.1 x = some (.inr (11, [.ref (x + 1), .ref (x + 3), .null, .int 0, .long 0, .long 0, .int 0, .int 0, .int 0, .null, .null, .null, .null, .null])) := by rw [g4 x (by omega)]; exact f3
  -- seven numbers
  obtain ⟨I, hI⟩ : ∃ z, z = zSet G x (.inr (11, [.ref (x + 1), .ref (x + 3), .ref (x + 4), .int 0, .long 0, .long 1, .int 0, .int 0, .int 0, .null, .null, .null, .null, .null])) := ⟨_, rfl⟩
  have zz : ∀ (N : zMe) (e f : zEn), zSet (zSet N x e) x f = zSet N x f := fun N e f => zMe_ext (fun q => by by_cases h : q = x <;> simp [zSet, h]) rfl
  have i1 : ((zpR G x [11] 2 (some (x + 4))).bind fun M6 => (zpI M6 x [11] 3 0).bind fun M7 => (zpL M7 x [11] 4 0).bind fun M8 => (zpL M8 x [11] 5 1).bind fun M9 => (zpI M9 x [11] 6 0).bind fun M10 => (zpI M10 x [11] 7 0).bind fun M11 => zpI M11 x [11] 8 0) = some I := by
    simp only [zpR, zpI, zpL, zp_at g5, Option.bind_some, zp_at (zS_s _ _ _), zz, hI]
    rfl
  have i2 : I.2 = (x + 5, u + 227) := by rw [hI]; exact g2
  have i3 : I.1 x = some (.inr (11, [.ref (x + 1), .ref (x + 3), .ref (x + 4), .int 0, .long 0, .long 1, .int 0, .int 0, .int 0, .null, .null, .null, .null, .null])) := by rw [hI]; exact zS_s _ _ _
  have i4 : ∀ q, q ≠ x → I.1 q = G.1 q := fun q hq => by rw [hI]; exact zS_n _ _ hq
  have bnd : ∀ (α β γ : Type) (o1 : Option α) (k : α → Option β) (h : β → Option γ), (o1.bind fun y => (k y).bind h) = (o1.bind k).bind h := fun α β γ o1 k h => by cases o1 <;> rfl
  simp only [bnd] at i1 ⊢
  rw [i1, Option.bind_some]
  -- the chase
  obtain ⟨J, j1, j2, j3, jl1, jl2, jl3, j4, j5, j6, j7, j8, j9⟩ := t_chase I
  rw [i2] at j1 j2 j3 jl1 jl2 jl3 j4 j5 j6 j7 j8 j9
  rw [show I.2.1 = x + 5 by rw [i2]]
  rw [j1, Option.bind_some]
  have j8 : J.2 = (x + 23, u + 3375) := j8
  have j10 : J.1 x = some (.inr (11, [.ref (x + 1), .ref (x + 3), .ref (x + 4), .int 0, .long 0, .long 1, .int 0, .int 0, .int 0, .null, .null, .null, .null, .null])) := by rw [j9 x (by show x < x + 5; omega)]; exact i3
  obtain ⟨K, hK⟩ : ∃ z, z = zSet J x (.inr (11, [.ref (x + 1), .ref (x + 3), .ref (x + 4), .int 0, .long 0, .long 1, .int 0, .int 0, .int 0, .ref (x + 5), .null, .null, .null, .null])) := ⟨_, rfl⟩
  have k1 : zpR J x [11] 9 (some (x + 5)) = some K := by rw [zpR, zp_at j10, hK]; rfl
  rw [k1, Option.bind_some]
  have k2 : K.2 = (x + 23, u + 3375) := by rw [hK]; exact j8
  have k3 : K.1 x = some (.inr (11, [.ref (x + 1), .ref (x + 3), .ref (x + 4), .int 0, .long 0, .long 1, .int 0, .int 0, .int 0, .ref (x + 5), .null, .null, .null, .null])) := by rw [hK]; exact zS_s _ _ _
  have k4 : ∀ q, q ≠ x → K.1 q = J.1 q := fun q hq => by rw [hK]; exact zS_n _ _ hq
  -- the lane
  obtain ⟨N, n1, n2, n3, n4⟩ := t_lane K
  rw [k2] at n1 n2 n3 n4
  rw [show K.2.1 = x + 23 by rw [k2]]
  rw [n1, Option.bind_some]
  have n3 : N.2 = (x + 27, u + 4376) := n3
  obtain ⟨P, hP⟩ : ∃ z, z = zSet N x (.inr (11, [.ref (x + 1), .ref (x + 3), .ref (x + 4), .int 0, .long 0, .long 1, .int 0, .int 0, .int 0, .ref (x + 5), .ref (x + 23), .null, .null, .null])) := ⟨_, rfl⟩
  have p1 : zpR N x [11] 10 (some (x + 23)) = some P := by rw [zpR, zp_at (by rw [n4 x (by show x < x + 23; omega)]; exact k3), hP]; rfl
  rw [p1, Option.bind_some]
  have p2 : P.2 = (x + 27, u + 4376) := by rw [hP]; exact n3
  have p3 : P.1 x = some (.inr (11, [.ref (x + 1), .ref (x + 3), .ref (x + 4), .int 0, .long 0, .long 1, .int 0, .int 0, .int 0, .ref (x + 5), .ref (x + 23), .null, .null, .null])) := by rw [hP]; exact zS_s _ _ _
  have p4 : ∀ q, q ≠ x → P.1 q = N.1 q := fun q hq => by rw [hP]; exact zS_n _ _ hq
  -- the teller
  rw [show P.2.1 = x + 27 by rw [p2]]
  obtain ⟨Q, hQ⟩ : ∃ z, z = zAdd P (.inr (10, [.null, .int 0])) 2 := ⟨_, rfl⟩
  rw [← hQ]
  have q1 : Q.2 = (x + 28, u + 4378) := by rw [hQ]; simp [zAdd, p2]
  obtain ⟨R, r1, r2, r3, r4, r5⟩ := t_x10init (x + 27) Q (by rw [hQ, show x + 27 = P.2.1 by rw [p2]]; exact zA_s _ _ _) (by rw [q1]; show x + 27 < x + 28; omega)
  rw [r1, Option.bind_some]
  rw [q1] at r2 r3 r4 r5
  have r4 : R.2 = (x + 29, u + 4666) := r4
  have r6 : ∀ q, q < x + 27 → R.1 q = P.1 q := fun q hq => by rw [r5 q (by omega) (by show q ≠ x + 28; omega), hQ]; exact zA_n _ _ _ (by rw [p2]; show q ≠ x + 27; omega)
  have r7 : R.1 x = some (.inr (11, [.ref (x + 1), .ref (x + 3), .ref (x + 4), .int 0, .long 0, .long 1, .int 0, .int 0, .int 0, .ref (x + 5), .ref (x + 23), .null, .null, .null])) := by rw [r6 x (by omega)]; exact p3
  have y1 : ¬ x + 29 = x := by omega
  have y2 : ¬ x + 30 = x := by omega
  have y3 : ¬ x = x + 29 := by omega
  have y4 : ¬ x = x + 30 := by omega
  -- all below the last two arrays
  have fin : ∀ (Z : zMe), (∀ q, q < x + 29 → q ≠ x → Z.1 q = R.1 q) → Z.1 x = some (.inr (11, [.ref (x + 1), .ref (x + 3), .ref (x + 4), .int 0, .long 0, .long 1, .int 0, .int 0, .int 0, .ref (x + 5), .ref (x + 23), .ref (x + 27), .ref (x + 29), .ref (x + 30)])) → Z.1 (x + 29) = some (.inl (.long, 5, .inr (.inl (fun _ => 0)))) → Z.1 (x + 30) = some (.inl (.long, 5, .inr (.inl (fun _ => 0)))) → CF Z x ∧ ∀ q, q < x → Z.1 q = M.1 q := by
    intro Z hz1 hz2 hz3 hz4
    have up : ∀ q, x < q → q < x + 27 → Z.1 q = N.1 q := fun q a b => by rw [hz1 q (by omega) (by omega), r6 q b, p4 q (by omega)]
    have up2 : ∀ q, x < q → q < x + 23 → Z.1 q = J.1 q := fun q a b => by rw [up q a (by omega), n4 q (by show q < x + 23; omega), k4 q (by omega)]
    have up3 : ∀ q, x < q → q < x + 5 → Z.1 q = G.1 q := fun q a b => by rw [up2 q a (by omega), j9 q (by show q < x + 5; omega), i4 q (by omega)]
    refine ⟨⟨hz2, ?_, ?_, ?_, ?_, ?_, ?_, ?_, ?_, ?_, ?_, ?_, ?_, ?_, ?_, ?_, ?_, hz3, hz4⟩, ?_⟩
    · rw [up3 _ (by omega) (by omega), g4 _ (by omega), f4 _ (by omega), e4 _ (by omega), d4 _ (by omega)]; exact c2
    · rw [up3 _ (by omega) (by omega), g4 _ (by omega), f4 _ (by omega), e4 _ (by omega), d4 _ (by omega)]; exact c3
    · rw [up3 _ (by omega) (by omega), g4 _ (by omega), f4 _ (by omega)]; exact e3
    · rw [up3 _ (by omega) (by omega)]; exact g3
    · rw [up2 _ (by omega) (by omega)]; exact j2
    · rw [up2 _ (by omega) (by omega)]; exact j3
    · exact jl1.kept (fun q a b => up2 q (by omega) (by omega))
    · exact jl2.kept (fun q a b => up2 q (by omega) (by omega))
    · exact jl3.kept (fun q a b => up2 q (by omega) (by omega))
    · rw [up2 _ (by omega) (by omega)]; exact j4
    · rw [up2 _ (by omega) (by omega)]; exact j5
    · rw [up2 _ (by omega) (by omega)]; exact j6
    · rw [up2 _ (by omega) (by omega)]; exact j7
    · exact n2.kept (fun q a b => up q (by omega) (by omega))
    · rw [hz1 _ (by omega) (by omega)]; exact r2
    · rw [hz1 _ (by omega) (by omega)]; exact r3
    · intro q hq
      rw [hz1 q (by omega) (by omega), r6 q (by omega), p4 q (by omega), n4 q (by show q < x + 23; omega), k4 q (by omega), j9 q (by show q < x + 5; omega), i4 q (by omega), g4 q (by omega), f4 q (by omega), e4 q (by omega), d4 q (by omega), c7 q hq]
  simp (decide := true) [zpR, zp, znL, r7, zSet, zAdd, va_rf, r4, zt5, y1, y2, y3, y4, Nat.add_assoc]
  refine fin _ (fun q a b => ?_) ?_ ?_ ?_
  · simp [b, show ¬ q = x + 29 by omega, show ¬ q = x + 30 by omega]
  · simp
  · simp [y1]
  · simp [y2]
