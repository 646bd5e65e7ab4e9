section KSK
variable {lc n sh b0 b1 : Nat} {D : Nat → Nat → Nat} {s0 tg : Nat → Nat} {J : Nat → Nat} {M : zMe} {c t : Nat} {A Z I : Nat → Nat} {fe : Nat → Int64}
theorem tb_0 {u t : Nat} (h : u < 2 ^ t) : u.testBit t = false := Nat.testBit_lt_two_pow h
theorem or_lo {u t i : Nat} (hi : i < t) : (u ||| 2 ^ t).testBit i = u.testBit i := by
  rw [Nat.testBit_or, Nat.testBit_two_pow]
  simp [show ¬ t = i by omega]
theorem or_hi (u t : Nat) : (u ||| 2 ^ t).testBit t = true := by
  rw [Nat.testBit_or, Nat.testBit_two_pow]
  simp
theorem KX.ks {nx : Nat → Nat → Nat → Nat} {p0 tgp r : Nat} (h : KX b0 b1 nx p0 tgp J M c t r A Z I fe) : ∃ fl v sm, KS M c J A Z I fe fl v sm := by
  obtain ⟨fl, v, sm, -, -, hK, -⟩ := h
  exact ⟨fl, v, sm, hK⟩
theorem k_whistle {u : Nat} (hC : CX lc n sh (J 2) b0 b1 D s0 tg) (hJ0 : J 0 = lc) (hJ3 : J 3 = min b0 b1) (hL : LC M c lc n sh tg D) (hX : KX b0 b1 (nxD lc n sh D) (mkp s0 lc) (mkp tg lc) J M c (t + 1) (2 * rvs u t) A Z I fe) (hu : u < 2 ^ t) (ht : t < 20) (hm : I 0 + 1 < 65536) : ∃ M' A' Z' I', f_X0_whistleOn c (nI t) (lN (enc (pkr (nxD lc n sh D) (mkp s0 lc) u t) u (cst b0 b1 u t))) (nI b0) (nI b1) M = some M' ∧ KX b0 b1 (nxD lc n sh D) (mkp s0 lc) (mkp tg lc) J M' c (t + 1) (2 * rvs u t + 2) A' Z' I' fe ∧ KFr M M' c A A' Z Z' ∧ I' 0 ≤ I 0 + 2 ∧ A' 1 = A 1 ∧ Z' 1 = Z 1 ∧ I' 4 = I 4 := by
  obtain ⟨fl, v, sm, hK⟩ := hX.ks
  have h0 := hK.1
  rw [hJ0] at h0
  obtain ⟨hp, hps⟩ := hC.st u t
  have hcs := hC.cs u (Nat.le_of_lt ht)
  have hu20 : u < 1048576 := Nat.lt_of_lt_of_le hu (p2b (Nat.le_of_lt ht))
  have hu1 : u < 2 ^ (t + 1) := Nat.lt_of_lt_of_le hu (p2b (by omega))
  have hp2 : (2 : Nat) ^ t < 2 ^ (t + 1) := Nat.pow_lt_pow_right (by decide) (by omega)
  have hu2 : u ||| 2 ^ t < 2 ^ (t + 1) := Nat.or_lt_two_pow hu1 hp2
  have a1 : pkr (nxD lc n sh D) (mkp s0 lc) u (t + 1) = nxD lc n sh D 0 t (pkr (nxD lc n sh D) (mkp s0 lc) u t) := by rw [pkr, tb_0 hu]; rfl
  have a2 : cst b0 b1 u (t + 1) = cst b0 b1 u t + b0 := by rw [cst, tb_0 hu]; rfl
  have a3 : rvs u (t + 1) = 2 * rvs u t := by rw [rvs, tb_0 hu]; rfl
  have c1 : pkr (nxD lc n sh D) (mkp s0 lc) (u ||| 2 ^ t) (t + 1) = nxD lc n sh D 1 t (pkr (nxD lc n sh D) (mkp s0 lc) u t) := by rw [pkr, or_hi, pkr_agr t (fun i hi => or_lo hi)]; rfl
  have c2 : cst b0 b1 (u ||| 2 ^ t) (t + 1) = cst b0 b1 u t + b1 := by rw [cst, or_hi, cst_agr t (fun i hi => or_lo hi)]; rfl
  have c3 : rvs (u ||| 2 ^ t) (t + 1) = 2 * rvs u t + 1 := by rw [rvs, or_hi, rvs_agr t (fun i hi => or_lo hi)]; rfl
  have pb0 : f_X0_packBehind c (nI t) 0 (nI (pkr (nxD lc n sh D) (mkp s0 lc) u t)) M = some (nI (nxD lc n sh D 0 t (pkr (nxD lc n sh D) (mkp s0 lc) u t)), M) := k_pack (w := 0) h0 hL hC.1 hC.2.1 hC.2.2.2.2.2.1 (by omega) (by omega) hp hps
  rw [← a3] at hX
  obtain ⟨M1, A1, Z1, I1, o1, o2, o3, o4, o5, o6, o7⟩ := k_offer hC hJ0 hJ3 hL hX hu1 (by omega) (by omega)
  obtain ⟨fl1, v1, sm1, hK1⟩ := o2.ks
  have h1 := hK1.1
  rw [hJ0] at h1
  have hL1 := hL.fr hC.2.2.2.2.2.1 hK o3
  have pb1 : f_X0_packBehind c (nI t) 1 (nI (pkr (nxD lc n sh D) (mkp s0 lc) u t)) M1 = some (nI (nxD lc n sh D 1 t (pkr (nxD lc n sh D) (mkp s0 lc) u t)), M1) := k_pack (w := 1) h1 hL1 hC.1 hC.2.1 hC.2.2.2.2.2.1 (by omega) (by omega) hp hps
  rw [a3, ← c3] at o2
  obtain ⟨M2, A2, Z2, I2, q1, q2, q3, q4, q5, q6, q7⟩ := k_offer hC hJ0 hJ3 hL1 o2 hu2 (by omega) (by omega)
  refine ⟨M2, A2, Z2, I2, ?_, by rw [c3] at q2; exact q2, o3.trans q3, by omega, q5.trans o5, q6.trans o6, q7.trans o7⟩
  rw [a1, a2] at o1
  rw [c1, c2] at q1
  rw [f_X0_whistleOn, enc_p hp, Option.bind_some, enc_u hp hu20 (by omega), Option.bind_some, enc_b hp hu20 (by omega), Option.bind_some, ch_ob h0, Option.bind_some, pb0, Option.bind_some, ch_ob h0, Option.bind_some, nI_1, nI_add, o1, Option.bind_some, ch_ob h1, Option.bind_some, pb1, Option.bind_some, ch_ob h1, Option.bind_some, n_sh1 (by omega), n_or, nI_add, q1, Option.bind_some]
/-- one time's whistles -/
theorem k_time {k45 : Nat → Int32 → Int32 → Int32 → zMe → Option (Int32 × zMe)} {n' : Nat} {U : Nat → Nat} (hC : CX lc n sh (J 2) b0 b1 D s0 tg) (hJ0 : J 0 = lc) (hJ3 : J 3 = min b0 b1) (hL : LC M c lc n sh tg D) (hX : KX b0 b1 (nxD lc n sh D) (mkp s0 lc) (mkp tg lc) J M c (t + 1) 0 A Z I fe) (hE : EInv b0 b1 (nxD lc n sh D) (mkp s0 lc) (mkp tg lc) t n' U) (hf : ∀ k, k < n' → fe k = lN (enc (pkr (nxD lc n sh D) (mkp s0 lc) (U k) t) (U k) (cst b0 b1 (U k) t))) (hz : n' ≤ Z 1) (hn : n' ≤ 32768) (ht : t < 20) (hI0 : I 0 = 0) : ∃ M' A' Z' I', f_X0_seek_b68 k45 zfu c (nI b0) (nI b1) (nI t) (nI n') (nI 0) M = k45 c (nI b0) (nI b1) (nI (t + 1)) M' ∧ KX b0 b1 (nxD lc n sh D) (mkp s0 lc) (mkp tg lc) J M' c (t + 1) (2 ^ (t + 1)) A' Z' I' fe ∧ KFr M M' c A A' Z Z' ∧ I' 4 = I 4 := by
  obtain ⟨fl, v, sm, hK⟩ := hX.ks
  have lp := loopC (S := zMe) (S' := zMe) (R := Option (Int32 × zMe)) (fun fuel i N => f_X0_seek_b68 k45 fuel c (nI b0) (nI b1) (nI t) (nI n') (nI i) N) (fun N => k45 c (nI b0) (nI b1) (nI (t + 1)) N) n'
    (fun i N => ∃ A' Z' I', KX b0 b1 (nxD lc n sh D) (mkp s0 lc) (mkp tg lc) J N c (t + 1) (rri t n' U i) A' Z' I' fe ∧ KFr M N c A A' Z Z' ∧ I' 0 ≤ 2 * i ∧ A' 1 = A 1 ∧ Z' 1 = Z 1 ∧ I' 4 = I 4)
    (fun N => ∃ A' Z' I', KX b0 b1 (nxD lc n sh D) (mkp s0 lc) (mkp tg lc) J N c (t + 1) (2 ^ (t + 1)) A' Z' I' fe ∧ KFr M N c A A' Z Z' ∧ I' 4 = I 4)
    (by omega) (fun fu i N hi hI => ?_) (fun fu N hI => ?_) M ⟨A, Z, I, ?_, KFr.refl _ _ _ _, by omega, rfl, rfl, rfl⟩
  · obtain ⟨M', e, A', Z', I', y1, y2, y3⟩ := lp
    exact ⟨M', A', Z', I', e, y1, y2, y3⟩
  · obtain ⟨A', Z', I', y1, y2, y3, y4, y5, y6⟩ := hI
    obtain ⟨fl', v', sm', hK'⟩ := y1.ks
    have hL' := hL.fr hC.2.2.2.2.2.1 hK y2
    have h0 := hK'.1
    have hu := hE.1 i hi
    have ri : rri t n' U i = 2 * rvs (U i) t := by unfold rri; rw [if_pos hi]
    rw [ri] at y1
    obtain ⟨M2, A2, Z2, I2, q1, q2, q3, q4, q5, q6, q7⟩ := k_whistle hC hJ0 hJ3 hL' y1 hu ht (by omega)
    have g1 := hK'.2.1
    have hP1 := (hK'.2.2.2.2.2.1 1 (by omega)).lt
    have rd : zrL N (A' 1) (nI i) = some (lN (enc (pkr (nxD lc n sh D) (mkp s0 lc) (U i) t) (U i) (cst b0 b1 (U i) t))) := by rw [rL_at g1 (by omega) (by omega), hf i hi]
    refine ⟨M2, ?_, A2, Z2, I2, ?_, y2.trans q3, by omega, q5.trans y4, q6.trans y5, q7.trans y6⟩
    · show f_X0_seek_b68 k45 (fu + 1) c (nI b0) (nI b1) (nI t) (nI n') (nI i) N = f_X0_seek_b68 k45 fu c (nI b0) (nI b1) (nI t) (nI n') (nI (i + 1)) M2
      rw [f_X0_seek_b68, if_neg (nI_ge hi (by omega)), ch_5 h0, Option.bind_some, ln_at g1, Option.bind_some, if_neg (nI_ge (show i < Z' 1 by omega) (by omega)), Option.bind_some, rd, Option.bind_some, ch_ob h0, Option.bind_some, q1, Option.bind_some, zlet, nI_1]
    · obtain ⟨fl2, v2, sm2, V2, fd2, z1, z2, z3, z4, z5, z6⟩ := q2
      exact ⟨fl2, v2, sm2, V2, fd2, z1, z2, z3, z4, z5, sinv_gap hE hi z6⟩
  · obtain ⟨A', Z', I', y1, y2, y3, y4, y5, y6⟩ := hI
    have ri : rri t n' U n' = 2 ^ (t + 1) := by unfold rri; rw [if_neg (by omega)]
    rw [ri] at y1
    refine ⟨N, ?_, A', Z', I', y1, y2, y6⟩
    show f_X0_seek_b68 k45 (fu + 1) c (nI b0) (nI b1) (nI t) (nI n') (nI n') N = k45 c (nI b0) (nI b1) (nI (t + 1)) N
    rw [f_X0_seek_b68, if_pos (nI_le (Nat.le_refl _) (by omega)), f_X0_seek_b105, zlet, nI_1]
  · obtain ⟨fl2, v2, sm2, V2, fd2, z1, z2, z3, z4, z5, z6⟩ := hX
    exact ⟨fl2, v2, sm2, V2, fd2, z1, z2, z3, z4, z5, sinv_gap0 hE z6⟩
/-- what a search answers -/
def Ans (b0 b1 : Nat) (nx : Nat → Nat → Nat → Nat) (p0 tg : Nat) (f : Int32) (fb ft : Nat) : Prop := (f = 0 ∧ ∀ u T, T ≤ 20 → ¬ pkr nx p0 u T = tg) ∨ (f = 1 ∧ ∃ u T, Star b0 b1 (fun v s => pkr nx p0 v s = tg) u T ∧ fb = cst b0 b1 u T ∧ ft = u)
theorem k_ans {r : Nat} (hC : CX lc n sh (J 2) b0 b1 D s0 tg) (hX : KX b0 b1 (nxD lc n sh D) (mkp s0 lc) (mkp tg lc) J M c t r A Z I fe) (he : ∀ fl v sm V fd, KS M c J A Z I fe fl v sm → SInv b0 b1 (nxD lc n sh D) (mkp s0 lc) (mkp tg lc) (J 2) t r (I 0) V fd sm → ∀ u T, Star b0 b1 (fun v s => pkr (nxD lc n sh D) (mkp s0 lc) v s = mkp tg lc) u T → fd = some (u, T)) : ∃ f, f_X0_seek_b111 c M = some (f, M) ∧ Ans b0 b1 (nxD lc n sh D) (mkp s0 lc) (mkp tg lc) f (I 1) (I 2) := by
  obtain ⟨fl, v, sm, V, fd, hK, x1, x2, x3, x4, x5⟩ := hX
  have hfb := fbr_le hC.2.2.2.2.2.2.2.2.1.2 hC.2.2.2.2.2.2.2.2.2.2 x5
  rw [f_X0_seek_b111, ch_9 hK.1, Option.bind_some]
  rcases sinv_fd x5 (he fl v sm V fd hK x5) with ⟨h1, h2⟩ | ⟨u, T, h1, h2⟩
  · rw [h1] at x3
    simp only [fbr] at x3
    rw [x3, if_pos (show nI 1048576 = 1048576 from rfl), f_X0_seek_b125]
    exact ⟨0, by simp, Or.inl ⟨rfl, h2⟩⟩
  · rw [h1] at x3 x4
    have hcs := hC.cs u h2.2.1
    have x3' : I 1 = cst b0 b1 u T := x3
    have hne : ¬ nI (I 1) = 1048576 := fun z => by
      have := (nI_eq (a := I 1) (b := 1048576) (by omega) (by omega)).mp z
      omega
    rw [if_neg hne, f_X0_seek_b125]
    exact ⟨1, by simp, Or.inr ⟨rfl, u, T, h2, x3', x4⟩⟩
theorem k_seekL {M0 : zMe} {A0 Z0 : Nat → Nat} {sr : Nat} {fl0 : Nat → Int64} {v0 : Nat → Nat} {sm0 : Nat → Option Nat} (hC : CX lc n sh (J 2) b0 b1 D s0 tg) (hJ0 : J 0 = lc) (hJ3 : J 3 = min b0 b1) (hL : LC M0 c lc n sh tg D) (hX : KX b0 b1 (nxD lc n sh D) (mkp s0 lc) (mkp tg lc) J M c 0 (2 ^ 0) A Z I fe) (hlk : ∀ q, c + 1 ≤ q → q ≤ c + 13 → M.1 q = M0.1 q) (hsr : I 4 = sr) : ∃ f M' A' Z' I' fe', f_X0_seek_b45 zfu c (nI b0) (nI b1) (nI 0) M = some (f, M') ∧ (∃ fl v sm, KS M' c J A' Z' I' fe' fl v sm) ∧ KFr M M' c A A' Z Z' ∧ I' 4 = sr ∧ Ans b0 b1 (nxD lc n sh D) (mkp s0 lc) (mkp tg lc) f (I' 1) (I' 2) := by
  obtain ⟨flM, vM, smM, hKM⟩ := hX.ks
  have hLM := hL.kept hC.2.2.2.2.2.1 hlk
  have lp := loopIZ (S := zMe) (R := Int32 × zMe) (fun fuel t N => f_X0_seek_b45 fuel c (nI b0) (nI b1) (nI t) N) 20
    (fun t N => ∃ A' Z' I' fe', KX b0 b1 (nxD lc n sh D) (mkp s0 lc) (mkp tg lc) J N c t (2 ^ t) A' Z' I' fe' ∧ KFr M N c A A' Z Z' ∧ I' 4 = sr)
    (fun q => ∃ A' Z' I' fe', (∃ fl v sm, KS q.2 c J A' Z' I' fe' fl v sm) ∧ KFr M q.2 c A A' Z Z' ∧ I' 4 = sr ∧ Ans b0 b1 (nxD lc n sh D) (mkp s0 lc) (mkp tg lc) q.1 (I' 1) (I' 2))
    (by omega) (fun fu t N hj hI => ?_) (fun fu N hI => ?_) M ⟨A, Z, I, fe, hX, KFr.refl _ _ _ _, hsr⟩
  · obtain ⟨⟨f, M'⟩, e, A', Z', I', fe', y1, y2, y3, y4⟩ := lp
    exact ⟨f, M', A', Z', I', fe', e, y1, y2, y3, y4⟩
  · obtain ⟨A', Z', I', fe', y1, y2, y3⟩ := hI
    obtain ⟨fl', v', sm', hK'⟩ := y1.ks
    have h0 := hK'.1
    have hLN := hLM.fr hC.2.2.2.2.2.1 hKM y2
    show (∃ s', f_X0_seek_b45 (fu + 1) c (nI b0) (nI b1) (nI t) N = f_X0_seek_b45 fu c (nI b0) (nI b1) (nI (t + 1)) s' ∧ _) ∨ ∃ r, f_X0_seek_b45 (fu + 1) c (nI b0) (nI b1) (nI t) N = some r ∧ _
    rw [f_X0_seek_b45, if_neg (show ¬ (20 : Int32) ≤ nI t from nI_ge (b := 20) hj (by omega)), ch_7 h0, Option.bind_some]
    by_cases hz : I' 0 = 0
    · rw [hz, if_pos (show nI 0 ≤ 0 by decide)]
      obtain ⟨f, e1, e2⟩ := k_ans hC y1 (fun fl v sm V fd _ hi => by rw [hz] at hi; exact sinv_end0 hi)
      exact Or.inr ⟨(f, N), e1, A', Z', I', fe', ⟨fl', v', sm', hK'⟩, y2, y3, e2⟩
    · have hm := hK'.2.2.2.2.2.2.2.1
      have hle : I' 0 ≤ Z' 2 := by obtain ⟨_, _, _, _, _, _, _, q, _⟩ := y1; exact q
      obtain ⟨M1, A1, Z1, I1, n', U, fe1, t1, t2, t3, t4, t5, t6, t7, t8, t9⟩ := k_take hC y1 (Nat.le_of_lt hj)
      have hLN1 := hLN.fr hC.2.2.2.2.2.1 hK' t7
      obtain ⟨M2, A2, Z2, I2, w1, w2, w3, w4⟩ := k_time (k45 := f_X0_seek_b45 fu) hC hJ0 hJ3 hLN1 t2 t3 t4 t5 t6 hj t8
      rw [nI_0] at w1
      rw [if_neg (nI_nle (by omega) (by omega)), ch_ob h0, Option.bind_some, t1, Option.bind_some]
      exact Or.inl ⟨M2, w1, A2, Z2, I2, fe1, w2, y2.trans (t7.trans w3), w4.trans (t9.trans y3)⟩
  · obtain ⟨A', Z', I', fe', y1, y2, y3⟩ := hI
    obtain ⟨fl', v', sm', hK'⟩ := y1.ks
    obtain ⟨f, e1, e2⟩ := k_ans hC y1 (fun fl v sm V fd _ hi => sinv_end hi)
    refine ⟨(f, N), ?_, A', Z', I', fe', ⟨fl', v', sm', hK'⟩, y2, y3, e2⟩
    show f_X0_seek_b45 (fu + 1) c (nI b0) (nI b1) (nI 20) N = some (f, N)
    rw [f_X0_seek_b45, if_pos (show (20 : Int32) ≤ nI 20 by decide)]
    exact e1
end KSK
