section KT
variable {lc n sh b0 b1 : Nat} {D : Nat → Nat → Nat} {s0 tg : Nat → Nat} {J : Nat → Nat} {M : zMe} {c t : Nat} {A Z I : Nat → Nat} {fe : Nat → Int64}
def swp (A : Nat → Nat) : Nat → Nat := fun i => if i = 1 then A 2 else if i = 2 then A 1 else A i
theorem KS.swap {fl : Nat → Int64} {v : Nat → Nat} {sm : Nat → Option Nat} (h : KS M c J A Z I fe fl v sm) : KS (zSet M c (.inr (0, chF c (A 2) (A 1) (J 0) (J 1) (J 2) (I 0) (J 3) (I 1) (I 2)))) c J (swp A) (swp Z) I fl fe v sm := by
  obtain ⟨k0, k1, k2, k3, k4, k5, k6, k7, k8, k9, k10⟩ := h
  have n0 := (k9 0 (by omega)).1
  have n1 := (k9 1 (by omega)).1
  have n2 := (k9 2 (by omega)).1
  refine ⟨zS_s _ _ _, ?_, ?_, ?_, k4, fun i hi => ?_, k7, k6, ⟨k8.2.1, k8.1, Ne.symm k8.2.2⟩, fun i hi => ?_, k10⟩
  · show (zSet M c _).1 (A 2) = some (lgA (Z 2) fl)
    rw [zS_n _ _ (by omega)]; exact k2
  · show (zSet M c _).1 (A 1) = some (lgA (Z 1) fe)
    rw [zS_n _ _ (by omega)]; exact k1
  · exact k3.kept (zS_n _ _ (by omega)) (zS_n _ _ (show A 0 ≠ c by omega)) (Nat.le_refl _)
  · rcases (show i = 0 ∨ i = 1 ∨ i = 2 by omega) with rfl | rfl | rfl
    · exact k5 0 (by omega)
    · exact k5 2 (by omega)
    · exact k5 1 (by omega)
  · rcases (show i = 0 ∨ i = 1 ∨ i = 2 by omega) with rfl | rfl | rfl
    · exact k9 0 (by omega)
    · exact k9 2 (by omega)
    · exact k9 1 (by omega)
theorem KFr.swap (h : c < M.2.1) (e : zEn) : KFr M (zSet M c e) c A (swp A) Z (swp Z) := by
  refine ⟨Nat.le_refl _, fun p p1 p2 p3 p4 => zS_n _ _ p2, fun hf p hp => ?_, ?_, ?_, fun i hi => ?_⟩
  · have hp' : M.2.1 ≤ p := hp
    rw [zS_n _ _ (by omega)]
    exact hf p hp'
  · show M.2.1 + (Z 0 + Z 1 + Z 2) ≤ M.2.1 + (Z 0 + Z 2 + Z 1)
    omega
  · show M.2.2 + 2 * (Z 0 + Z 1 + Z 2) ≤ M.2.2 + 2 * (Z 0 + Z 2 + Z 1)
    omega
  · rcases (show i = 0 ∨ i = 1 ∨ i = 2 by omega) with rfl | rfl | rfl
    · exact Or.inl ⟨0, by omega, rfl⟩
    · exact Or.inl ⟨2, by omega, rfl⟩
    · exact Or.inl ⟨1, by omega, rfl⟩
theorem k_take (hC : CX lc n sh (J 2) b0 b1 D s0 tg) (hX : KX b0 b1 (nxD lc n sh D) (mkp s0 lc) (mkp tg lc) J M c t (2 ^ t) A Z I fe) (ht : t ≤ 20) : ∃ M' A' Z' I' n' U fe', f_X0_takeLater c (nI t) M = some (nI n', M') ∧ KX b0 b1 (nxD lc n sh D) (mkp s0 lc) (mkp tg lc) J M' c (t + 1) 0 A' Z' I' fe' ∧ EInv b0 b1 (nxD lc n sh D) (mkp s0 lc) (mkp tg lc) t n' U ∧ (∀ k, k < n' → fe' k = lN (enc (pkr (nxD lc n sh D) (mkp s0 lc) (U k) t) (U k) (cst b0 b1 (U k) t))) ∧ n' ≤ Z' 1 ∧ n' ≤ 32768 ∧ KFr M M' c A A' Z Z' ∧ I' 0 = 0 ∧ I' 4 = I 4 := by
  obtain ⟨fl, v, sm, V, fd, hK, x1, x2, x3, x4, x5⟩ := hX
  have hc14 := hK.2.2.2.2.2.2.2.2.2.2
  have hP2 := (hK.2.2.2.2.2.1 2 (by omega)).lt
  have hZ2 := hK.2.2.2.2.2.2.2.1
  have hP0 := (hK.2.2.2.2.2.1 0 (by omega)).lt
  have hu3 := hK.2.2.2.2.1
  have h0 := hK.1
  have hS := hK.swap
  obtain ⟨M1, hM1⟩ : ∃ M1, M1 = zSet M c (.inr (0, chF c (A 2) (A 1) (J 0) (J 1) (J 2) (I 0) (J 3) (I 1) (I 2))) := ⟨_, rfl⟩
  rw [← hM1] at hS
  have hF1 : KFr M M1 c A (swp A) Z (swp Z) := by rw [hM1]; exact KFr.swap (by omega) _
  have hVu : ∀ k, k < I 0 → V k < 1048576 := fun k hk => Nat.lt_of_lt_of_le (x5.1 k hk).1 (p2b ht)
  have start : f_X0_takeLater c (nI t) M = f_X0_takeLater_b23 zfu c (nI t) 0 0 M1 := by
    have e2 : zpR (zSet M c (.inr (0, chF c (A 2) (A 2) (J 0) (J 1) (J 2) (I 0) (J 3) (I 1) (I 2)))) c [0] 6 (some (A 1)) = some M1 := by
      rw [ch_p6 (zS_s _ _ _), zSS, hM1]
    rw [f_X0_takeLater, ch_5 h0, Option.bind_some, ch_6 h0, Option.bind_some, ch_p5 h0, Option.bind_some, e2, Option.bind_some]
  -- the loop
  have lp := loopC (S := Nat × zMe) (S' := Nat × zMe) (R := Option (Int32 × zMe)) (fun fuel j s => f_X0_takeLater_b23 fuel c (nI t) (nI s.1) (nI j) s.2) (fun s => some (nI s.1, s.2)) (I 0)
    (fun j s => ∃ (ix : Nat → Nat) (fj : Nat → Int64), s.1 ≤ j ∧ KS s.2 c J (swp A) (swp Z) I fj fe v sm ∧ KFr M s.2 c A (swp A) Z (swp Z) ∧ (∀ k, k < s.1 → fj k = fl (ix k)) ∧ (∀ k, j ≤ k → fj k = fl k) ∧ (∀ k, k < s.1 → ix k < j ∧ Kp b0 b1 (nxD lc n sh D) (mkp s0 lc) (J 2) t V sm (ix k)) ∧ (∀ a b, a < b → b < s.1 → ix a < ix b) ∧ (∀ q, q < j → Kp b0 b1 (nxD lc n sh D) (mkp s0 lc) (J 2) t V sm q → ∃ k, k < s.1 ∧ ix k = q))
    (fun s => ∃ (ix : Nat → Nat) (fj : Nat → Int64), s.1 ≤ I 0 ∧ KS s.2 c J (swp A) (swp Z) (upN I 0 0) fj fe v sm ∧ KFr M s.2 c A (swp A) Z (swp Z) ∧ (∀ k, k < s.1 → fj k = fl (ix k)) ∧ (∀ k, k < s.1 → ix k < I 0 ∧ Kp b0 b1 (nxD lc n sh D) (mkp s0 lc) (J 2) t V sm (ix k)) ∧ (∀ a b, a < b → b < s.1 → ix a < ix b) ∧ (∀ q, q < I 0 → Kp b0 b1 (nxD lc n sh D) (mkp s0 lc) (J 2) t V sm q → ∃ k, k < s.1 ∧ ix k = q))
    (by omega) (fun fu j s hj hI => ?_) (fun fu s hI => ?_) (0, M1) ⟨fun _ => 0, fl, Nat.zero_le _, hS, hF1, fun k hk => absurd hk (by show ¬ k < 0; omega), fun k _ => rfl, fun k hk => absurd hk (by show ¬ k < 0; omega), fun a b _ hb => absurd hb (by show ¬ b < 0; omega), fun q hq => absurd hq (by omega)⟩
  · obtain ⟨⟨n', M'⟩, e, ix, fj, y1, y2, y3, y4, y5, y6, y7⟩ := lp
    have e' : f_X0_takeLater_b23 zfu c (nI t) (nI 0) (nI 0) M1 = some (nI n', M') := e
    rw [nI_0] at e'
    have hE := einv_of hC.alk x5 y5 y6 y7
    refine ⟨M', swp A, swp Z, upN I 0 0, n', fun k => V (ix k), fj, by rw [start]; exact e', ⟨fe, v, sm, V, fd, y2, fun k hk => absurd hk (by show ¬ k < 0; omega), Nat.zero_le _, x3, x4, sinv_next x5 _⟩, hE, fun k hk => by rw [y4 k hk, x1 _ (y5 k hk).1], by show n' ≤ Z 2; have : n' ≤ I 0 := y1; omega, ?_, y3, rfl, rfl⟩
    by_cases ht3 : 3 ≤ t
    · refine pigeon 32768 n' (fun k => pkr (nxD lc n sh D) (mkp s0 lc) (V (ix k)) t) (fun k _ => (hC.st _ _).1) (fun a b hab hb => hE.2.2.1 ht3 a b hab hb)
    · have hp := pigeon (2 ^ t) n' (fun k => rvs (V (ix k)) t) (fun k _ => rvs_lt _ _) (fun a b hab hb => Nat.ne_of_lt (hE.2.1 a b hab hb))
      have : (2 : Nat) ^ t ≤ 2 ^ 3 := p2b (by omega)
      omega
  · obtain ⟨n', N⟩ := s
    obtain ⟨ix, fj, y1, y2, y3, y4, y5, y6, y7, y8⟩ := hI
    have y1 : n' ≤ j := y1
    have y2 : KS N c J (swp A) (swp Z) I fj fe v sm := y2
    have y4 : ∀ k, k < n' → fj k = fl (ix k) := y4
    have y6 : ∀ k, k < n' → ix k < j ∧ Kp b0 b1 (nxD lc n sh D) (mkp s0 lc) (J 2) t V sm (ix k) := y6
    have y7 : ∀ a b, a < b → b < n' → ix a < ix b := y7
    have y8 : ∀ q, q < j → Kp b0 b1 (nxD lc n sh D) (mkp s0 lc) (J 2) t V sm q → ∃ k, k < n' ∧ ix k = q := y8
    have g0 := y2.1
    have g1 : N.1 (A 2) = some (lgA (Z 2) fj) := y2.2.1
    have g9 := y2.2.2.2.2.2.2.2.2.2.1 1 (by omega)
    have g9' : A 2 < N.2.1 := g9.2
    have hz : j < Z 2 := by omega
    have rd : zrL N (A 2) (nI j) = some (lN (enc (pkr (nxD lc n sh D) (mkp s0 lc) (V j) t) (V j) (cst b0 b1 (V j) t))) := by rw [rL_at g1 hz (by omega), y5 j (Nat.le_refl _), x1 j hj]
    -- kept
    have keep : Kp b0 b1 (nxD lc n sh D) (mkp s0 lc) (J 2) t V sm j → ∃ s' : Nat × zMe, f_X0_takeLater_b81 (f_X0_takeLater_b23 fu) c (nI t) (nI n') (nI j) (lN (enc (pkr (nxD lc n sh D) (mkp s0 lc) (V j) t) (V j) (cst b0 b1 (V j) t))) N = f_X0_takeLater_b23 fu c (nI t) (nI s'.1) (nI (j + 1)) s'.2 ∧ ∃ (ix : Nat → Nat) (fj : Nat → Int64), s'.1 ≤ j + 1 ∧ KS s'.2 c J (swp A) (swp Z) I fj fe v sm ∧ KFr M s'.2 c A (swp A) Z (swp Z) ∧ (∀ k, k < s'.1 → fj k = fl (ix k)) ∧ (∀ k, j + 1 ≤ k → fj k = fl k) ∧ (∀ k, k < s'.1 → ix k < j + 1 ∧ Kp b0 b1 (nxD lc n sh D) (mkp s0 lc) (J 2) t V sm (ix k)) ∧ (∀ a b, a < b → b < s'.1 → ix a < ix b) ∧ (∀ q, q < j + 1 → Kp b0 b1 (nxD lc n sh D) (mkp s0 lc) (J 2) t V sm q → ∃ k, k < s'.1 ∧ ix k = q) := by
      intro hkp
      have hw := wL_at (x := lN (enc (pkr (nxD lc n sh D) (mkp s0 lc) (V j) t) (V j) (cst b0 b1 (V j) t))) g1 (show n' < Z 2 by omega) (by omega)
      refine ⟨(n' + 1, zSet N (A 2) (lgA (Z 2) (vp_updL fj n' (lN (enc (pkr (nxD lc n sh D) (mkp s0 lc) (V j) t) (V j) (cst b0 b1 (V j) t)))))), ?_, upN ix n' j, vp_updL fj n' (lN (enc (pkr (nxD lc n sh D) (mkp s0 lc) (V j) t) (V j) (cst b0 b1 (V j) t))), by show n' + 1 ≤ j + 1; omega, y2.ents _, y3.trans (KFr.set _ (Or.inr (Or.inr ⟨1, by omega, rfl⟩)) g9'), fun k hk => ?_, fun k hk => ?_, fun k hk => ?_, fun a b hab hb => ?_, fun q hq hkq => ?_⟩
      · have g5 : zgN N c [0] 5 = some (A 2) := ch_5 g0
        rw [f_X0_takeLater_b81, g5, Option.bind_some, hw, Option.bind_some, zlet, f_X0_takeLater_b92, zlet, nI_1, nI_1]
      · have hk' : k < n' + 1 := hk
        by_cases ek : k = n'
        · rw [ek, pk_uLs, upN_s, x1 j hj]
        · rw [pk_uLn ek, upN_n _ _ ek]; exact y4 k (by omega)
      · rw [pk_uLn (by omega)]; exact y5 k (by omega)
      · have hk' : k < n' + 1 := hk
        by_cases ek : k = n'
        · rw [ek, upN_s]; exact ⟨by omega, hkp⟩
        · rw [upN_n _ _ ek]
          have := y6 k (by omega)
          exact ⟨by omega, this.2⟩
      · have hb' : b < n' + 1 := hb
        by_cases eb : b = n'
        · rw [eb, upN_s, upN_n _ _ (by omega)]; exact (y6 a (by omega)).1
        · rw [upN_n _ _ eb, upN_n _ _ (by omega)]; exact y7 a b hab (by omega)
      · by_cases eq : q = j
        · exact ⟨n', by show n' < n' + 1; omega, by rw [upN_s, eq]⟩
        · obtain ⟨k, q1, q2⟩ := y8 q (by omega) hkq
          exact ⟨k, by show k < n' + 1; omega, by rw [upN_n _ _ (by omega)]; exact q2⟩
    have g7 := ch_7 g0
    have g5 : zgN N c [0] 5 = some (A 2) := ch_5 g0
    show ∃ s' : Nat × zMe, f_X0_takeLater_b23 (fu + 1) c (nI t) (nI n') (nI j) N = f_X0_takeLater_b23 fu c (nI t) (nI s'.1) (nI (j + 1)) s'.2 ∧ _
    rw [f_X0_takeLater_b23, g7, Option.bind_some, if_neg (nI_ge hj (by omega)), g5, Option.bind_some, ln_at g1, Option.bind_some, if_neg (nI_ge hz (by omega)), Option.bind_some, rd, Option.bind_some]
    by_cases ht3 : t < 3
    · rw [if_pos (show nI t < 3 from nI_lt (b := 3) ht3 (by omega))]
      exact keep (Or.inl ht3)
    · obtain ⟨b, b1', b2'⟩ := x5.2.2.2.2.1 (by omega) j hj
      have hst := (hC.st (V j) t).1
      have hcs := hC.cs (V j) ht
      have hky : ky (J 2) t (pkr (nxD lc n sh D) (mkp s0 lc) (V j) t) < 65536 := by
        have := hC.2.2.2.2.2.2.2.1
        unfold ky
        split <;> omega
      have hl := y2.2.2.2.1.least (show I 3 < Z 0 by omega) hky
      have hl' : f_X8_leastFor (c + 14) (nI (ky (J 2) t (pkr (nxD lc n sh D) (mkp s0 lc) (V j) t))) N = some (nI b, N) := by
        rw [hl, b1']
      rw [if_neg (show ¬ nI t < 3 from nI_nlt (b := 3) (by omega) (by omega)), enc_b hst (hVu j hj) (by omega), Option.bind_some, ch_1 g0, Option.bind_some, enc_p hst, Option.bind_some, ch_ob g0, Option.bind_some, k_key g0 hC.2.2.2.2.2.2.2.1 (by omega), Option.bind_some, se_ob y2.2.2.2.1.1, Option.bind_some, hl', Option.bind_some]
      by_cases hc : cst b0 b1 (V j) t ≤ b
      · rw [if_neg (show ¬ nI b < nI (cst b0 b1 (V j) t) from nI_nlt hc (by omega))]
        exact keep (Or.inr ⟨b, b1', hc⟩)
      · rw [if_pos (show nI b < nI (cst b0 b1 (V j) t) from nI_lt (by omega) (by omega)), f_X0_takeLater_b92, zlet, nI_1]
        refine ⟨(n', N), rfl, ix, fj, by show n' ≤ j + 1; omega, y2, y3, y4, fun k hk => y5 k (by omega), fun k hk => ⟨Nat.lt_succ_of_lt (y6 k hk).1, (y6 k hk).2⟩, y7, fun q hq hkq => ?_⟩
        by_cases eq : q = j
        · subst eq
          rcases hkq with hh | ⟨b', c1, c2⟩
          · omega
          · rw [b1'] at c1
            cases c1
            omega
        · exact y8 q (by omega) hkq
  · obtain ⟨n', N⟩ := s
    obtain ⟨ix, fj, y1, y2, y3, y4, y5, y6, y7, y8⟩ := hI
    have y2 : KS N c J (swp A) (swp Z) I fj fe v sm := y2
    have g0 := y2.1
    have hcN := y2.2.2.2.2.2.2.2.2.2.2
    refine ⟨(n', zSet N c (.inr (0, chF c (swp A 1) (swp A 2) (J 0) (J 1) (J 2) 0 (J 3) (I 1) (I 2)))), ?_, ix, fj, y1, y2.obj (J' := J) (I' := upN I 0 0) rfl rfl, y3.trans (KFr.set _ (Or.inl rfl) (by show c < N.2.1; omega)), y4, y6, y7, y8⟩
    show f_X0_takeLater_b23 (fu + 1) c (nI t) (nI n') (nI (I 0)) N = _
    rw [f_X0_takeLater_b23, ch_7 g0, Option.bind_some, if_pos (nI_le (Nat.le_refl _) (by omega)), f_X0_takeLater_b98, show (0 : Int32) = nI 0 from rfl, ch_p7 g0, Option.bind_some]
end KT
