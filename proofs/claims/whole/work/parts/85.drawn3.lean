section STB
variable {M : zMe} {x : Nat} {A Z : Nat → Nat} {sr h d : Nat} {P : PS} {f : Nat → Option Nat} {tx : Nat → Int32} {fi : Nat → Option Nat}
theorem c_pL4 {tl : Int32} {ab be v : Int64} {cb cn cf : Int32} (hx : M.1 x = some (.inr (11, xo x h tl ab be cb cn cf))) : zpL M x [11] 4 v = some (zSet M x (.inr (11, xo x h tl v be cb cn cf))) := by
  simp [zpL, zp, hx, xo]
theorem c_pL5 {tl : Int32} {ab be v : Int64} {cb cn cf : Int32} (hx : M.1 x = some (.inr (11, xo x h tl ab be cb cn cf))) : zpL M x [11] 5 v = some (zSet M x (.inr (11, xo x h tl ab v cb cn cf))) := by
  simp [zpL, zp, hx, xo]
theorem lg_pos {g : Nat} (h0 : 0 < g) (hg : g < 2 ^ 63) : ¬ lg_cmp (lN g) 0 ≤ 0 := by
  have : lN g > 0 := (pk_lLT (a := 0) (b := g) (by decide) hg).mpr h0
  unfold lg_cmp
  rw [if_pos this]
  decide
/-- the fraction is kept -/
theorem c_keep (hc : CJ M x P A Z sr h d f tx fi) {u T : Nat} (hu : u < 2 ^ 63) (hT0 : 0 < T) (hT : T < 2 ^ 43) : ∃ M', f_X11_keepFraction x (lN u) (lN T) M = some M' ∧ CJ M' x (P.1, P.2.1, (lN (u / Nat.gcd T u), lN (T / Nat.gcd T u)), P.2.2.2.1, P.2.2.2.2) A Z sr h d f tx fi ∧ Mk M M' x ∧ M'.2 = M.2 := by
  have g0 : 0 < Nat.gcd T u := Nat.gcd_pos_of_pos_left u hT0
  have g1 : Nat.gcd T u ≤ T := Nat.le_of_dvd hT0 (Nat.gcd_dvd_left T u)
  have hcd : f_X11_commonDivisor (lN u) (lN T) M = some (lN (Nat.gcd T u), M) := by
    rw [f_X11_commonDivisor, Nat.gcd_comm T u]
    exact c_gcd M 43 u T 0 zfu hT (by omega) hu (by omega) (by omega) (by unfold zfu; omega)
  have z : ¬ lN (Nat.gcd T u) = 0 := by rw [lN_0 (by omega)]; omega
  have hL := hc.2.2.2.2.2.2.1
  have c1 := hc.setx hL (lN (u / Nat.gcd T u), P.2.2.1.2) P.2.2.2.1
  have c2 := c1.setx hL (lN (u / Nat.gcd T u), lN (T / Nat.gcd T u)) P.2.2.2.1
  refine ⟨_, ?_, c2, (Mk.setx _ _ _).trans (Mk.setx _ _ _), rfl⟩
  rw [f_X11_keepFraction, hcd, Option.bind_some, if_neg (lg_pos g0 (by omega)), if_neg z, pk_lDiv hu g0 (by omega), pk_lDiv (by omega) g0 (by omega), c_pL4 hc.1, Option.bind_some, if_neg z, c_pL5 c1.1, Option.bind_some, f_X11_keepFraction_b30]
theorem S_drawn (hc : CJ M x P A Z sr h d f tx fi) (v w y : Int32) : St M x P A Z sr (f_X11_drawn x v w y) (f_X12_drawn (x + 31) v w y) := by
  have hl := hc.hl
  have hW := hl.2.1
  have hnd := hW.nd
  have hn5 := hW.n5
  have hn2 := hW.n2
  have hgo := hW.go
  have hg := c_g hl.1
  have cb : f_X11_drawn_b35 x M = some (-2, zSet M x (.inr (11, xo x h (nI P.2.1) P.2.2.1.1 P.2.2.1.2 (P.2.2.2.1 0 + 1) (P.2.2.2.1 1) (P.2.2.2.1 2)))) := by
    rw [f_X11_drawn_b35, c_obx hc.1, Option.bind_some, c_bad hc.1, Option.bind_some]
  have mb : ∀ N sc lg ar en, f_X12_drawn_b28 (x + 31) (mmk N (x + 31) sc lg ar en) = some (-2, mmk N (x + 31) sc lg (mref ar 0) en) := fun N sc lg ar en => by
    rw [f_X12_drawn_b28, mm_ob, Option.bind_some, m_bad, Option.bind_some]
  rcases zin_case (n := P.1 6) (by omega) v with ⟨z1, z2⟩ | ⟨k, k1, rfl⟩
  · refine St.bad hc (r := -2) ?_ (fun N sc lg ar en hm => ?_)
    · rw [f_X11_drawn, c_h hc.1, Option.bind_some, c_obh hl.1, Option.bind_some, c_dogAt_no hl.1 z2, Option.bind_some, zcase]
      exact cb
    · rw [f_X12_drawn, mm_ob, Option.bind_some, m_isDog, Option.bind_some, hm.1 6 (by omega), z1, if_pos rfl]
      exact mb _ _ _ _ _
  obtain ⟨a, a1, a2⟩ := hc.dogs k k1
  rcases zin_r (a := 0) (b := 12) (by omega) (by omega) w with ⟨z1, z2⟩ | ⟨s, -, s2, rfl⟩
  · refine St.bad hc (r := -2) ?_ (fun N sc lg ar en hm => ?_)
    · rw [f_X11_drawn, c_h hc.1, Option.bind_some, c_obh hl.1, Option.bind_some, c_dogAt_ok hl.1 hl.2.2.1 hnd k1, Option.bind_some, a1, zcase]
      by_cases hw1 : w < 0
      · rw [if_pos hw1]; exact cb
      · rcases z2 with z2 | z2
        · exact absurd z2 hw1
        · rw [if_neg hw1, if_pos (show (12 : Int32) < w from z2)]
          exact cb
    · have z1 : zin w 0 12 = 0 := z1
      rw [f_X12_drawn, mm_ob, Option.bind_some, m_isDog, Option.bind_some, hm.1 6 (by omega), zin_n (by omega) k1, if_neg one0, m_in, Option.bind_some, z1, if_pos rfl]
      exact mb _ _ _ _ _
  have zs : zin (nI s) 0 12 = 1 := zin_k (a := 0) (b := 12) (by omega) (by omega) s2
  have s0 : ¬ nI s < 0 := nI_pos (by omega)
  have s3 : ¬ (12 : Int32) < nI s := nI_nlt (a := 12) s2 (by omega)
  rcases zin_r (a := 0) (b := 10) (by omega) (by omega) y with ⟨z1, z2⟩ | ⟨r, -, y2, rfl⟩
  · refine St.bad hc (r := -2) ?_ (fun N sc lg ar en hm => ?_)
    · rw [f_X11_drawn, c_h hc.1, Option.bind_some, c_obh hl.1, Option.bind_some, c_dogAt_ok hl.1 hl.2.2.1 hnd k1, Option.bind_some, a1, zcase, if_neg s0, if_neg s3]
      by_cases hy : y < 0
      · rw [if_pos hy]; exact cb
      · rcases z2 with z2 | z2
        · exact absurd z2 hy
        · rw [if_neg hy, if_neg (show ¬ y ≤ 10 from fun q => by
            rw [Int32.le_iff_toInt_le] at q
            rw [Int32.lt_iff_toInt_lt] at z2
            have e : (nI 10).toInt = (10 : Int32).toInt := rfl
            omega)]
          exact cb
    · have z1 : zin y 0 10 = 0 := z1
      rw [f_X12_drawn, mm_ob, Option.bind_some, m_isDog, Option.bind_some, hm.1 6 (by omega), zin_n (by omega) k1, if_neg one0, m_in, Option.bind_some, zs, if_neg one0, m_in, Option.bind_some, z1, if_pos rfl]
      exact mb _ _ _ _ _
  have zy : zin (nI r) 0 10 = 1 := zin_k (a := 0) (b := 10) (by omega) (by omega) y2
  have h10 := p10_lt s2
  have hT1 : P.1 0 * 10 ^ s ≤ 5 * 1000000000000 := Nat.mul_le_mul hn5 h10
  have hT0 : 0 < P.1 0 * 10 ^ s := Nat.mul_pos (by omega) (Nat.pos_of_ne_zero (fun z => by simp at z))
  have hnu : nuz P.1 k s r ≤ P.1 0 * 10 ^ s := sE_le _ (fun p hp => by rw [Nat.one_mul]; exact enz_le y2 _ _ _ _ _)
  obtain ⟨u0, w6⟩ := hc.wk.2.2.2.2.2.1
  obtain ⟨v0, w7⟩ := hc.wk.2.2.2.2.2.2.1
  have es : dmk M (x + 29) u0 v0 = M := dm_self w6 w7
  obtain ⟨u1, f1, f2⟩ := dm_fill0 (M := M) (a := x + 29) (f := u0) (g := v0) (1 : Int64)
  rw [es] at f1
  -- the class
  have cl : ∃ M', f_X11_drawn_b63 zfu x (nI s) (nI r) a (lN (P.1 0)) 0 (dmk M (x + 29) u1 v0) = some (1, M') ∧ CJ M' x (P.1, P.2.1, (lN (nuz P.1 k s r / Nat.gcd (P.1 0 * 10 ^ s) (nuz P.1 k s r)), lN (P.1 0 * 10 ^ s / Nat.gcd (P.1 0 * 10 ^ s) (nuz P.1 k s r))), P.2.2.2.1, P.2.2.2.2) A Z sr h d f tx fi ∧ Mk M M' x ∧ M'.2 = M.2 := by
    have lp := loopX (S := (Nat → Nat) × (Nat → Int64) × (Nat → Int64)) (R := Option (Int32 × zMe)) (fun fuel t q => f_X11_drawn_b63 fuel x (nI s) (nI r) a (lN (P.1 0 * 10 ^ t)) (nI t) (dmk M (x + 29) q.2.1 q.2.2)) s (fun t q => (∀ p, p < 5 → q.2.1 p = lN (q.1 p)) ∧ sE q.1 (enz (gog (P.1 1) (dg P.1 k)) r (P.1 2) s (s - t)) (P.1 0) = nuz P.1 k s r) (fun Q => ∃ M', Q = some (1, M') ∧ CJ M' x (P.1, P.2.1, (lN (nuz P.1 k s r / Nat.gcd (P.1 0 * 10 ^ s) (nuz P.1 k s r)), lN (P.1 0 * 10 ^ s / Nat.gcd (P.1 0 * 10 ^ s) (nuz P.1 k s r))), P.2.2.2.1, P.2.2.2.2) A Z sr h d f tx fi ∧ Mk M M' x ∧ M'.2 = M.2) (by omega) (fun fu t q hj hI => Or.inl ?_) (fun fu q hI => ?_) (fun _ => 1, u1, v0) ⟨fun p hp => f2 p hp, rfl⟩
    · have lp : ∃ M', f_X11_drawn_b63 zfu x (nI s) (nI r) a (lN (P.1 0 * 10 ^ 0)) (nI 0) (dmk M (x + 29) u1 v0) = some (1, M') ∧ _ := lp
      rw [Nat.pow_zero, Nat.mul_one] at lp
      exact lp
    · obtain ⟨wf, u, g⟩ := q
      obtain ⟨i1, i2⟩ := hI
      obtain ⟨u', v', wf', d1, d2, d3⟩ := c_drawOne hc k1 a1 (t := t) (r := r) (by omega) y2 (u := u) (v := g) i1
      have cg := (hc.draws u g).1
      refine ⟨(wf', u', v'), ?_, d2, ?_⟩
      · show f_X11_drawn_b63 (fu + 1) x (nI s) (nI r) a (lN (P.1 0 * 10 ^ t)) (nI t) (dmk M (x + 29) u g) = f_X11_drawn_b63 fu x (nI s) (nI r) a (lN (P.1 0 * 10 ^ (t + 1))) (nI (t + 1)) (dmk M (x + 29) u' v')
        rw [f_X11_drawn_b63, if_neg (nI_ge hj (by omega)), c_obx cg.1, Option.bind_some, d1, Option.bind_some, show lN (P.1 0 * 10 ^ t) * (10 : Int64) = lN (P.1 0 * 10 ^ t * 10) from lN_mul _ 10, zlet, zlet, nI_1, Nat.pow_succ, Nat.mul_assoc]
      · show sE wf' (enz (gog (P.1 1) (dg P.1 k)) r (P.1 2) s (s - (t + 1))) (P.1 0) = _
        have i2 : sE wf (enz (gog (P.1 1) (dg P.1 k)) r (P.1 2) s (s - t)) (P.1 0) = nuz P.1 k s r := i2
        rw [d3, ← i2]
        exact sE_cong _ (fun _ _ => rfl) (fun p _ => (enz_s _ _ _ hj p).symm)
    · obtain ⟨wf, u, g⟩ := q
      obtain ⟨i1, i2⟩ := hI
      have i1 : ∀ p, p < 5 → u p = lN (wf p) := i1
      have i2 : sE wf (enz (gog (P.1 1) (dg P.1 k)) r (P.1 2) s (s - s)) (P.1 0) = nuz P.1 k s r := i2
      have ew : wf (P.1 2) = nuz P.1 k s r := by
        rw [← i2, Nat.sub_self]
        have := sE_pick wf (P.1 2) (P.1 0)
        rw [if_pos hgo] at this
        exact this.symm
      obtain ⟨cg, mg⟩ := hc.draws u g
      have hgg := c_g cg.hl.1
      obtain ⟨M', b1, b2, b3, b4⟩ := c_keep cg (u := nuz P.1 k s r) (T := P.1 0 * 10 ^ s) (by omega) hT0 (by omega)
      refine ⟨M', ?_, b2, mg.trans b3, b4⟩
      show f_X11_drawn_b63 (fu + 1) x (nI s) (nI r) a (lN (P.1 0 * 10 ^ s)) (nI s) (dmk M (x + 29) u g) = _
      have pl : f_X2_isPlace h (nI (P.1 2)) (dmk M (x + 29) u g) = some (1, dmk M (x + 29) u g) := by
        rw [c_isPlace cg.hl.1]
        show some (cpl (nI (P.1 0)) (nI (P.1 2)), dmk M (x + 29) u g) = _
        rw [cpl_ok hgo (by omega)]
      rw [f_X11_drawn_b63, if_pos (nI_le (Nat.le_refl _) (by omega)), c_h cg.1, Option.bind_some, Option.bind_some, hgg.2.2.1, Option.bind_some, c_obh cg.hl.1, Option.bind_some, pl, Option.bind_some, if_neg one0, cg.g12, Option.bind_some, c_h cg.1, Option.bind_some, hgg.2.2.1, Option.bind_some, dm_r0 (by omega), Option.bind_some, i1 _ (by omega), ew, f_X11_drawn_b126, c_obx cg.1, Option.bind_some, b1, Option.bind_some]
  obtain ⟨M', e1, e2, e3, e4⟩ := cl
  refine ⟨1, M', _, A, Z, sr, ?_, e2.ci, e3, ?_, fun N sc lg ar en hm => ?_⟩
  · rw [f_X11_drawn, c_h hc.1, Option.bind_some, c_obh hl.1, Option.bind_some, c_dogAt_ok hl.1 hl.2.2.1 hnd k1, Option.bind_some, a1, zcase, if_neg s0, if_neg s3, if_neg (nI_pos (by omega)), if_pos (show nI r ≤ 10 from nI_le (b := 10) y2 (by omega)), c_h hc.1, Option.bind_some, hg.1, Option.bind_some, hc.g12, Option.bind_some, f1, Option.bind_some, n_toL (P.1 0) (by omega)]
    exact e1
  · unfold RmK
    rw [e4]
    exact ⟨by omega, by omega, by omega⟩
  · obtain ⟨en', u2⟩ := m_drawn (N := N) (m := x + 31) (sc := sc) (lg := lg) (en := en) hm.1 hW k1 s2 y2
    refine ⟨sc, vp_updL (vp_updL lg 0 (lN (nuz P.1 k s r / Nat.gcd (P.1 0 * 10 ^ s) (nuz P.1 k s r)))) 1 (lN (P.1 0 * 10 ^ s / Nat.gcd (P.1 0 * 10 ^ s) (nuz P.1 k s r))), ar, en', ?_, ?_⟩
    · rw [f_X12_drawn, mm_ob, Option.bind_some, m_isDog, Option.bind_some, hm.1 6 (by omega), zin_n (by omega) k1, if_neg one0, m_in, Option.bind_some, zs, if_neg one0, m_in, Option.bind_some, zy, if_neg one0]
      exact u2
    · obtain ⟨h1, h2, h3, h4, h5, h6, h7, h8, h9, h10, h11, h12⟩ := hm
      exact ⟨h1, h2, h3, h4, by rw [uL_n _ _ (by decide), uL_s], by rw [uL_s], h7, h8, h9, h10, h11, h12⟩
end STB
