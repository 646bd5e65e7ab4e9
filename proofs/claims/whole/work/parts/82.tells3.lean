section ST9
variable {M : zMe} {x : Nat} {A Z : Nat → Nat} {sr h d : Nat} {P : PS} {f : Nat → Option Nat} {tx : Nat → Int32} {fi : Nat → Option Nat}
theorem CJ.teller (hc : CJ M x P A Z sr h d f tx fi) (v : Int32) (g : Nat → Int32) : CJ (tmk M (x + 27) v g) x P A Z sr h d f tx fi ∧ Mk M (tmk M (x + 27) v g) x := by
  have hw := hc.wk
  have hm := hc.m44
  have ho : ∀ q, (q < x + 27 ∨ x + 28 < q) → (tmk M (x + 27) v g).1 q = M.1 q := fun q hq => tm_out (by omega)
  have hf : WFr M (tmk M (x + 27) v g) x A := ⟨Nat.le_refl _, fun q q1 q2 q3 q4 => ho q (by omega), fun hf q hq => by
    have hq' : M.2.1 ≤ q := hq
    rw [ho q (by omega)]
    exact hf q hq'⟩
  refine ⟨hc.work hf ?_, hf.mk hw hm⟩
  obtain ⟨⟨J, I, fe, fl, fs, u, r0, r1, r2, r3, r4, r5⟩, w2, w3, w4, w5, w6, w7, w8⟩ := hw
  have a0 := w8 0 (by omega)
  have a1 := w8 1 (by omega)
  have a2 := w8 2 (by omega)
  refine ⟨⟨J, I, fe, fl, fs, u, ?_, ?_, ?_, ?_, ?_, r5⟩, w2.kept (fun q a b => ho q (by omega)), w3.kept (fun q a b => ho q (by omega)), ⟨v, tm_0⟩, ⟨g, tm_1⟩, ?_, ?_, w8⟩
  · rw [ho _ (by omega)]; exact r0
  · rw [ho _ (by omega)]; exact r1
  · rw [ho _ (by omega)]; exact r2
  · rw [ho _ (by omega)]; exact r3
  · rw [ho _ (by omega)]; exact r4
  · rw [ho _ (by omega)]; exact w6
  · rw [ho _ (by omega)]; exact w7
theorem nle2 {y : Int32} (h : nI 2 < y) : ¬ y ≤ 2 := fun k => by
  rw [Int32.le_iff_toInt_le] at k
  rw [Int32.lt_iff_toInt_lt] at h
  have e : (nI 2).toInt = (2 : Int32).toInt := rfl
  omega
theorem S_tells (hc : CJ M x P A Z sr h d f tx fi) (v w y : Int32) : St M x P A Z sr (f_X11_tells x v w y) (f_X12_tells (x + 31) v w y) := by
  have hl := hc.hl
  have hW := hl.2.1
  have hnd := hW.nd
  have hn5 := hW.n5
  have hn2 := hW.n2
  have hs32 := hW.sh32
  have hba := hW.ba
  have h32 := p2_32 hn5
  have hpos : 2 ≤ 2 ^ P.1 0 := Nat.le_trans (by decide) (Nat.pow_le_pow_right (n := 2) (by decide) (show 1 ≤ P.1 0 by omega))
  have hg := c_g hl.1
  have cb : f_X11_tells_b40 x M = some (-10, zSet M x (.inr (11, xo x h (nI P.2.1) P.2.2.1.1 P.2.2.1.2 (P.2.2.2.1 0 + 1) (P.2.2.2.1 1) (P.2.2.2.1 2)))) := by
    rw [f_X11_tells_b40, c_obx hc.1, Option.bind_some, c_bad hc.1, Option.bind_some]
  have mb : ∀ N sc lg ar en, f_X12_tells_b35 (x + 31) (mmk N (x + 31) sc lg ar en) = some (-10, mmk N (x + 31) sc lg (mref ar 0) en) := fun N sc lg ar en => by
    rw [f_X12_tells_b35, mm_ob, Option.bind_some, m_ref0, Option.bind_some]
  have call : f_X2_allPlaces h M = some (nI (2 ^ P.1 0 - 1), M) := by
    rw [c_all hl.1]
    show some (((1 : Int32) <<< (nI (P.1 0) &&& 31)) - 1, M) = _
    rw [n_allP hn5]
  rcases zin_case (n := P.1 6) (by omega) v with ⟨z1, z2⟩ | ⟨k, k1, rfl⟩
  · refine St.bad hc (r := -10) ?_ (fun N sc lg ar en hm => ?_)
    · rw [f_X11_tells, c_h hc.1, Option.bind_some, c_obh hl.1, Option.bind_some, c_dogAt_no hl.1 z2, Option.bind_some, zcase]
      exact cb
    · rw [f_X12_tells, mm_ob, Option.bind_some, m_isDog, Option.bind_some, hm.1 6 (by omega), z1, if_pos rfl]
      exact mb _ _ _ _ _
  obtain ⟨a, a1, a2⟩ := hc.dogs k k1
  have r0 : ∀ {N : zMe} {sc : Nat → Int32} {lg : Nat → Int64} {ar : Nat → Nat → Int32} {en : Nat → Int64}, ML P sc lg ar → zrI (mmk N (x + 31) sc lg ar en) (x + 31 + 1) 0 = some (nI (P.1 0)) := fun hm => by
    rw [show (0 : Int32) = nI 0 from rfl, mm_rN1 (by omega), hm.1 0 (by omega)]
  rcases zin_r (a := 1) (b := 2 ^ P.1 0 - 1) (by omega) (by omega) w with ⟨z1, z2⟩ | ⟨s, s1, s2, rfl⟩
  · refine St.bad hc (r := -10) ?_ (fun N sc lg ar en hm => ?_)
    · rw [f_X11_tells, c_h hc.1, Option.bind_some, c_obh hl.1, Option.bind_some, c_dogAt_ok hl.1 hl.2.2.1 hnd k1, Option.bind_some, a1, zcase]
      by_cases hw1 : w < 1
      · rw [if_pos hw1]; exact cb
      · rcases z2 with z2 | z2
        · exact absurd z2 hw1
        · rw [if_neg hw1, c_h hc.1, Option.bind_some, c_obh hl.1, Option.bind_some, call, Option.bind_some, if_pos z2]
          exact cb
    · rw [f_X12_tells, mm_ob, Option.bind_some, m_isDog, Option.bind_some, hm.1 6 (by omega), zin_n (by omega) k1, if_neg one0, mm_gN0, Option.bind_some, r0 hm, Option.bind_some, m_in, Option.bind_some, n_allP hn5]
      have z1 : zin w 1 (nI (2 ^ P.1 0 - 1)) = 0 := z1
      rw [z1, if_pos rfl]
      exact mb _ _ _ _ _
  have zs : zin (nI s) 1 (nI (2 ^ P.1 0 - 1)) = 1 := zin_k (a := 1) (by omega) s1 s2
  have hs : s < 2 ^ P.1 0 := by omega
  have s0 : ¬ nI s < 1 := nI_nlt (b := 1) s1 (by omega)
  have s3 : ¬ nI (2 ^ P.1 0 - 1) < nI s := nI_nlt (by omega) (by omega)
  rcases zin_r (a := 0) (b := 2) (by omega) (by omega) y with ⟨z1, z2⟩ | ⟨yy, -, y2, rfl⟩
  · refine St.bad hc (r := -10) ?_ (fun N sc lg ar en hm => ?_)
    · rw [f_X11_tells, c_h hc.1, Option.bind_some, c_obh hl.1, Option.bind_some, c_dogAt_ok hl.1 hl.2.2.1 hnd k1, Option.bind_some, a1, zcase, if_neg s0, c_h hc.1, Option.bind_some, c_obh hl.1, Option.bind_some, call, Option.bind_some, if_neg s3]
      by_cases hy : y < 0
      · rw [if_pos hy]; exact cb
      · rcases z2 with z2 | z2
        · exact absurd z2 hy
        · rw [if_neg hy, if_neg (show ¬ y ≤ 2 from nle2 z2)]
          exact cb
    · rw [f_X12_tells, mm_ob, Option.bind_some, m_isDog, Option.bind_some, hm.1 6 (by omega), zin_n (by omega) k1, if_neg one0, mm_gN0, Option.bind_some, r0 hm, Option.bind_some, m_in, Option.bind_some, n_allP hn5, zs, if_neg one0, m_in, Option.bind_some]
      have z1 : zin y 0 2 = 0 := z1
      rw [z1, if_pos rfl]
      exact mb _ _ _ _ _
  have zy : zin (nI yy) 0 2 = 1 := zin_k (a := 0) (b := 2) (by omega) (by omega) y2
  obtain ⟨st, en0, me, q1, q2⟩ := (hc.wk.2.2.1).learn a2 (hW.dw k k1) hn5 (show P.1 1 < 2 ^ 31 by omega)
  obtain ⟨c1, m1⟩ := hc.lane (nn := nI (2 ^ P.1 0)) (st := st) (en := en0) (me := me) q2.zero
  obtain ⟨L, hL⟩ : ∃ L, L = lmk M (x + 23) (nI (2 ^ P.1 0)) st en0 me := ⟨_, rfl⟩
  have hK : LnK L (x + 23) (P.1 0) (P.1 1) (dg P.1 k) := by rw [hL]; exact ⟨_, st, en0, me, lm_0, lm_1, lm_2, lm_3, q2⟩
  rw [← hL] at q1 c1 m1
  have L2 : L.2 = M.2 := by rw [hL]; rfl
  obtain ⟨v0, w4⟩ := c1.wk.2.2.2.1
  obtain ⟨g0, w5⟩ := c1.wk.2.2.2.2.1
  have es : tmk L (x + 27) v0 g0 = L := tm_self w4 w5
  obtain ⟨g, t1, t2⟩ := t_weigh (L := L) (a := x + 27) (la := x + 23) (v := v0) (g := g0) hK (by omega) (hW.dw k k1) hn5 hba
  rw [es] at t1
  obtain ⟨c2, m2⟩ := c1.teller (nI (P.1 3)) g
  have hg1 := c_g c1.hl.1
  have hg2 := c_g c2.hl.1
  obtain ⟨K, hKd⟩ : ∃ K, K = tmk L (x + 27) (nI (P.1 3)) g := ⟨_, rfl⟩
  have call1 : f_X2_allPlaces h L = some (nI (2 ^ P.1 0 - 1), L) := by
    rw [c_all c1.hl.1]
    show some (((1 : Int32) <<< (nI (P.1 0) &&& 31)) - 1, L) = _
    rw [n_allP hn5]
  have ob0 : zob M (x + 23) 4 = some () := by
    obtain ⟨nn, _, _, _, k0, -⟩ := hc.wk.2.2.1
    simp [zob, k0]
  have obt : zob L (x + 27) 10 = some () := by simp [zob, w4]
  have obk : zob K (x + 27) 10 = some () := by rw [hKd]; exact tm_ob
  have l1 : s &&& P.1 3 ≤ s := Nat.and_le_left
  have l2 : s &&& (31 ^^^ P.1 3) ≤ s := Nat.and_le_left
  have fst : ∀ u, u < 2 ^ P.1 0 → f_X10_firstWhistle (x + 27) (x + 23) (nI u) K = some (fwz (gog (P.1 1) (dg P.1 k)) (P.1 0) (P.1 3) u, K) := fun u hu => by rw [hKd]; exact t_first hK (by omega) (hW.dw k k1) hn5 hba t2 hu
  have few : ∀ u, u < 2 ^ P.1 0 → f_X10_fewestFor (x + 27) 0 (nI u) K = some (nI (tkz (gog (P.1 1) (dg P.1 k)) (P.1 0) (P.1 3) 8 u), K) := fun u hu => by
    have := t_few (L := L) (a := x + 27) (v := nI (P.1 3)) (g := g) (t := 0) (u := u) (by omega)
    rw [t2 0 (by omega) (by omega) u hu, ← hKd, nI_0] at this
    exact this
  rw [← hKd] at t1 c2 m2 hg2
  obtain ⟨mx, hmx⟩ : ∃ mx, mx = mxz (tkz (gog (P.1 1) (dg P.1 k)) (P.1 0) (P.1 3) 8 (s &&& P.1 3)) (tkz (gog (P.1 1) (dg P.1 k)) (P.1 0) (P.1 3) 8 (s &&& (31 ^^^ P.1 3))) := ⟨_, rfl⟩
  have b1 := tkz_le (gog (P.1 1) (dg P.1 k)) (P.1 0) (P.1 3) 8 (s &&& P.1 3)
  have b2 := tkz_le (gog (P.1 1) (dg P.1 k)) (P.1 0) (P.1 3) 8 (s &&& (31 ^^^ P.1 3))
  have bm : mx ≤ 99 := by rw [hmx]; exact mxz_le b1 b2
  have e99 : (nI mx = 99) = (mx = 99) := propext (nI_eq (b := 99) (by omega) (by omega))
  have hMk : Mk M K x := m1.trans m2
  have hRm : RmK M K Z Z sr sr := by
    have : K.2 = M.2 := by rw [hKd]; exact L2
    unfold RmK
    rw [this]
    exact ⟨by omega, by omega, by omega⟩
  obtain ⟨res, hres⟩ : ∃ res : Int32, res = if yy = 0 then (if mx = 99 then -1 else nI mx) else if yy = 1 then fwz (gog (P.1 1) (dg P.1 k)) (P.1 0) (P.1 3) (s &&& P.1 3) else fwz (gog (P.1 1) (dg P.1 k)) (P.1 0) (P.1 3) (s &&& (31 ^^^ P.1 3)) := ⟨_, rfl⟩
  refine ⟨res, K, P, A, Z, sr, ?_, c2.ci, hMk, hRm, fun N sc lg ar en hm => ?_⟩
  · rw [f_X11_tells, c_h hc.1, Option.bind_some, c_obh hl.1, Option.bind_some, c_dogAt_ok hl.1 hl.2.2.1 hnd k1, Option.bind_some, a1, zcase, if_neg s0, c_h hc.1, Option.bind_some, c_obh hl.1, Option.bind_some, call, Option.bind_some, if_neg s3, if_neg (nI_pos (by omega)), if_pos (show nI yy ≤ 2 from nI_le (b := 2) y2 (by omega)), hc.g10, Option.bind_some, c_h hc.1, Option.bind_some, hg.1, Option.bind_some, Option.bind_some, hg.2.1, Option.bind_some, ob0, Option.bind_some, q1, Option.bind_some, c1.g11, Option.bind_some, c1.g10, Option.bind_some, c_h c1.1, Option.bind_some, c_obh c1.hl.1, Option.bind_some, call1, Option.bind_some, c_h c1.1, Option.bind_some, hg1.2.2.2.1, Option.bind_some, obt, Option.bind_some, t1, Option.bind_some, c_h c2.1, Option.bind_some, hg2.2.2.2.1, Option.bind_some, n_and, zlet, Option.bind_some, hg2.2.2.2.1, Option.bind_some, n_andn (by omega) (by omega), zlet]
    rcases (show yy = 0 ∨ yy = 1 ∨ yy = 2 by omega) with rfl | rfl | rfl
    · rw [if_neg (show ¬ nI 0 = 1 by decide), if_neg (show ¬ nI 0 = 2 by decide), c2.g11, Option.bind_some, obk, Option.bind_some, few _ (by omega), Option.bind_some, c2.g11, Option.bind_some, obk, Option.bind_some, few _ (by omega), Option.bind_some]
      have ev : (if nI (tkz (gog (P.1 1) (dg P.1 k)) (P.1 0) (P.1 3) 8 (s &&& P.1 3)) < nI (tkz (gog (P.1 1) (dg P.1 k)) (P.1 0) (P.1 3) 8 (s &&& (31 ^^^ P.1 3))) then nI (tkz (gog (P.1 1) (dg P.1 k)) (P.1 0) (P.1 3) 8 (s &&& (31 ^^^ P.1 3))) else nI (tkz (gog (P.1 1) (dg P.1 k)) (P.1 0) (P.1 3) 8 (s &&& P.1 3))) = nI mx := by
        rw [hmx]
        unfold mxz
        by_cases hz : tkz (gog (P.1 1) (dg P.1 k)) (P.1 0) (P.1 3) 8 (s &&& P.1 3) < tkz (gog (P.1 1) (dg P.1 k)) (P.1 0) (P.1 3) 8 (s &&& (31 ^^^ P.1 3))
        · rw [if_pos (nI_lt hz (by omega)), if_pos hz]
        · rw [if_neg (nI_nlt (by omega) (by omega)), if_neg hz]
      rw [ev, zlet, f_X11_tells_b195, f_X11_tells_b195, hres, if_pos rfl]
      simp only [e99]
      split <;> rfl
    · rw [if_pos (show nI 1 = 1 from rfl), c2.g11, Option.bind_some, c2.g10, Option.bind_some, obk, Option.bind_some, fst _ (by omega), Option.bind_some, hres, if_neg (by decide), if_pos rfl]
    · rw [if_neg (show ¬ nI 2 = 1 by decide), if_pos (show nI 2 = 2 from rfl), c2.g11, Option.bind_some, c2.g10, Option.bind_some, obk, Option.bind_some, fst _ (by omega), Option.bind_some, hres, if_neg (by decide), if_neg (by decide)]
  · obtain ⟨gm, u1, u2⟩ := m_allTakes (N := N) (m := x + 31) (sc := sc) (lg := lg) (en := en) hm.1 hW k1
    have rb : zrI (mem10 N (x + 31) sc lg ar en gm) (x + 31 + 1) 3 = some (nI (P.1 3)) := m10_b hm.1 gm (k := 3) (by omega)
    have rt : ∀ u, u < 2 ^ P.1 0 → zrI (mem10 N (x + 31) sc lg ar en gm) (x + 31 + 11) (nI u) = some (nI (tkz (gog (P.1 1) (dg P.1 k)) (P.1 0) (P.1 3) 8 u)) := fun u hu => by
      have := u2 0 (by omega) (by omega) u hu
      rw [show 32 * 0 + u = u by omega] at this
      rw [m10_r gm (by omega), this]
    refine ⟨sc, lg, updA ar 10 gm, en, ?_, ?_⟩
    · show f_X12_tells (x + 31) (nI k) (nI s) (nI yy) (mmk N (x + 31) sc lg ar en) = some (res, mem10 N (x + 31) sc lg ar en gm)
      rw [f_X12_tells, mm_ob, Option.bind_some, m_isDog, Option.bind_some, hm.1 6 (by omega), zin_n (by omega) k1, if_neg one0, mm_gN0, Option.bind_some, r0 hm, Option.bind_some, m_in, Option.bind_some, n_allP hn5, zs, if_neg one0, m_in, Option.bind_some, zy, if_neg one0, mm_ob, Option.bind_some, u1, Option.bind_some, m10_0, Option.bind_some, rb, Option.bind_some, n_and, zlet, Option.bind_some, rb, Option.bind_some, n_andn (by omega) (by omega), zlet]
      rcases (show yy = 0 ∨ yy = 1 ∨ yy = 2 by omega) with rfl | rfl | rfl
      · have e108 : ∀ j, j ≤ 99 → f_X12_tells_b108 (nI j) (mem10 N (x + 31) sc lg ar en gm) = some (if j = 99 then -1 else nI j, mem10 N (x + 31) sc lg ar en gm) := fun j hj => by
          have : (nI j = 99) = (j = 99) := propext (nI_eq (b := 99) (by omega) (by omega))
          rw [f_X12_tells_b108, f_X12_tells_b123, f_X12_tells_b123]
          simp only [this]
          split <;> rfl
        rw [if_pos (show nI 0 = 0 from rfl), m10_19, Option.bind_some, rt _ (by omega), Option.bind_some, Option.bind_some, rt _ (by omega), Option.bind_some, Option.bind_some, Option.bind_some, rt _ (by omega), Option.bind_some, rt _ (by omega), Option.bind_some, hres, if_pos rfl, hmx]
        unfold mxz
        by_cases hz : tkz (gog (P.1 1) (dg P.1 k)) (P.1 0) (P.1 3) 8 (s &&& P.1 3) < tkz (gog (P.1 1) (dg P.1 k)) (P.1 0) (P.1 3) 8 (s &&& (31 ^^^ P.1 3))
        · rw [if_pos (nI_le (by omega) (by omega)), if_pos hz, e108 _ b2]
        · rw [if_neg hz]
          by_cases hy : tkz (gog (P.1 1) (dg P.1 k)) (P.1 0) (P.1 3) 8 (s &&& P.1 3) = tkz (gog (P.1 1) (dg P.1 k)) (P.1 0) (P.1 3) 8 (s &&& (31 ^^^ P.1 3))
          · rw [if_pos (nI_le (by omega) (by omega)), ← hy, e108 _ b1]
          · rw [if_neg (nI_ge (by omega) (by omega)), e108 _ b1]
      · rw [if_neg (show ¬ nI 1 = 0 by decide), if_pos (show nI 1 = 1 from rfl), m_first hm.1 hW k1 (by omega) u2, hres, if_neg (by decide), if_pos rfl]
      · rw [if_neg (show ¬ nI 2 = 0 by decide), if_neg (show ¬ nI 2 = 1 by decide), m_first hm.1 hW k1 (by omega) u2, hres, if_neg (by decide), if_neg (by decide)]
    · obtain ⟨h1, h2, h3, h4, h5, h6, h7, h8, h9, h10, h11, h12⟩ := hm
      have u : ∀ j, j ≠ 10 → updA ar 10 gm j = ar j := fun j hj => updA_n _ _ hj
      exact ⟨by rw [u 0 (by decide)]; exact h1, h2, h3, h4, h5, h6, by rw [u 5 (by decide)]; exact h7, by rw [u 4 (by decide)]; exact h8, by rw [u 3 (by decide)]; exact h9, by rw [u 2 (by decide)]; exact h10, by rw [u 6 (by decide), u 8 (by decide)]; exact h11, by rw [u 6 (by decide), u 8 (by decide)]; exact h12⟩
end ST9
