section ST6
variable {M : zMe} {x : Nat} {A Z : Nat → Nat} {sr h d : Nat} {P : PS} {f : Nat → Option Nat} {tx : Nat → Int32} {fi : Nat → Option Nat}
theorem S_neighbour (hc : CJ M x P A Z sr h d f tx fi) (hsr : sr + 200 < 2 ^ 20) (v dv p w : Int32) : St M x P A Z sr (f_X11_neighbour x v dv p w) (f_X12_neighbour (x + 31) v dv p w) := by
  have hl := hc.hl
  have hW := hl.2.1
  have hnd := hW.nd
  have hn5 := hW.n5
  have hs32 := hW.sh32
  have hg := c_g hl.1
  have h32 := p2_32 hn5
  have hpos := Nat.two_pow_pos (P.1 0)
  have b34 : f_X11_neighbour_b34 x M = some (-10, zSet M x (.inr (11, xo x h (nI P.2.1) P.2.2.1.1 P.2.2.1.2 (P.2.2.2.1 0 + 1) (P.2.2.2.1 1) (P.2.2.2.1 2)))) := by rw [f_X11_neighbour_b34, c_obx hc.1, Option.bind_some, c_bad hc.1, Option.bind_some]
  have b63 : f_X11_neighbour_b63 x M = some (-10, zSet M x (.inr (11, xo x h (nI P.2.1) P.2.2.1.1 P.2.2.1.2 (P.2.2.2.1 0 + 1) (P.2.2.2.1 1) (P.2.2.2.1 2)))) := by rw [f_X11_neighbour_b63, c_obx hc.1, Option.bind_some, c_bad hc.1, Option.bind_some]
  have m43 : ∀ N sc lg ar en, f_X12_neighbour_b43 (x + 31) (mmk N (x + 31) sc lg ar en) = some (-10, mmk N (x + 31) sc lg (mref ar 0) en) := fun N sc lg ar en => by rw [f_X12_neighbour_b43, mm_ob, Option.bind_some, m_ref0, Option.bind_some]
  have mod1 : ∀ N sc lg ar en, ML P sc lg ar → (zin v 0 (((1 : Int32) <<< (nI (P.1 6) &&& 31)) - 1) = 0 ∨ zin dv 0 (nI (P.1 6) - 1) = 0 ∨ zin p 0 (nI (P.1 0) - 1) = 0 ∨ zin w 0 1 = 0 ∨ ((v >>> (dv &&& 31)) &&& 1) = 1) → f_X12_neighbour (x + 31) v dv p w (mmk N (x + 31) sc lg ar en) = some (-10, mmk N (x + 31) sc lg (mref ar 0) en) := fun N sc lg ar en hm ho => by
    rw [f_X12_neighbour, mm_ob, Option.bind_some, m_isSet, Option.bind_some, hm.1 6 (by omega)]
    by_cases q1 : zin v 0 (((1 : Int32) <<< (nI (P.1 6) &&& 31)) - 1) = 0
    · rw [if_pos q1]; exact m43 N sc lg ar en
    · rw [if_neg q1, mm_ob, Option.bind_some, m_isDog, Option.bind_some, hm.1 6 (by omega)]
      by_cases q2 : zin dv 0 (nI (P.1 6) - 1) = 0
      · rw [if_pos q2]; exact m43 N sc lg ar en
      · rw [if_neg q2, mm_ob, Option.bind_some, m_isPlace, Option.bind_some, hm.1 0 (by omega)]
        by_cases q3 : zin p 0 (nI (P.1 0) - 1) = 0
        · rw [if_pos q3]; exact m43 N sc lg ar en
        · rw [if_neg q3, m_in, Option.bind_some]
          by_cases q4 : zin w 0 1 = 0
          · rw [if_pos q4]; exact m43 N sc lg ar en
          · have q5 := (((ho.resolve_left q1).resolve_left q2).resolve_left q3).resolve_left q4
            rw [if_neg q4, if_pos q5]; exact m43 N sc lg ar en
  rcases zin_case (n := P.1 6) (by omega) dv with ⟨z1, z2⟩ | ⟨dn, dn1, rfl⟩
  · refine St.bad hc (r := -10) ?_ (fun N sc lg ar en hm => mod1 N sc lg ar en hm (Or.inr (Or.inl z1)))
    rw [f_X11_neighbour, c_h hc.1, Option.bind_some, c_obh hl.1, Option.bind_some, c_dogAt_no hl.1 z2, Option.bind_some, zcase]
    exact b34
  · obtain ⟨a, a1, a2⟩ := hc.dogs dn dn1
    have cl0 : f_X11_neighbour x v (nI dn) p w M = (if abits v (nI (P.1 6)) = 0 then f_X11_neighbour_b34 x M else f_X11_neighbour x v (nI dn) p w M) := by
      by_cases q : abits v (nI (P.1 6)) = 0
      · rw [if_pos q, f_X11_neighbour, c_h hc.1, Option.bind_some, c_obh hl.1, Option.bind_some, c_dogAt_ok hl.1 hl.2.2.1 hnd dn1, Option.bind_some, a1, zcase, c_h hc.1, Option.bind_some, c_obh hl.1, Option.bind_some, c_areDogs hl.1, Option.bind_some, if_pos q]
      · rw [if_neg q]
    rcases t_case (n := P.1 6) (by omega) v with ⟨z1, z2⟩ | ⟨ds, d1, rfl⟩
    · refine St.bad hc (r := -10) ?_ (fun N sc lg ar en hm => mod1 N sc lg ar en hm (Or.inl z1))
      rw [cl0, if_pos z2]
      exact b34
    · have hds : ds < 2 ^ 31 := Nat.lt_of_lt_of_le d1 (p2b (by omega))
      have ea : abits (nI ds) (nI (P.1 6)) = 1 := abits_ok (by omega) d1
      have em : zin (nI ds) 0 (((1 : Int32) <<< (nI (P.1 6) &&& 31)) - 1) = 1 := zin_t (by omega) d1
      have pre : ∀ R : Option (Int32 × zMe), (if chold (nI ds) (nI dn) = 0 then R else f_X11_neighbour_b34 x M) = (if chold (nI ds) (nI dn) = 0 then R else f_X11_neighbour_b34 x M) := fun _ => rfl
      have ec : chold (nI ds) (nI dn) = if ds.testBit dn then 1 else 0 := n_hold hds (by omega)
      cases hb : ds.testBit dn with
      | true =>
        refine St.bad hc (r := -10) ?_ (fun N sc lg ar en hm => mod1 N sc lg ar en hm (Or.inr (Or.inr (Or.inr (Or.inr ((n_bit1 hds (by omega)).mpr hb))))))
        rw [hb] at ec
        rw [f_X11_neighbour, c_h hc.1, Option.bind_some, c_obh hl.1, Option.bind_some, c_dogAt_ok hl.1 hl.2.2.1 hnd dn1, Option.bind_some, a1, zcase, c_h hc.1, Option.bind_some, c_obh hl.1, Option.bind_some, c_areDogs hl.1, Option.bind_some, ea, if_neg one0, c_holds, Option.bind_some, ec, if_neg (show ¬ (if (true : Bool) then (1 : Int32) else 0) = 0 by decide)]
        exact b34
      | false =>
        rw [hb] at ec
        have hnb : ¬ ((nI ds >>> (nI dn &&& 31)) &&& 1) = 1 := fun z => by rw [n_bit1 hds (by omega), hb] at z; cases z
        have cl1 : f_X11_neighbour x (nI ds) (nI dn) p w M = (f_X2_isPlace h p M).bind fun q4 =>
            if q4.1 = 0 then f_X11_neighbour_b63 x q4.2 else if w < 0 then f_X11_neighbour_b63 x q4.2 else if w ≤ 1 then (
              (zgN q4.2 x [11] 9).bind fun a5 => (zgN q4.2 x [11] 0).bind fun a6 => (zgN q4.2 x [11] 0).bind fun a7 => (zgI q4.2 a7 [2] 1).bind fun v1 => (zob q4.2 a5 0).bind fun _ => (f_X0_follow a5 a6 (nI ds) v1 q4.2).bind fun q5 =>
              (zgN q5 x [11] 9).bind fun a8 => (zgN q5 x [11] 0).bind fun a9 => (zgN q5 x [11] 0).bind fun a10 => (zgI q5 a10 [2] 1).bind fun v2 => (zob q5 a8 0).bind fun _ => (f_X0_addLane a8 a a9 v2 ((1 : Int32) <<< (p &&& 31)) ((1 : Int32) <<< (p &&& 31)) q5).bind fun q6 =>
              (zgN q6 x [11] 9).bind fun a11 => (zob q6 a11 0).bind fun _ => (f_X0_seek a11 1 1 q6).bind fun q7 => if q7.1 = 0 then f_X11_neighbour_b140 (-1) q7.2 else (zgN q7.2 x [11] 9).bind fun a12 => (zob q7.2 a12 0).bind fun _ => (f_X0_shortest a12 w q7.2).bind fun q8 => f_X11_neighbour_b140 q8.1 q8.2) else f_X11_neighbour_b63 x q4.2 := by
          rw [f_X11_neighbour, c_h hc.1, Option.bind_some, c_obh hl.1, Option.bind_some, c_dogAt_ok hl.1 hl.2.2.1 hnd dn1, Option.bind_some, a1, zcase, c_h hc.1, Option.bind_some, c_obh hl.1, Option.bind_some, c_areDogs hl.1, Option.bind_some, ea, if_neg one0, c_holds, Option.bind_some, ec, if_pos (show (if (false : Bool) then (1 : Int32) else 0) = 0 by decide), c_h hc.1, Option.bind_some, c_obh hl.1, Option.bind_some]
        rw [c_isPlace hl.1, Option.bind_some] at cl1
        rcases zin_case (n := P.1 0) (by omega) p with ⟨z1, z2⟩ | ⟨pl, p1, rfl⟩
        · refine St.bad hc (r := -10) ?_ (fun N sc lg ar en hm => mod1 N sc lg ar en hm (Or.inr (Or.inr (Or.inl z1))))
          rw [cl1, if_pos (show cpl (nB P.1 0) p = 0 from cpl_no z2)]
          exact b63
        · have cp : cpl (nB P.1 0) (nI pl) = 1 := cpl_ok p1 (by omega)
          rw [cp, if_neg one0] at cl1
          rcases zin_r (a := 0) (b := 1) (by omega) (by omega) w with ⟨z1, z2⟩ | ⟨ww, -, w2, rfl⟩
          · refine St.bad hc (r := -10) ?_ (fun N sc lg ar en hm => mod1 N sc lg ar en hm (Or.inr (Or.inr (Or.inr (Or.inl z1)))))
            by_cases h0 : w < 0
            · rw [cl1, if_pos h0]; exact b63
            · rw [cl1, if_neg h0, if_neg (show ¬ w ≤ 1 from Int32.not_le.mpr (z2.resolve_left h0))]; exact b63
          · obtain ⟨M1, M2, M3, fl, fb, ft, A', Z', e1, e2, e3, e4, e5, e6, e7, e8, e9, e10, e11, e12, e13, e14⟩ := cj_hunt2 hc (by omega) d1 dn1 hb p1 a1
            have hg1 := c_g e2.hl.1
            have e5' : f_X0_seek (x + 5) 1 1 M2 = some (fl, M3) := e5
            have hcall : f_X11_neighbour x (nI ds) (nI dn) (nI pl) (nI ww) M = if fl = 0 then some (-1, M3) else some (if ww = 0 then nI fb else nI ft, M3) := by
              rw [cl1, if_neg (nI_pos (by omega)), if_pos (show nI ww ≤ 1 from nI_le (b := 1) w2 (by omega)), hc.g9, Option.bind_some, c_h hc.1, Option.bind_some, Option.bind_some, hg.2.1, Option.bind_some, hc.chob, Option.bind_some, e1, Option.bind_some, e2.g9, Option.bind_some, c_h e2.1, Option.bind_some, Option.bind_some, hg1.2.1, Option.bind_some, e2.chob, Option.bind_some, n_sh1 (by omega), e3, Option.bind_some, e4.g9, Option.bind_some, e4.chob, Option.bind_some, e5', Option.bind_some, f_X11_neighbour_b140]
              by_cases hf : fl = 0
              · rw [if_pos hf, if_pos hf]
              · rw [if_neg hf, if_neg hf, e6.g9, Option.bind_some, e12, Option.bind_some, f_X0_shortest]
                simp only [n_eq0 (show ww < 2 ^ 31 by omega)]
                by_cases hw0 : ww = 0
                · rw [if_pos hw0, if_pos hw0, e10, Option.bind_some, f_X0_shortest_b15, Option.bind_some, f_X11_neighbour_b140]
                · rw [if_neg hw0, if_neg hw0, e11, Option.bind_some, f_X0_shortest_b15, Option.bind_some, f_X11_neighbour_b140]
            have hpl5 : pl < 5 := by omega
            have hp2 : 2 ^ pl < 2 ^ P.1 0 := Nat.pow_lt_pow_right (by decide) p1
            have hgo := hW.go
            have hg2 : 2 ^ P.1 2 < 32 := Nat.lt_of_lt_of_le (Nat.pow_lt_pow_right (by decide) hgo) h32
            have fs1 : ∀ i, i < P.1 6 → (fun d => if ds.testBit d then 2 ^ P.1 0 - 1 else 0) i < 32 := fun i _ => by
              show (if ds.testBit i then 2 ^ P.1 0 - 1 else 0) < 32
              split <;> omega
            have fs2 : ∀ i, i < P.1 6 → (fun d => if ds.testBit d then 2 ^ P.1 2 else 0) i < 32 := fun i _ => by
              show (if ds.testBit i then 2 ^ P.1 2 else 0) < 32
              split <;> omega
            have hs : ∀ i, i < P.1 6 → upN (fun d => if ds.testBit d then 2 ^ P.1 0 - 1 else 0) dn (2 ^ pl) i < 2 ^ P.1 0 := fun i _ => by
              by_cases e : i = dn
              · rw [e, upN_s]; exact hp2
              · rw [upN_n _ _ e]
                show (if ds.testBit i then 2 ^ P.1 0 - 1 else 0) < 2 ^ P.1 0
                split <;> omega
            have hmod : ∀ N sc lg ar en, ML P sc lg ar → ∃ r sc' be' wa' mn', f_X12_neighbour (x + 31) (nI ds) (nI dn) (nI pl) (nI ww) (mmk N (x + 31) sc lg ar en) = (if r = 0 then some (-1, mmk N (x + 31) sc' lg (arL ar be' wa' mn') en) else if ww = 0 then some (sc' 5, mmk N (x + 31) sc' lg (arL ar be' wa' mn') en) else (f_X12_tune (x + 31) (mmk N (x + 31) sc' lg (arL ar be' wa' mn') en)).bind fun q4 => f_X12_neighbour_b130 q4.1 q4.2) ∧ ML P sc' lg (arL ar be' wa' mn') ∧ AnsR false (P.1 4) (P.1 5) (fun u t => GDs P.1 (P.1 1) ds u t ∧ sru (stg (P.1 1) (dg P.1 dn) (P.1 0)) (2 ^ pl) u t = 2 ^ pl) r (sc' 5) (sc' 6) := fun N sc lg ar en hm => by
              obtain ⟨r, sc', be', wa', mn', k1, k2, k3, k4, k5⟩ := m_leads (M := N) (m := x + 31) (sc := sc) (lg := lg) (ar := ar) (en := en) (bb := false) (p0 := mkp (upN (fun d => if ds.testBit d then 2 ^ P.1 0 - 1 else 0) dn (2 ^ pl)) (P.1 6)) (tg := mkp (upN (fun d => if ds.testBit d then 2 ^ P.1 2 else 0) dn (2 ^ pl)) (P.1 6)) hm.1 hW (mkp_lt (fun i hi => Nat.lt_of_lt_of_le (hs i hi) h32) hnd) (mkp_lt (fun i hi => by
                by_cases e : i = dn
                · rw [e, upN_s]; omega
                · rw [upN_n _ _ e]; exact fs2 i hi) hnd) (r_st hW hs) hm.2.2.2.2.2.2.2.2.2.2.1 hm.2.2.2.2.2.2.2.2.2.2.2
              refine ⟨r, sc', be', wa', mn', ?_, hm.lay k2 k3 k4, AnsR.iff (r_good2 hW dn1 hb p1) k5⟩
              have k1' : f_X12_leads (x + 31) (nI (mkp (upN (fun d => if ds.testBit d then 2 ^ P.1 0 - 1 else 0) dn (2 ^ pl)) (P.1 6))) (nI (mkp (upN (fun d => if ds.testBit d then 2 ^ P.1 2 else 0) dn (2 ^ pl)) (P.1 6))) 0 (mmk N (x + 31) sc lg ar en) = some (r, mmk N (x + 31) sc' lg (arL ar be' wa' mn') en) := k1
              have zw : zin (nI ww) 0 1 = 1 := zin_k (a := 0) (b := 1) (by omega) (by omega) w2
              have r0 : zrI (mmk N (x + 31) sc lg ar en) (x + 31 + 1) 0 = some (nI (P.1 0)) := by rw [show (0 : Int32) = nI 0 from rfl, mm_rN1 (by omega), hm.1 0 (by omega)]
              have r2 : zrI (mmk N (x + 31) sc lg ar en) (x + 31 + 1) 2 = some (nI (P.1 2)) := by rw [show (2 : Int32) = nI 2 from rfl, mm_rN1 (by omega), hm.1 2 (by omega)]
              have et : (1 : Int32) <<< (((5 : Int32) * nI dn + nI pl) &&& 31) = nI (2 ^ pl * 2 ^ (5 * dn)) := by
                rw [show (5 : Int32) * nI dn = nI (5 * dn) from pk_mul 5 dn, nI_add, n_sh1 (by omega), ← Nat.pow_add, Nat.add_comm]
              rw [f_X12_neighbour, mm_ob, Option.bind_some, m_isSet, Option.bind_some, hm.1 6 (by omega), em, if_neg one0, mm_ob, Option.bind_some, m_isDog, Option.bind_some, hm.1 6 (by omega), zin_n (by omega) dn1, if_neg one0, mm_ob, Option.bind_some, m_isPlace, Option.bind_some, hm.1 0 (by omega), zin_n (by omega) p1, if_neg one0, m_in, Option.bind_some, zw, if_neg one0, if_neg hnb, zlet, et, mm_gN0, Option.bind_some, r0, Option.bind_some, mm_ob, Option.bind_some, n_allP hn5, m_all hm.1 hnd hds (by omega), Option.bind_some, zlet, n_or, or_lane fs1 (by omega) dn1 (by rw [hb]; rfl), mm_gN0, Option.bind_some, r2, Option.bind_some, mm_ob, Option.bind_some, n_sh1 (by omega), m_all hm.1 hnd hds hg2, Option.bind_some, zlet, n_or, or_lane fs2 (by omega) dn1 (by rw [hb]; rfl), mm_ob, Option.bind_some, k1', Option.bind_some]
              simp only [n_eq0 (show ww < 2 ^ 31 by omega)]
              rw [f_X12_neighbour_b130, mm_gI16, Option.bind_some, mm_ob, Option.bind_some, f_X12_neighbour_b130]
            by_cases hf : fl = 0
            · rw [if_pos hf] at hcall
              refine ⟨-1, M3, P, A', Z', sr + 1, hcall, e6.ci, e7.mk hc.wk hc.m44, e8.k sr, fun N sc lg ar en hm => ?_⟩
              obtain ⟨r, sc', be', wa', mn', k1, k2, k3⟩ := hmod N sc lg ar en hm
              refine ⟨sc', lg, _, en, ?_, k2⟩
              rcases ans_1 e9 k3 with ⟨_, q⟩ | ⟨q, _⟩
              · rw [k1, if_pos q]
              · rw [hf] at q; exact absurd q (by decide)
            · rw [if_neg hf] at hcall
              refine ⟨_, M3, P, A', Z', sr + 1, hcall, e6.ci, e7.mk hc.wk hc.m44, e8.k sr, fun N sc lg ar en hm => ?_⟩
              obtain ⟨r, sc', be', wa', mn', k1, k2, k3⟩ := hmod N sc lg ar en hm
              refine ⟨sc', lg, _, en, ?_, k2⟩
              rcases ans_1 e9 k3 with ⟨q, _⟩ | ⟨_, q1, q2, q3, q4, q5⟩
              · exact absurd q hf
              · rw [k1, if_neg (by rw [q1]; decide), m_tune q2 q3 q4 q5, Option.bind_some, q4]
                by_cases hw0 : ww = 0
                · rw [if_pos hw0, if_pos hw0]
                · rw [if_neg hw0, if_neg hw0, f_X12_neighbour_b130]
end ST6
