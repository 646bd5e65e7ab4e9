section ST2
variable {M : zMe} {x : Nat} {A Z : Nat → Nat} {sr h d : Nat} {P : PS} {f : Nat → Option Nat} {tx : Nat → Int32} {fi : Nat → Option Nat}
theorem cput_eq {B : Nat → Nat} {bk : Nat → Int32} (hB : Bk bk B) (hn : B 0 ≤ 5) (w v : Int32) : cput (nB B) w v = 0 ↔ zin w 0 3 = 0 ∨ mput bk w v = 0 := by
  have e0 : bk 0 = nI (B 0) := hB 0 (by omega)
  unfold cput mput
  rw [e0]
  by_cases w0 : w = 0
  · subst w0
    rw [if_pos rfl, if_pos rfl]
    have hz : ¬ zin 0 0 3 = 0 := by decide
    rcases zin_case (n := B 0) (by omega) v with ⟨z1, z2⟩ | ⟨k, k1, rfl⟩
    · have : cpl (nI (B 0)) v = 0 := by
        unfold cpl
        rcases z2 with z | z
        · rw [if_pos z]
        · rw [if_pos z]; split <;> rfl
      exact ⟨fun _ => Or.inr z1, fun _ => this⟩
    · rw [show cpl (nB B 0) (nI k) = 1 from cpl_ok k1 (by omega), zin_n (by omega) k1]
      exact ⟨fun z => absurd z (by decide), fun o => o.elim (fun z => absurd z hz) (fun z => absurd z (by decide))⟩
  · rw [if_neg w0, if_neg w0]
    by_cases w1 : w = 1
    · subst w1
      rw [if_pos rfl, if_pos rfl]
      have hz : ¬ zin 1 0 3 = 0 := by decide
      exact ⟨fun z => Or.inr z, fun o => o.elim (fun z => absurd z hz) id⟩
    · rw [if_neg w1, if_neg w1]
      by_cases w23 : w = 2 ∨ w = 3
      · rw [if_pos w23]
        have hz : ¬ zin w 0 3 = 0 := by rcases w23 with rfl | rfl <;> decide
        exact ⟨fun z => Or.inr z, fun o => o.elim (fun z => absurd z hz) id⟩
      · rw [if_neg w23]
        refine ⟨fun _ => Or.inl ?_, fun _ => rfl⟩
        apply Classical.byContradiction
        intro z
        rcases zin03 z with e | e | e | e
        · exact w0 e
        · exact w1 e
        · exact w23 (Or.inl e)
        · exact w23 (Or.inr e)
theorem St.put (hc : CJ M x P A Z sr h d f tx fi) {w v : Int32} {wi k : Nat} (hw : wi < 4) (ew : w = nI wi) (ev : v = nI k) (hWB : WB (upN P.1 (2 + wi) k)) (hF : f_X11_put x w v M = some (nI (P.1 (2 + wi)), zSet M h (.inr (2, ho (nB (upN P.1 (2 + wi) k)) d)))) (hok : ∀ bk, Bk bk P.1 → ¬ (zin w 0 3 = 0 ∨ mput bk w v = 0)) : St M x P A Z sr (f_X11_put x w v) (f_X12_put (x + 31) w v) := by
  obtain ⟨g1, g2⟩ := hc.seth hWB (fun k hk => ⟨by rw [upN_n _ _ (by omega)] at hk; exact hk, dg_up (by omega) k⟩)
  refine ⟨nI (P.1 (2 + wi)), _, (upN P.1 (2 + wi) k, P.2), A, Z, sr, hF, g1.ci, g2, RmK.refl M Z sr, fun N sc lg ar en hm => ⟨sc, lg, updA ar 0 (upd (ar 0) (2 + wi) (nI k)), en, ?_, hm.book (fun j hj => ?_) hWB⟩⟩
  · have e2 : ((2 : Int32) + w).toNatClampNeg = 2 + wi := by rw [ew, show (2 : Int32) = nI 2 from rfl, nI_add, nI_clamp (by omega)]
    rw [m_put, if_neg (hok _ hm.1), e2, hm.1 _ (by omega), ev]
  · by_cases e : j = 2 + wi
    · rw [e, up_s, upN_s]
    · rw [up_n _ _ e, upN_n _ _ e]; exact hm.1 j hj
theorem S_put (hc : CJ M x P A Z sr h d f tx fi) (w v : Int32) : St M x P A Z sr (f_X11_put x w v) (f_X12_put (x + 31) w v) := by
  have hl := hc.hl
  have hW := hl.2.1
  have hn5 := hW.n5
  have h32 := p2_32 hn5
  have hdw : ∀ i k, i < 7 → ∀ e, e < P.1 6 → DW (P.1 0) (dg (upN P.1 i k) e) := fun i k hi e he => by rw [dg_up hi]; exact hW.dw e he
  by_cases hz : cput (nB P.1) w v = 0
  · refine St.bad hc (r := -2) (by rw [c_put hc.1 hl.1, if_pos hz]) (fun N sc lg ar en hm => by rw [m_put, if_pos ((cput_eq hm.1 hn5 w v).mp hz)])
  · have hok : ∀ bk, Bk bk P.1 → ¬ (zin w 0 3 = 0 ∨ mput bk w v = 0) := fun bk hB o => hz ((cput_eq hB hn5 w v).mpr o)
    have hB0 : Bk (nB P.1) P.1 := fun k _ => rfl
    have hnot := hok _ hB0
    have hw3 : ¬ zin w 0 3 = 0 := fun z => hnot (Or.inl z)
    have hmp : ¬ mput (nB P.1) w v = 0 := fun z => hnot (Or.inr z)
    have hF := c_put hc.1 hl.1 w v
    rw [if_neg hz] at hF
    rcases zin03 hw3 with rfl | rfl | rfl | rfl
    · rw [if_pos rfl] at hF
      unfold mput at hmp
      rw [if_pos rfl] at hmp
      rcases zin_case (n := P.1 0) (by omega) v with ⟨z1, -⟩ | ⟨k, k1, rfl⟩
      · exact absurd z1 hmp
      · exact St.put hc (wi := 0) (k := k) (by omega) rfl rfl ⟨hW.n2, hW.n5, hW.sh, k1, hW.ba, hW.b4, hW.b5, hW.nd, hdw 2 k (by omega)⟩ hF hok
    · rw [if_neg (by decide), if_pos rfl] at hF
      unfold mput at hmp
      rw [if_neg (by decide), if_pos rfl] at hmp
      have e1 : ((1 : Int32) <<< (nB P.1 0 &&& 31)) = nI (2 ^ P.1 0) := n_sh1 (by omega)
      rw [e1] at hmp
      rcases zin_case (n := 2 ^ P.1 0) (by omega) v with ⟨z1, -⟩ | ⟨k, k1, rfl⟩
      · exact absurd z1 hmp
      · exact St.put hc (wi := 1) (k := k) (by omega) rfl rfl ⟨hW.n2, hW.n5, hW.sh, hW.go, k1, hW.b4, hW.b5, hW.nd, hdw 3 k (by omega)⟩ hF hok
    · rw [if_neg (by decide), if_neg (by decide), if_pos rfl] at hF
      unfold mput at hmp
      rw [if_neg (by decide), if_neg (by decide)] at hmp
      rcases zin_r (a := 1) (b := 9) (by omega) (by omega) v with ⟨z1, -⟩ | ⟨k, k1, k2, rfl⟩
      · exact absurd z1 hmp
      · exact St.put hc (wi := 2) (k := k) (by omega) rfl rfl ⟨hW.n2, hW.n5, hW.sh, hW.go, hW.ba, ⟨k1, k2⟩, hW.b5, hW.nd, hdw 4 k (by omega)⟩ hF hok
    · rw [if_neg (by decide), if_neg (by decide), if_neg (by decide)] at hF
      unfold mput at hmp
      rw [if_neg (by decide), if_neg (by decide)] at hmp
      rcases zin_r (a := 1) (b := 9) (by omega) (by omega) v with ⟨z1, -⟩ | ⟨k, k1, k2, rfl⟩
      · exact absurd z1 hmp
      · exact St.put hc (wi := 3) (k := k) (by omega) rfl rfl ⟨hW.n2, hW.n5, hW.sh, hW.go, hW.ba, hW.b4, ⟨k1, k2⟩, hW.nd, hdw 5 k (by omega)⟩ hF hok
theorem S_goes (hc : CJ M x P A Z sr h d f tx fi) (v p w t : Int32) : St M x P A Z sr (f_X11_goes x v p w t) (f_X12_goes (x + 31) v p w t) := by
  have hl := hc.hl
  have hW := hl.2.1
  have hn5 := hW.n5
  have hnd := hW.nd
  rcases zin_case (n := P.1 6) (by omega) v with ⟨z1, z2⟩ | ⟨k, k1, rfl⟩
  · exact St.bad hc (r := -2) (c_goes_bad1 hc.1 hl.1 z2) (fun N sc lg ar en hm => m_goes_bad (by rw [hm.1 6 (by omega)]; exact Or.inl z1))
  · obtain ⟨a, a1, a2⟩ := hc.dogs k k1
    have bad : (cpl (nI (P.1 0)) p = 0 ∨ w < 0 ∨ 1 < w ∨ t < 0 ∨ 99 < t) → (∀ bk, Bk bk P.1 → zin p 0 (bk 0 - 1) = 0 ∨ zin w 0 1 = 0 ∨ zin t 0 99 = 0) → St M x P A Z sr (f_X11_goes x (nI k) p w t) (f_X12_goes (x + 31) (nI k) p w t) := fun h1 h2 => St.bad hc (r := -2) (c_goes_bad2 hc.1 hl.1 hl.2.2.1 hnd k1 a1 h1) (fun N sc lg ar en hm => m_goes_bad (Or.inr (h2 _ hm.1)))
    rcases zin_case (n := P.1 0) (by omega) p with ⟨z1, z2⟩ | ⟨pp, p1, rfl⟩
    · exact bad (Or.inl (cpl_no z2)) (fun bk hB => Or.inl (by rw [hB 0 (by omega)]; exact z1))
    · rcases zin_r (a := 0) (b := 1) (by omega) (by omega) w with ⟨z1, z2⟩ | ⟨ww, -, w2, rfl⟩
      · refine bad (Or.inr ?_) (fun bk hB => Or.inr (Or.inl z1))
        rcases z2 with z | z
        · exact Or.inl z
        · exact Or.inr (Or.inl z)
      · rcases zin_r (a := 0) (b := 99) (by omega) (by omega) t with ⟨z1, z2⟩ | ⟨tt, -, t2, rfl⟩
        · refine bad (Or.inr (Or.inr (Or.inr ?_))) (fun bk hB => Or.inr (Or.inr z1))
          rcases z2 with z | z
          · exact Or.inl z
          · exact Or.inr z
        · exact St.same hc (c_goes_ok hc.1 hl.1 hl.2.2.1 hW k1 a1 a2 p1 (by omega) t2) (fun N sc lg ar en hm => m_goes_ok hm.1 hW k1 p1 (by omega) t2)
theorem ctune_n {v n : Int32} (h : n < 0 ∨ 20 < n) : ctune v n = 0 := by
  unfold ctune
  rcases h with z | z
  · rw [if_pos z]
  · rw [if_pos z]; split <;> rfl
theorem ctune_a {v n : Int32} (h : abits v n = 0) : ctune v n = 0 := by
  unfold ctune
  rw [h]
  simp
theorem S_run (hc : CJ M x P A Z sr h d f tx fi) (v p u n : Int32) : St M x P A Z sr (f_X11_run x v p u n) (f_X12_run (x + 31) v p u n) := by
  have hl := hc.hl
  have hW := hl.2.1
  have hn5 := hW.n5
  have hnd := hW.nd
  rcases zin_case (n := P.1 6) (by omega) v with ⟨z1, z2⟩ | ⟨k, k1, rfl⟩
  · exact St.bad hc (r := -2) (c_run_bad1 hc.1 hl.1 z2) (fun N sc lg ar en hm => m_run_bad (by rw [hm.1 6 (by omega)]; exact Or.inl z1))
  · obtain ⟨a, a1, a2⟩ := hc.dogs k k1
    have bad : (cpl (nI (P.1 0)) p = 0 ∨ ctune u n = 0) → (∀ bk, Bk bk P.1 → zin p 0 (bk 0 - 1) = 0 ∨ zin n 0 20 = 0 ∨ zin u 0 (((1 : Int32) <<< (n &&& 31)) - 1) = 0) → St M x P A Z sr (f_X11_run x (nI k) p u n) (f_X12_run (x + 31) (nI k) p u n) := fun h1 h2 => St.bad hc (r := -2) (c_run_bad2 hc.1 hl.1 hl.2.2.1 hnd k1 a1 h1) (fun N sc lg ar en hm => m_run_bad (Or.inr (h2 _ hm.1)))
    rcases zin_case (n := P.1 0) (by omega) p with ⟨z1, z2⟩ | ⟨pp, p1, rfl⟩
    · exact bad (Or.inl (cpl_no z2)) (fun bk hB => Or.inl (by rw [hB 0 (by omega)]; exact z1))
    · rcases zin_r (a := 0) (b := 20) (by omega) (by omega) n with ⟨z1, z2⟩ | ⟨nn, -, n2, rfl⟩
      · exact bad (Or.inr (ctune_n z2)) (fun bk hB => Or.inr (Or.inl z1))
      · rcases t_case (n := nn) (by omega) u with ⟨z1, z2⟩ | ⟨uu, u1, rfl⟩
        · exact bad (Or.inr (ctune_a z2)) (fun bk hB => Or.inr (Or.inr z1))
        · exact St.same hc (c_run_ok hc.1 hl.1 hl.2.2.1 hW k1 a1 a2 p1 n2 u1) (fun N sc lg ar en hm => m_run_ok hm.1 hW k1 p1 n2 u1)
theorem S_meets (hc : CJ M x P A Z sr h d f tx fi) (v u n : Int32) : St M x P A Z sr (f_X11_meets x v u n) (f_X12_meets (x + 31) v u n) := by
  have hl := hc.hl
  have hW := hl.2.1
  have hn5 := hW.n5
  have hnd := hW.nd
  rcases zin_case (n := P.1 6) (by omega) v with ⟨z1, z2⟩ | ⟨k, k1, rfl⟩
  · exact St.bad hc (r := -2) (c_meets_bad1 hc.1 hl.1 z2) (fun N sc lg ar en hm => m_meets_bad (by rw [hm.1 6 (by omega)]; exact Or.inl z1))
  · obtain ⟨a, a1, a2⟩ := hc.dogs k k1
    have bad : ctune u n = 0 → (zin n 0 20 = 0 ∨ zin u 0 (((1 : Int32) <<< (n &&& 31)) - 1) = 0) → St M x P A Z sr (f_X11_meets x (nI k) u n) (f_X12_meets (x + 31) (nI k) u n) := fun h1 h2 => St.bad hc (r := -2) (c_meets_bad2 hc.1 hl.1 hl.2.2.1 hnd k1 a1 h1) (fun N sc lg ar en hm => m_meets_bad (Or.inr h2))
    rcases zin_r (a := 0) (b := 20) (by omega) (by omega) n with ⟨z1, z2⟩ | ⟨nn, -, n2, rfl⟩
    · exact bad (ctune_n z2) (Or.inl z1)
    · rcases t_case (n := nn) (by omega) u with ⟨z1, z2⟩ | ⟨uu, u1, rfl⟩
      · exact bad (ctune_a z2) (Or.inr z1)
      · exact St.same hc (c_meets_ok hc.1 hl.1 hl.2.2.1 hW k1 a1 a2 n2 u1) (fun N sc lg ar en hm => m_meets_ok hm.1 hW k1 n2 u1)
theorem cheard_n {v n b : Int32} (h : n < 1 ∨ 16 < n) : cheard v n b = 0 := by
  unfold cheard
  rcases h with z | z
  · rw [if_pos z]
  · rw [if_pos z]; split <;> rfl
theorem cheard_a {v n b : Int32} (h : abits v n = 0 ∨ abits b n = 0) : cheard v n b = 0 := by
  unfold cheard
  rcases h with h | h
  · rw [h]; simp
  · rw [h]; simp
theorem h_case (u n b : Int32) : (cheard u n b = 0 ∧ (zin n 1 16 = 0 ∨ zin u 0 (((1 : Int32) <<< (n &&& 31)) - 1) = 0 ∨ zin b 0 (((1 : Int32) <<< (n &&& 31)) - 1) = 0)) ∨ ∃ nn uu bb, 1 ≤ nn ∧ nn ≤ 16 ∧ uu < 2 ^ nn ∧ bb < 2 ^ nn ∧ n = nI nn ∧ u = nI uu ∧ b = nI bb := by
  rcases zin_r (a := 1) (b := 16) (by omega) (by omega) n with ⟨z1, z2⟩ | ⟨nn, n1, n2, rfl⟩
  · exact Or.inl ⟨cheard_n z2, Or.inl z1⟩
  · rcases t_case (n := nn) (by omega) u with ⟨z1, z2⟩ | ⟨uu, u1, rfl⟩
    · exact Or.inl ⟨cheard_a (Or.inl z2), Or.inr (Or.inl z1)⟩
    · rcases t_case (n := nn) (by omega) b with ⟨z1, z2⟩ | ⟨bb, b1, rfl⟩
      · exact Or.inl ⟨cheard_a (Or.inr z2), Or.inr (Or.inr z1)⟩
      · exact Or.inr ⟨nn, uu, bb, n1, n2, u1, b1, rfl, rfl, rfl⟩
theorem S_which (hc : CJ M x P A Z sr h d f tx fi) (u n b : Int32) : St M x P A Z sr (f_X11_which x u n b) (f_X12_which (x + 31) u n b) := by
  have hl := hc.hl
  have hW := hl.2.1
  rcases h_case u n b with ⟨z1, z2⟩ | ⟨nn, uu, bb, n1, n2, u1, b1, rfl, rfl, rfl⟩
  · exact St.bad hc (r := -2) (c_which_bad hc.1 z1) (fun N sc lg ar en hm => m_which_bad z2)
  · exact St.same hc (c_which_ok hc.1 hl.1 hl.2.2.1 hW hc.dogs n1 n2 u1 b1) (fun N sc lg ar en hm => m_which_ok hm.1 hW n1 n2 u1 b1)
theorem S_starts (hc : CJ M x P A Z sr h d f tx fi) (v u n b : Int32) : St M x P A Z sr (f_X11_starts x v u n b) (f_X12_starts (x + 31) v u n b) := by
  have hl := hc.hl
  have hW := hl.2.1
  have hnd := hW.nd
  rcases zin_case (n := P.1 6) (by omega) v with ⟨z1, z2⟩ | ⟨k, k1, rfl⟩
  · exact St.bad hc (r := -2) (c_starts_bad1 hc.1 hl.1 z2) (fun N sc lg ar en hm => m_starts_bad (by rw [hm.1 6 (by omega)]; exact Or.inl z1))
  · obtain ⟨a, a1, a2⟩ := hc.dogs k k1
    rcases h_case u n b with ⟨z1, z2⟩ | ⟨nn, uu, bb, n1, n2, u1, b1, rfl, rfl, rfl⟩
    · exact St.bad hc (r := -2) (c_starts_bad2 hc.1 hl.1 hl.2.2.1 hnd k1 a1 z1) (fun N sc lg ar en hm => m_starts_bad (Or.inr z2))
    · exact St.same hc (c_starts_ok hc.1 hl.1 hl.2.2.1 hW k1 a1 a2 n1 n2 u1 b1) (fun N sc lg ar en hm => m_starts_ok hm.1 hW k1 n1 n2 u1 b1)
end ST2
