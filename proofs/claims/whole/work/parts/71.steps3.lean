theorem dogCell_congr {D D' : Nat → Nat} (h : ∀ j, j < 6 → D j = D' j) : dogCell D = dogCell D' := by
  unfold dogCell dog6 dog3
  rw [h 0 (by omega), h 1 (by omega), h 2 (by omega), h 3 (by omega), h 4 (by omega), h 5 (by omega)]
theorem DW.congr {n : Nat} {D D' : Nat → Nat} (h : ∀ j, j < 6 → D j = D' j) (hD : DW n D) : DW n D' := by
  unfold DW at hD ⊢
  rw [← h 0 (by omega), ← h 1 (by omega), ← h 2 (by omega), ← h 3 (by omega), ← h 4 (by omega), ← h 5 (by omega)]
  exact hD
theorem bD_old {B D : Nat → Nat} {k : Nat} (hk : k < B 6) : ∀ j, j < 6 → dg (bD B D) k j = dg B k j := fun j hj => by
  unfold dg bD
  rw [if_neg (by omega), if_neg (by omega)]
theorem bD_new {B D : Nat → Nat} : ∀ j, j < 6 → dg (bD B D) (B 6) j = D j := fun j hj => by
  unfold dg bD
  rw [if_neg (by omega), if_pos (by omega)]
  congr 1
  omega
theorem bD_lo {B D : Nat → Nat} {k : Nat} (hk : k < 6) : bD B D k = B k := by
  unfold bD
  rw [if_neg (by omega), if_neg (by omega)]
theorem bD_6 {B D : Nat → Nat} : bD B D 6 = B 6 + 1 := by simp [bD]
theorem bD_wb {B D : Nat → Nat} (hW : WB B) (h3 : B 6 < 3) (hD : DW (B 0) D) : WB (bD B D) := by
  unfold WB
  rw [bD_lo (k := 0) (by omega), bD_lo (k := 1) (by omega), bD_lo (k := 2) (by omega), bD_lo (k := 3) (by omega), bD_lo (k := 4) (by omega), bD_lo (k := 5) (by omega), bD_6]
  refine ⟨hW.n2, hW.n5, hW.sh, hW.go, hW.ba, hW.b4, hW.b5, by omega, fun e he => ?_⟩
  by_cases z : e = B 6
  · rw [z]; exact hD.congr (fun j hj => (bD_new j hj).symm)
  · exact (hW.dw e (by omega)).congr (fun j hj => (bD_old (by omega) j hj).symm)
theorem bcomes_bk {bk : Nat → Int32} {B : Nat → Nat} (hB : Bk bk B) (h3 : B 6 < 3) (k r0 r1 s0 s1 l : Nat) : Bk (bcomes bk (B 6) (nI k) (nI r0) (nI r1) (nI s0) (nI s1) (nI l)) (bD B (mkD k r0 r1 s0 s1 l)) := by
  intro j hj
  unfold bcomes
  by_cases e6 : j = 6
  · rw [e6, up_s, bD_6]
  · rw [up_n _ _ e6]
    by_cases hin : 7 + 6 * B 6 ≤ j ∧ j < 7 + 6 * B 6 + 6
    · have eb : bD B (mkD k r0 r1 s0 s1 l) j = mkD k r0 r1 s0 s1 l (j - (7 + 6 * B 6)) := by unfold bD; rw [if_neg e6, if_pos hin]
      rw [eb]
      rcases (show j = 7 + 6 * B 6 ∨ j = 7 + 6 * B 6 + 1 ∨ j = 7 + 6 * B 6 + 2 ∨ j = 7 + 6 * B 6 + 3 ∨ j = 7 + 6 * B 6 + 4 ∨ j = 7 + 6 * B 6 + 5 by omega) with e | e | e | e | e | e
      · rw [e, up_n _ _ (by omega), up_n _ _ (by omega), up_n _ _ (by omega), up_n _ _ (by omega), up_n _ _ (by omega), up_s, Nat.sub_self]; rfl
      · rw [e, up_n _ _ (by omega), up_n _ _ (by omega), up_n _ _ (by omega), up_n _ _ (by omega), up_s, Nat.add_sub_cancel_left]; rfl
      · rw [e, up_n _ _ (by omega), up_n _ _ (by omega), up_n _ _ (by omega), up_s, Nat.add_sub_cancel_left]; rfl
      · rw [e, up_n _ _ (by omega), up_n _ _ (by omega), up_s, Nat.add_sub_cancel_left]; rfl
      · rw [e, up_n _ _ (by omega), up_s, Nat.add_sub_cancel_left]; rfl
      · rw [e, up_s, Nat.add_sub_cancel_left]; rfl
    · have eb : bD B (mkD k r0 r1 s0 s1 l) j = B j := by unfold bD; rw [if_neg e6, if_neg hin]
      rw [eb, up_n _ _ (by omega), up_n _ _ (by omega), up_n _ _ (by omega), up_n _ _ (by omega), up_n _ _ (by omega), up_n _ _ (by omega)]
      exact hB j hj
section ST3
variable {M : zMe} {x : Nat} {A Z : Nat → Nat} {sr h d : Nat} {P : PS} {f : Nat → Option Nat} {tx : Nat → Int32} {fi : Nat → Option Nat}
/-- one dog more -/
theorem CJ.addDog (hc : CJ M x P A Z sr h d f tx fi) (h3 : P.1 6 < 3) {D : Nat → Nat} (hD : DW (P.1 0) D) (n : Nat) : CJ (zSet (zSet (zAdd M (dogCell D) n) d (dgA (va_up f (P.1 6) (some M.2.1)))) h (.inr (2, ho (nB (bD P.1 D)) d))) x (bD P.1 D, P.2) A Z sr h d (va_up f (P.1 6) (some M.2.1)) tx fi ∧ Mk M (zSet (zSet (zAdd M (dogCell D) n) d (dgA (va_up f (P.1 6) (some M.2.1)))) h (.inr (2, ho (nB (bD P.1 D)) d))) x := by
  obtain ⟨c1, c2, c3, c4, c5, c6, c7, c8, c9, c10⟩ := hc
  obtain ⟨l1, l2, l3, l4, l5, l6, l7, l8, l9⟩ := c2
  obtain ⟨N, hN⟩ : ∃ N, N = zSet (zSet (zAdd M (dogCell D) n) d (dgA (va_up f (P.1 6) (some M.2.1)))) h (.inr (2, ho (nB (bD P.1 D)) d)) := ⟨_, rfl⟩
  rw [← hN]
  have hne : d ≠ h := fun z => by rw [z, l1] at l3; simp [dgA] at l3
  have n2 : N.2 = (M.2.1 + 1, M.2.2 + n) := by rw [hN]; rfl
  have n21 : N.2.1 = M.2.1 + 1 := by rw [n2]
  have no : ∀ q, q ≠ h → q ≠ d → q ≠ M.2.1 → N.1 q = M.1 q := fun q q1 q2 q3 => by rw [hN, zS_n _ _ q1, zS_n _ _ q2, zA_n _ _ _ q3]
  have nh : N.1 h = some (.inr (2, ho (nB (bD P.1 D)) d)) := by rw [hN]; exact zS_s _ _ _
  have nd : N.1 d = some (dgA (va_up f (P.1 6) (some M.2.1))) := by rw [hN, zS_n _ _ hne]; exact zS_s _ _ _
  have nD : N.1 M.2.1 = some (dogCell D) := by rw [hN, zS_n _ _ (by omega), zS_n _ _ (by omega)]; exact zA_s _ _ _
  have hdn : ∀ a D, Dg M x a D → D 0 ≤ 4 → a ≠ h ∧ a ≠ d := fun a D hd h4 => by
    refine ⟨fun z => ?_, fun z => ?_⟩
    · have := hd.1
      rw [z, l1] at this
      injection this with this
      simp only [dogCell, Sum.inr.injEq, Prod.mk.injEq] at this
      have := dogCl_in h4
      have e := (show (2 : Nat) = dogCl (D 0) by omega)
      rw [← e] at this
      exact absurd this (by decide)
    · have := hd.1
      rw [z, l3] at this
      simp [dgA, dogCell] at this
  have kd : ∀ a D, Dg M x a D → D 0 ≤ 4 → Dg N x a D := fun a D hd h4 => by
    obtain ⟨z1, z2⟩ := hdn a D hd h4
    have := hd.2
    exact ⟨by rw [no a z1 z2 (by omega)]; exact hd.1, this.1, by omega⟩
  have newD : Dg N x M.2.1 D := ⟨nD, c9, by omega⟩
  refine ⟨⟨by rw [no x (by omega) (by omega) (by omega)]; exact c1, ⟨nh, bD_wb l2 h3 hD, nd, fun k hk => ?_, fun k hk a ha => ?_, l6, l7, by omega, by omega⟩, by rw [no _ (by omega) (by omega) (by omega)]; exact c3, fun i hi => ?_, by rw [no _ (by omega) (by omega) (by omega)]; exact c5, c6, c7, c8.kept (fun q a b => no q (by omega) (by omega) (by omega)) (fun i hi => ?_) (by omega), by omega, fun q hq => ?_⟩, fun q q1 q2 => no q (by omega) (by omega) (by omega)⟩
  · have hk' : k < bD P.1 D 6 := hk
    rw [bD_6] at hk'
    by_cases e : k = P.1 6
    · refine ⟨M.2.1, by rw [e, va_up_self], ?_⟩
      have : dogCell (dg (bD P.1 D) k) = dogCell D := dogCell_congr (fun j hj => by rw [e]; exact bD_new j hj)
      exact ⟨by rw [this]; exact nD, newD.2⟩
    · obtain ⟨a, a1, a2⟩ := l4 k (by omega)
      refine ⟨a, by rw [va_up_ne _ _ e]; exact a1, ?_⟩
      have := kd a _ a2 (l2.dw k (by omega)).1
      have ee : dogCell (dg (bD P.1 D) k) = dogCell (dg P.1 k) := dogCell_congr (bD_old (by omega))
      exact ⟨by rw [ee]; exact this.1, this.2⟩
  · by_cases e : k = P.1 6
    · rw [e, va_up_self] at ha
      cases ha
      exact ⟨D, hD.1, newD⟩
    · rw [va_up_ne _ _ e] at ha
      obtain ⟨D', D1, D2⟩ := l5 k hk a ha
      exact ⟨D', D1, kd a D' D2 D1⟩
  · rcases c4 i hi with z | ⟨a, e, g, y1, y2, y3, y4, y5⟩
    · exact Or.inl z
    · refine Or.inr ⟨a, e, g, y1, y2, ?_, y4, y5⟩
      obtain ⟨m1, m2, m3, m4, m5, m6, m7, m8, m9⟩ := y3
      have hne2 : e ≠ h := fun z => by rw [z, l1] at m3; simp [dgA] at m3
      have hne3 : a ≠ d := fun z => by rw [z, l3] at m1; simp [dgA] at m1
      refine ⟨by rw [no a y4 hne3 (by omega)]; exact m1, m2, by rw [no e hne2 y5 (by omega)]; exact m3, fun k hk => ?_, fun k hk a ha => ?_, m6, m7, by omega, by omega⟩
      · obtain ⟨a, a1, a2⟩ := m4 k hk
        exact ⟨a, a1, kd a _ a2 (m2.dw k hk).1⟩
      · obtain ⟨D', D1, D2⟩ := m5 k hk a ha
        exact ⟨D', D1, kd a D' D2 D1⟩
  · have ha := (show A i < M.2.1 by obtain ⟨⟨_, _, _, _, _, _, _, _, _, _, _, _, _, _, _, _, h, _⟩, _⟩ := c8; exact (h i hi).2)
    exact no _ (fun z => c8.ne l1 (ne_ho _ _) i hi z.symm) (fun z => c8.ne l3 (ne_dg _) i hi z.symm) (by omega)
  · rw [no q (by omega) (by omega) (by omega)]; exact c10 q (by omega)
theorem ckind_eq (k : Int32) : (ckind k = 0 ∧ (zin k 0 4 = 0 ∨ k = 2 ∨ k = 3)) ∨ (ckind k = 1 ∧ ¬ zin k 0 4 = 0 ∧ ¬ k = 2 ∧ ¬ k = 3 ∧ ∃ n, (n = 0 ∨ n = 1 ∨ n = 4) ∧ k = nI n) := by
  rcases zin_r (a := 0) (b := 4) (by omega) (by omega) k with ⟨z1, z2⟩ | ⟨n, -, n2, rfl⟩
  · refine Or.inl ⟨?_, Or.inl z1⟩
    unfold ckind
    rw [if_neg]
    rintro (e | e | e) <;> subst e <;> exact absurd z1 (by decide)
  · rcases (show n = 0 ∨ n = 1 ∨ n = 2 ∨ n = 3 ∨ n = 4 by omega) with rfl | rfl | rfl | rfl | rfl
    · exact Or.inr ⟨by decide, by decide, by decide, by decide, 0, Or.inl rfl, rfl⟩
    · exact Or.inr ⟨by decide, by decide, by decide, by decide, 1, Or.inr (Or.inl rfl), rfl⟩
    · exact Or.inl ⟨by decide, Or.inr (Or.inl rfl)⟩
    · exact Or.inl ⟨by decide, Or.inr (Or.inr rfl)⟩
    · exact Or.inr ⟨by decide, by decide, by decide, by decide, 4, Or.inr (Or.inr rfl), rfl⟩
theorem S_dog (hc : CJ M x P A Z sr h d f tx fi) (k a b : Int32) : St M x P A Z sr (f_X11_dog x k a b) (f_X12_dog (x + 31) k a b) := by
  have hl := hc.hl
  have hW := hl.2.1
  have hn5 := hW.n5
  have hnd := hW.nd
  rcases ckind_eq k with ⟨z1, z2⟩ | ⟨z1, q1, q2, q3, n, n1, rfl⟩
  · refine St.bad hc (r := -2) (c_dog_bad hc.1 hl.1 hn5 (Or.inl z1)) (fun N sc lg ar en hm => m_dog_bad hm.1 hn5 ?_)
    rcases z2 with z | z | z
    · exact Or.inl z
    · exact Or.inr (Or.inl z)
    · exact Or.inr (Or.inr (Or.inl z))
  · rcases rowI_case (P.1 0) a with ea | ⟨ea, r0, r1, r2, rfl⟩
    · exact St.bad hc (r := -2) (c_dog_bad hc.1 hl.1 hn5 (Or.inr (Or.inl ea))) (fun N sc lg ar en hm => m_dog_bad hm.1 hn5 (Or.inr (Or.inr (Or.inr (Or.inl ea)))))
    · rcases rowI_case (P.1 0) b with eb | ⟨eb, s0, s1, s2, rfl⟩
      · exact St.bad hc (r := -2) (c_dog_bad hc.1 hl.1 hn5 (Or.inr (Or.inr eb))) (fun N sc lg ar en hm => m_dog_bad hm.1 hn5 (Or.inr (Or.inr (Or.inr (Or.inr eb)))))
      · have na : ¬ rowI (P.1 0) (nI r0) = 0 := by rw [ea]; decide
        have nb : ¬ rowI (P.1 0) (nI s0) = 0 := by rw [eb]; decide
        have nk : ¬ ckind (nI n) = 0 := by rw [z1]; decide
        by_cases h3 : P.1 6 = 3
        · exact St.full hc (r := -4) (c_dog_full hc.1 hl.1 hn5 h3 nk na nb) (fun N sc lg ar en hm => by rw [m_dog_ok hm.1 hW q1 q2 q3 na nb, if_pos h3])
        · have hlt : P.1 6 < 3 := by omega
          have hD : DW (P.1 0) (mkD n r0 s0 0 0 0) := by
            refine ⟨?_, r1, s1, fun o => ?_, fun _ => ⟨rfl, rfl, rfl⟩⟩
            · show n ≤ 4
              omega
            · exfalso
              have o' : n = 2 ∨ n = 3 := o
              omega
          obtain ⟨g1, g2⟩ := hc.addDog hlt hD 3
          refine ⟨nI (P.1 6), _, (bD P.1 (mkD n r0 s0 0 0 0), P.2), A, Z, sr, c_dog_ok hc.1 hl.1 hl.2.2.1 hc.2.2.2.2.2.2.2.2.2 hn5 hlt n1 na nb, g1.ci, g2, ⟨?_, ?_, by omega⟩, fun N sc lg ar en hm => ⟨sc, lg, updA ar 0 (bcomes (ar 0) (P.1 6) (nI n) (nI r0) (nI s0) 0 0 0), en, by rw [m_dog_ok hm.1 hW q1 q2 q3 na nb, if_neg h3], hm.book (bcomes_bk hm.1 hlt n r0 s0 0 0 0) (bD_wb hW hlt hD)⟩⟩
          · show M.2.1 + 1 + _ ≤ _
            omega
          · show M.2.2 + 3 + _ ≤ _
            omega
theorem S_pup (hc : CJ M x P A Z sr h d f tx fi) (k a b a2 b2 l : Int32) : St M x P A Z sr (f_X11_pup x k a b a2 b2 l) (f_X12_pup (x + 31) k a b a2 b2 l) := by
  have hl := hc.hl
  have hW := hl.2.1
  have hn5 := hW.n5
  have hnd := hW.nd
  have bad : (ckindL k = 0 ∨ l < 1 ∨ 3 < l ∨ rowI (P.1 0) a = 0 ∨ rowI (P.1 0) b = 0 ∨ rowI (P.1 0) a2 = 0 ∨ rowI (P.1 0) b2 = 0) → (zin k 2 3 = 0 ∨ rowI (P.1 0) a = 0 ∨ rowI (P.1 0) b = 0 ∨ rowI (P.1 0) a2 = 0 ∨ rowI (P.1 0) b2 = 0 ∨ zin l 1 3 = 0) → St M x P A Z sr (f_X11_pup x k a b a2 b2 l) (f_X12_pup (x + 31) k a b a2 b2 l) := fun h1 h2 => St.bad hc (r := -2) (c_pup_bad hc.1 hl.1 hn5 h1) (fun N sc lg ar en hm => m_pup_bad hm.1 hn5 h2)
  rcases zin_r (a := 2) (b := 3) (by omega) (by omega) k with ⟨z1, z2⟩ | ⟨n, n1, n2, rfl⟩
  · refine bad (Or.inl ?_) (Or.inl z1)
    unfold ckindL
    rw [if_neg]
    rintro (e | e) <;> subst e <;> exact absurd z1 (by decide)
  · have hk : n = 2 ∨ n = 3 := by omega
    rcases zin_r (a := 1) (b := 3) (by omega) (by omega) l with ⟨z1, z2⟩ | ⟨m, m1, m2, rfl⟩
    · refine bad ?_ (Or.inr (Or.inr (Or.inr (Or.inr (Or.inr z1)))))
      rcases z2 with z | z
      · exact Or.inr (Or.inl z)
      · exact Or.inr (Or.inr (Or.inl z))
    · rcases rowI_case (P.1 0) a with ea | ⟨ea, r0, r1, r2, rfl⟩
      · exact bad (Or.inr (Or.inr (Or.inr (Or.inl ea)))) (Or.inr (Or.inl ea))
      · rcases rowI_case (P.1 0) b with eb | ⟨eb, s0, s1, s2, rfl⟩
        · exact bad (Or.inr (Or.inr (Or.inr (Or.inr (Or.inl eb))))) (Or.inr (Or.inr (Or.inl eb)))
        · rcases rowI_case (P.1 0) a2 with ec | ⟨ec, t0, t1, t2, rfl⟩
          · exact bad (Or.inr (Or.inr (Or.inr (Or.inr (Or.inr (Or.inl ec)))))) (Or.inr (Or.inr (Or.inr (Or.inl ec))))
          · rcases rowI_case (P.1 0) b2 with ed | ⟨ed, u0, u1, u2, rfl⟩
            · exact bad (Or.inr (Or.inr (Or.inr (Or.inr (Or.inr (Or.inr ed)))))) (Or.inr (Or.inr (Or.inr (Or.inr (Or.inl ed)))))
            · have na : ¬ rowI (P.1 0) (nI r0) = 0 := by rw [ea]; decide
              have nb : ¬ rowI (P.1 0) (nI s0) = 0 := by rw [eb]; decide
              have nc : ¬ rowI (P.1 0) (nI t0) = 0 := by rw [ec]; decide
              have ne : ¬ rowI (P.1 0) (nI u0) = 0 := by rw [ed]; decide
              have nk : ¬ ckindL (nI n) = 0 := by rcases hk with rfl | rfl <;> decide
              have l1 : ¬ nI m < 1 := nI_nlt (b := 1) m1 (by omega)
              have l3 : nI m ≤ 3 := nI_le (b := 3) m2 (by omega)
              have zk : ¬ zin (nI n) 2 3 = 0 := by rw [show zin (nI n) 2 3 = 1 from zin_k (a := 2) (b := 3) (by omega) n1 n2]; decide
              have zl : ¬ zin (nI m) 1 3 = 0 := by rw [show zin (nI m) 1 3 = 1 from zin_k (a := 1) (b := 3) (by omega) m1 m2]; decide
              by_cases h3 : P.1 6 = 3
              · exact St.full hc (r := -4) (c_pup_full hc.1 hl.1 hn5 h3 nk l1 l3 na nb nc ne) (fun N sc lg ar en hm => by rw [m_pup_ok hm.1 hW zk na nb nc ne zl, if_pos h3])
              · have hlt : P.1 6 < 3 := by omega
                have hD : DW (P.1 0) (mkD n r0 s0 t0 u0 m) := by
                  refine ⟨?_, r1, s1, fun _ => ⟨t1, u1, m1, m2⟩, fun o => absurd hk o⟩
                  show n ≤ 4
                  omega
                obtain ⟨g1, g2⟩ := hc.addDog hlt hD 6
                refine ⟨nI (P.1 6), _, (bD P.1 (mkD n r0 s0 t0 u0 m), P.2), A, Z, sr, c_pup_ok hc.1 hl.1 hl.2.2.1 hc.2.2.2.2.2.2.2.2.2 hn5 hlt hk l1 l3 na nb nc ne, g1.ci, g2, ⟨?_, ?_, by omega⟩, fun N sc lg ar en hm => ⟨sc, lg, updA ar 0 (bcomes (ar 0) (P.1 6) (nI n) (nI r0) (nI s0) (nI t0) (nI u0) (nI m)), en, by rw [m_pup_ok hm.1 hW zk na nb nc ne zl, if_neg h3], hm.book (bcomes_bk hm.1 hlt n r0 s0 t0 u0 m) (bD_wb hW hlt hD)⟩⟩
                · show M.2.1 + 1 + _ ≤ _
                  omega
                · show M.2.2 + 6 + _ ≤ _
                  omega
theorem S_type (hc : CJ M x P A Z sr h d f tx fi) (v : Int64) (n : Int32) : St M x P A Z sr (f_X11_type x v n) (f_X12_type (x + 31) v n) := by
  have hL := hc.2.2.2.2.2.2.1
  rcases zin_r (a := 1) (b := 8) (by omega) (by omega) n with ⟨z1, z2⟩ | ⟨k, k1, k2, rfl⟩
  · exact St.bad hc (r := -2) (c_type_bad hc.1 v z2) (fun N sc lg ar en hm => m_type_bad v z1)
  · by_cases hf : 200 < P.2.1 + k
    · exact St.full hc (r := -4) (c_type_full hc.1 hL v k1 k2 hf) (fun N sc lg ar en hm => m_type_full v hm.2.2.1 hL k1 k2 hf)
    · have ht := hc.2.2.2.2.1
      have g0 : ∀ (tx' : Nat → Int32) (tb : Nat → Int32), (∀ j, j < 200 → tx' j &&& 255 = tb j) → CJ (zSet M (x + 4) (.inl (.byte, 200, .inl tx'))) x (P.1, P.2.1, P.2.2.1, P.2.2.2.1, tb, P.2.2.2.2.2) A Z sr h d f tx' fi := by
        intro tx' tb htb
        obtain ⟨c1, c2, c3, c4, c5, c6, c7, c8, c9, c10⟩ := hc
        have hk2 : ∀ {h1 d1 : Nat} {B : Nat → Nat} {f : Nat → Option Nat}, Hl M x h1 d1 B f → Hl (zSet M (x + 4) (.inl (.byte, 200, .inl tx'))) x h1 d1 B f := fun hl => by
          have := hl.2.2.2.2.2
          exact hl.keep (Nat.le_refl _) (zS_n _ _ (by omega)) (zS_n _ _ (by omega)) (fun a D hd => zS_n _ _ (by have := hd.2.1; omega))
        refine ⟨by rw [zS_n _ _ (by omega)]; exact c1, hk2 c2, by rw [zS_n _ _ (by omega)]; exact c3, fun i hi => ?_, zS_s _ _ _, htb, c7, c8.kept (fun q a b => zS_n _ _ (by omega)) (fun i hi => zS_n _ _ (by have := c8.2.2.2.2.2.2.2 i hi; omega)) (Nat.le_refl _), c9, fun q hq => ?_⟩
        · rcases c4 i hi with z | ⟨a, e, g, y1, y2, y3, y4⟩
          · exact Or.inl z
          · exact Or.inr ⟨a, e, g, y1, y2, hk2 y3, y4⟩
        · have hq' : M.2.1 ≤ q := hq
          rw [zS_n _ _ (by omega)]; exact c10 q hq'
      have g1 := (g0 (tyt tx (fun k => vp_nar .byte (tyc v k)) P.2.1 k k) (tyt P.2.2.2.2.1 (tyb v) P.2.1 k k) (fun j hj => by
        rw [tyt_at, tyt_at]
        by_cases hin : P.2.1 ≤ j ∧ j < P.2.1 + k
        · rw [if_pos hin, if_pos hin]; exact ty_eq v (by omega)
        · rw [if_neg hin, if_neg hin]; exact hc.2.2.2.2.2.1 j hj)).setx (L' := P.2.1 + k) (by omega) P.2.2.1 P.2.2.2.1
      refine ⟨nI (P.2.1 + k), _, _, A, Z, sr, c_type_ok hc.1 ht v k1 k2 (by omega), g1.ci, fun q q1 q2 => ?_, RmK.refl M Z sr, fun N sc lg ar en hm => ⟨upd sc 0 (nI (P.2.1 + k)), lg, updA ar 4 (tyt (ar 4) (tyb v) P.2.1 k k), en, m_type_ok v hm.2.2.1 k1 k2 (by omega), ?_⟩⟩
      · unfold tyM
        rw [zS_n _ _ (by omega), zS_n _ _ (by omega)]
      · obtain ⟨h1, h2, h3, h4, h5, h6, h7, h8, h9, h10, h11, h12⟩ := hm
        refine ⟨by rw [updA_n _ _ (by decide)]; exact h1, h2, up_s _ _ _, by show P.2.1 + k ≤ 200; omega, h5, h6, by rw [updA_n _ _ (by decide)]; exact h7, fun j hj => ?_, by rw [updA_n _ _ (by decide)]; exact h9, by rw [updA_n _ _ (by decide)]; exact h10, ?_, ?_⟩
        · rw [updA_s, tyt_at]
          show _ = tyt P.2.2.2.2.1 (tyb v) P.2.1 k k j
          rw [tyt_at]
          by_cases hin : P.2.1 ≤ j ∧ j < P.2.1 + k
          · rw [if_pos hin, if_pos hin]
          · rw [if_neg hin, if_neg hin]; exact h8 j hj
        · rw [updA_n _ _ (by decide), updA_n _ _ (by decide)]; exact h11
        · rw [updA_n _ _ (by decide), updA_n _ _ (by decide)]; exact h12
end ST3
