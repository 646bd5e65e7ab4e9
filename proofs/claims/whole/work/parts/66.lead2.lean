section ME2
variable {M : zMe} {m : Nat} {sc : Nat → Int32} {lg : Nat → Int64} {ar : Nat → Nat → Int32} {en : Nat → Int64} {B : Nat → Nat} {be wa mn : Nat → Int32} {bb : Bool} {p0 tg : Nat}
/-- what waits tells where best is not 0 -/
def Enm (l : Nat) (be wa mn : Nat → Int32) : Prop := ∃ (q : Nat → Nat) (cnt : Nat), mn l = nI cnt ∧ cnt ≤ 32768 ∧ (∀ k, k < cnt → wa (32768 * l + k) = nI (q k) ∧ q k < 32768) ∧ ∀ s, s < 32768 → be (32768 * l + s) = 0 ∨ ∃ k, k < cnt ∧ q k = s
theorem LY.enm {l : Nat} {C : Nat → Nat → Prop} (h : LY l C be wa mn) : Enm l be wa mn := by
  obtain ⟨bv, q, cnt, h1, h2, h3, h4, h5, h6⟩ := h
  refine ⟨q, cnt, h2, h3, fun k hk => ⟨(h4 k hk).1, (h4 k hk).2.1⟩, fun s hs => ?_⟩
  by_cases hz : bv s = 0
  · exact Or.inl (by rw [(h1 s hs).1, hz]; rfl)
  · exact Or.inr (h6 s hs hz)
theorem Emp.enm {l : Nat} (h : Emp l be mn) (wa : Nat → Int32) : Enm l be wa mn := ⟨fun _ => 0, 0, h.2, by omega, fun k hk => by omega, fun s hs => Or.inl (h.1 s hs)⟩
theorem m_empt1 (k2 : Nat → Int32 → zMe → Option zMe) {l : Nat} (hl : l < 2) (h : Enm l be wa mn) : ∃ be' mn', f_X12_empties_b9 k2 zfu m (nI l) (nI 0) (mmk M m sc lg (arL ar be wa mn) en) = k2 m (nI (l + 1)) (mmk M m sc lg (arL ar be' wa mn') en) ∧ Emp l be' mn' ∧ (∀ k, k < 32768 * l ∨ 32768 * l + 32768 ≤ k → be' k = be k) ∧ (∀ k, k ≠ l → mn' k = mn k) := by
  obtain ⟨q, cnt, h2, h3, h4, h6⟩ := h
  have ebe : ∀ be wa mn : Nat → Int32, arL ar be wa mn 6 = be := fun _ _ _ => rfl
  have ewa : ∀ be wa mn : Nat → Int32, arL ar be wa mn 7 = wa := fun _ _ _ => rfl
  have emn : ∀ be wa mn : Nat → Int32, arL ar be wa mn 8 = mn := fun _ _ _ => rfl
  have lp := loopC (S := Nat → Int32) (S' := (Nat → Int32) × (Nat → Int32)) (R := Option zMe) (fun fuel k s => f_X12_empties_b9 k2 fuel m (nI l) (nI k) (mmk M m sc lg (arL ar s wa mn) en)) (fun s => k2 m (nI (l + 1)) (mmk M m sc lg (arL ar s.1 wa s.2) en)) cnt
    (fun k s => (∀ i, i < k → s (32768 * l + q i) = 0) ∧ (∀ j, j < 32768 → s (32768 * l + j) = 0 ∨ s (32768 * l + j) = be (32768 * l + j)) ∧ (∀ k, k < 32768 * l ∨ 32768 * l + 32768 ≤ k → s k = be k))
    (fun s => Emp l s.1 s.2 ∧ (∀ k, k < 32768 * l ∨ 32768 * l + 32768 ≤ k → s.1 k = be k) ∧ (∀ k, k ≠ l → s.2 k = mn k))
    (by omega) (fun fu k s hk hI => ?_) (fun fu s hI => ?_) be ⟨fun i hi => by omega, fun j _ => Or.inr rfl, fun _ _ => rfl⟩
  · obtain ⟨⟨be', mn'⟩, e, y⟩ := lp
    exact ⟨be', mn', e, y⟩
  · obtain ⟨i1, i2, i3⟩ := hI
    obtain ⟨k1, k2'⟩ := h4 k hk
    have er1 : (32768 : Int32) * nI l + nI k = nI (32768 * l + k) := by rw [show (32768 : Int32) * nI l = nI (32768 * l) from pk_mul 32768 l, nI_add]
    have er2 : (32768 : Int32) * nI l + nI (q k) = nI (32768 * l + q k) := by rw [show (32768 : Int32) * nI l = nI (32768 * l) from pk_mul 32768 l, nI_add]
    refine ⟨upd s (32768 * l + q k) 0, ?_, fun i hi => ?_, fun j hj => ?_, fun j hj => ?_⟩
    · show f_X12_empties_b9 k2 (fu + 1) m (nI l) (nI k) (mmk M m sc lg (arL ar s wa mn) en) = f_X12_empties_b9 k2 fu m (nI l) (nI (k + 1)) (mmk M m sc lg (arL ar (upd s (32768 * l + q k) 0) wa mn) en)
      rw [f_X12_empties_b9, mm_gN15, Option.bind_some, mm_rN9 hl, Option.bind_some, emn, h2, if_neg (nI_ge hk (by omega)), mm_gN13, Option.bind_some, mm_gN14, Option.bind_some, er1, mm_rN8 (by omega), Option.bind_some, ewa, k1, er2, mm_wN7 (by omega), Option.bind_some, ebe, arL_6, zlet, nI_1]
    · by_cases e : q i = q k
      · rw [e, up_s]
      · rw [up_n _ _ (by omega)]
        exact i1 i (by have : i ≠ k := fun z => e (by rw [z]); omega)
    · by_cases e : j = q k
      · rw [e, up_s]; exact Or.inl rfl
      · rw [up_n _ _ (by omega)]; exact i2 j hj
    · rw [up_n _ _ (by omega)]; exact i3 j hj
  · obtain ⟨i1, i2, i3⟩ := hI
    refine ⟨(s, upd mn l 0), ?_, ⟨fun j hj => ?_, up_s _ _ _⟩, i3, fun k hk => up_n _ _ hk⟩
    · show f_X12_empties_b9 k2 (fu + 1) m (nI l) (nI cnt) (mmk M m sc lg (arL ar s wa mn) en) = _
      rw [f_X12_empties_b9, mm_gN15, Option.bind_some, mm_rN9 hl, Option.bind_some, emn, h2, if_pos (nI_le (Nat.le_refl _) (by omega)), Option.bind_some, mm_wN9 hl, Option.bind_some, emn, arL_8, zlet, nI_1]
    · show s (32768 * l + j) = 0
      rcases h6 j hj with z | ⟨k, a, b⟩
      · rcases i2 j hj with y | y
        · exact y
        · rw [y]; exact z
      · rw [← b]; exact i1 k a
theorem m_empties (h0 : Enm 0 be wa mn) (h1 : Enm 1 be wa mn) : ∃ be' mn', f_X12_empties m (mmk M m sc lg (arL ar be wa mn) en) = some (mmk M m sc lg (arL ar be' wa mn') en) ∧ Emp 0 be' mn' ∧ Emp 1 be' mn' := by
  have ez : zfu = 999997 + 1 + 1 + 1 := rfl
  obtain ⟨be1, mn1, a1, a2, a3, a4⟩ := m_empt1 (M := M) (m := m) (sc := sc) (lg := lg) (ar := ar) (en := en) (f_X12_empties_b2 (999997 + 1 + 1)) (l := 0) (by omega) h0
  have h1' : Enm 1 be1 wa mn1 := by
    obtain ⟨q, cnt, b1, b2, b3, b4⟩ := h1
    exact ⟨q, cnt, by rw [a4 1 (by omega)]; exact b1, b2, b3, fun s hs => by rw [a3 _ (by omega)]; exact b4 s hs⟩
  obtain ⟨be2, mn2, c1, c2, c3, c4⟩ := m_empt1 (M := M) (m := m) (sc := sc) (lg := lg) (ar := ar) (en := en) (f_X12_empties_b2 (999997 + 1)) (l := 1) (by omega) h1'
  refine ⟨be2, mn2, ?_, ⟨fun s hs => ?_, ?_⟩, c2⟩
  · have hb : ∀ fu h' (N : zMe), h' < 2 → f_X12_empties_b2 (fu + 1) m (nI h') N = f_X12_empties_b9 (f_X12_empties_b2 fu) zfu m (nI h') (nI 0) N := fun fu h' N hh => by
      rw [f_X12_empties_b2, if_neg (show ¬ (2 : Int32) ≤ nI h' from nI_ge (b := 2) hh (by omega))]
      rfl
    have hz : f_X12_empties m (mmk M m sc lg (arL ar be wa mn) en) = f_X12_empties_b2 (999997 + 1 + 1 + 1) m (nI 0) (mmk M m sc lg (arL ar be wa mn) en) := rfl
    rw [hz, hb _ 0 _ (by omega), a1, hb _ 1 _ (by omega), c1, f_X12_empties_b2, if_pos (show (2 : Int32) ≤ nI (1 + 1) by decide)]
  · rw [c3 _ (by omega)]; exact a2.1 s hs
  · rw [c4 0 (by omega)]; exact a2.2
/-- found among the times below t -/
def Fnd (bb : Bool) (b0 b1 : Nat) (nx : Nat → Nat → Nat → Nat) (p0 tg t : Nat) (r5 r6 : Int32) : Prop := (r5 = -1 ∧ ∀ u T, T < t → ¬ pkr nx p0 u T = tg) ∨ ∃ u T, T < t ∧ pkr nx p0 u T = tg ∧ r5 = nI T ∧ r6 = nI (wth bb b0 b1 u T) ∧ (bb = true → ∀ v s, s < t → pkr nx p0 v s = tg → cst b0 b1 u T ≤ cst b0 b1 v s) ∧ (bb = false → (∀ v s, s < T → ¬ pkr nx p0 v s = tg) ∧ ∀ v, pkr nx p0 v T = tg → rvs u T ≤ rvs v T)
/-- what the reference's search answers -/
def AnsR (bb : Bool) (b0 b1 : Nat) (G : Nat → Nat → Prop) (r r5 r6 : Int32) : Prop := (r = 0 ∧ ∀ u T, T ≤ 20 → ¬ G u T) ∨ (r = 1 ∧ (bb = false → ∃ u T, Star 1 1 G u T ∧ r5 = nI T ∧ r6 = nI (rvs u T)) ∧ (bb = true → ∃ u T, Star b0 b1 G u T ∧ r6 = nI (cst b0 b1 u T)))
theorem fnd_ans {b0 b1 : Nat} {nx : Nat → Nat → Nat → Nat} {t : Nat} {r5 r6 : Int32} (h : Fnd bb b0 b1 nx p0 tg t r5 r6) (ht : t ≤ 21) (h21 : t = 21 ∨ (bb = false ∧ ¬ r5 = -1)) : AnsR bb b0 b1 (fun v s => pkr nx p0 v s = tg) (if r5 = -1 then 0 else 1) r5 r6 := by
  rcases h with ⟨h1, h2⟩ | ⟨u, T, h1, h2, h3, h4, h5, h6⟩
  · rw [if_pos h1]
    rcases h21 with e | ⟨_, e⟩
    · exact Or.inl ⟨rfl, fun u T hT => h2 u T (by omega)⟩
    · exact absurd h1 e
  · rw [if_neg (by rw [h3]; exact n_m1 (by omega))]
    refine Or.inr ⟨rfl, fun hb => ?_, fun hb => ?_⟩
    · obtain ⟨g1, g2⟩ := h6 hb
      subst hb
      refine ⟨u % 2 ^ T, T, ⟨by show pkr nx p0 (u % 2 ^ T) T = tg; rw [pkr_md]; exact h2, by omega, Nat.mod_lt _ (Nat.two_pow_pos T), fun v s hs hv => ?_⟩, h3, by rw [h4, rvs_md]; rfl⟩
      rw [cst_one, cst_one, rvs_md]
      by_cases e : s < T
      · exact absurd hv (g1 v s e)
      · by_cases e2 : s = T
        · subst e2
          exact Or.inr ⟨rfl, Or.inr ⟨rfl, g2 v hv⟩⟩
        · exact Or.inl (by omega)
    · have g := h5 hb
      have e21 : t = 21 := by
        rcases h21 with e | ⟨e, _⟩
        · exact e
        · rw [hb] at e; cases e
      subst hb
      obtain ⟨v, S, hs⟩ := star_ex (b0 := b0) (b1 := b1) (G := fun v s => pkr nx p0 v s = tg) (fun u v t hb hg => by show pkr nx p0 v t = tg; rw [← pkr_agr t hb]; exact hg) (show T ≤ 20 by omega) h2
      refine ⟨v, S, hs, ?_⟩
      have a := hs.2.2.2 u T (by omega) h2
      have b := g v S (by have := hs.2.1; omega) hs.1
      rw [h4]
      show nI (cst b0 b1 u T) = nI (cst b0 b1 v S)
      congr 1
      omega
theorem m_leads (hB : Bk (ar 0) B) (hW : WB B) (hp0 : p0 < 32768) (htg : tg < 32768) (hst : ∀ u t, pkr (nxB B) p0 u t < 32768) (e0 : Emp 0 (ar 6) (ar 8)) (e1 : Emp 1 (ar 6) (ar 8)) : ∃ r sc' be' wa' mn', f_X12_leads m (nI p0) (nI tg) (bbI bb) (mmk M m sc lg ar en) = some (r, mmk M m sc' lg (arL ar be' wa' mn') en) ∧ (∀ j, j ≠ 5 → j ≠ 6 → sc' j = sc j) ∧ Emp 0 be' mn' ∧ Emp 1 be' mn' ∧ AnsR bb (B 4) (B 5) (fun v s => pkr (nxB B) p0 v s = tg) r (sc' 5) (sc' 6) := by
  have hb4 := hW.b4
  have hb5 := hW.b5
  have ebe : ∀ be wa mn : Nat → Int32, arL ar be wa mn 6 = be := fun _ _ _ => rfl
  obtain ⟨be0, wa0, mn0, g1, g2, g3, g4⟩ := m_comesTo (M := M) (m := m) (sc := upd sc 5 (-1)) (lg := lg) (ar := ar) (en := en) (l := 0) (by omega) (C' := Ct bb (B 4) (B 5) (nxB B) p0 0) (E := fun c => c = 0) (s0 := p0) (c0 := 0) (e0.ly (ar 7)) hp0 (by omega) (fun s c => ⟨fun ⟨u, a, b⟩ => Or.inr ⟨a.symm, by rw [b]; unfold wth; split <;> rfl⟩, fun o => o.elim (fun z => absurd z id) (fun ⟨a, b⟩ => ⟨0, a.symm, by rw [b]; unfold wth; split <;> rfl⟩)⟩) rfl (fun c hc => by rw [hc]; exact Nat.le_refl _)
  rw [arL_id] at g1
  have e1' : Emp 1 be0 mn0 := ⟨fun s hs => by rw [(g3 _ (by omega)).1]; exact e1.1 s hs, by rw [g4 1 (by omega)]; exact e1.2⟩
  -- the end
  have fin : ∀ (t : Nat) (s : (Nat → Int32) × (Nat → Int32) × (Nat → Int32) × (Nat → Int32)), (∀ j, j ≠ 5 → j ≠ 6 → s.1 j = sc j) → Enm 0 s.2.1 s.2.2.1 s.2.2.2 → Enm 1 s.2.1 s.2.2.1 s.2.2.2 → Fnd bb (B 4) (B 5) (nxB B) p0 tg t (s.1 5) (s.1 6) → t ≤ 21 → (t = 21 ∨ (bb = false ∧ ¬ s.1 5 = -1)) → ∃ q, f_X12_leads_b106 m (mmk M m s.1 lg (arL ar s.2.1 s.2.2.1 s.2.2.2) en) = some q ∧ ∃ r sc' be' wa' mn', q = (r, mmk M m sc' lg (arL ar be' wa' mn') en) ∧ (∀ j, j ≠ 5 → j ≠ 6 → sc' j = sc j) ∧ Emp 0 be' mn' ∧ Emp 1 be' mn' ∧ AnsR bb (B 4) (B 5) (fun v s => pkr (nxB B) p0 v s = tg) r (sc' 5) (sc' 6) := by
    rintro t ⟨s1, be, wa, mn⟩ f1 f2 f3 f4 f5 f6
    obtain ⟨be', mn', h1, h2, h3⟩ := m_empties (M := M) (m := m) (sc := s1) (lg := lg) (ar := ar) (en := en) f2 f3
    have ha := fnd_ans f4 f5 f6
    refine ⟨(if s1 5 = -1 then 0 else 1, mmk M m s1 lg (arL ar be' wa mn') en), ?_, _, s1, be', wa, mn', rfl, f1, h2, h3, ha⟩
    rw [f_X12_leads_b106, mm_ob, Option.bind_some, h1, Option.bind_some, mm_gI16, Option.bind_some]
    by_cases z : s1 5 = -1
    · rw [if_pos z, if_pos z, f_X12_leads_b123]; simp
    · rw [if_neg z, if_neg z, f_X12_leads_b123]; simp
  have lp := loopIZ (S := (Nat → Int32) × (Nat → Int32) × (Nat → Int32) × (Nat → Int32)) (R := Int32 × zMe) (fun fuel t s => f_X12_leads_b15 fuel m (nI tg) (bbI bb) (nI t) (mmk M m s.1 lg (arL ar s.2.1 s.2.2.1 s.2.2.2) en)) 21
    (fun t s => (∀ j, j ≠ 5 → j ≠ 6 → s.1 j = sc j) ∧ (t ≤ 20 → LY (t % 2) (Ct bb (B 4) (B 5) (nxB B) p0 t) s.2.1 s.2.2.1 s.2.2.2 ∧ Emp (1 - t % 2) s.2.1 s.2.2.2) ∧ Enm 0 s.2.1 s.2.2.1 s.2.2.2 ∧ Enm 1 s.2.1 s.2.2.1 s.2.2.2 ∧ Fnd bb (B 4) (B 5) (nxB B) p0 tg t (s.1 5) (s.1 6))
    (fun q => ∃ r sc' be' wa' mn', q = (r, mmk M m sc' lg (arL ar be' wa' mn') en) ∧ (∀ j, j ≠ 5 → j ≠ 6 → sc' j = sc j) ∧ Emp 0 be' mn' ∧ Emp 1 be' mn' ∧ AnsR bb (B 4) (B 5) (fun v s => pkr (nxB B) p0 v s = tg) r (sc' 5) (sc' 6))
    (by omega) (fun fu t s ht hI => ?_) (fun fu s hI => ?_) (upd sc 5 (-1), be0, wa0, mn0) ⟨fun j j5 _ => up_n _ _ j5, fun _ => ⟨g2, e1'⟩, g2.enm, e1'.enm _, Or.inl ⟨(show upd sc 5 (-1) 5 = -1 from up_s _ _ _), fun u T hT => by omega⟩⟩
  · obtain ⟨q, k1, r, sc', be', wa', mn', k2, k3⟩ := lp
    refine ⟨r, sc', be', wa', mn', ?_, k3⟩
    have k1' : f_X12_leads_b15 zfu m (nI tg) (bbI bb) (nI 0) (mmk M m (upd sc 5 (-1)) lg (arL ar be0 wa0 mn0) en) = some q := k1
    rw [nI_0, k2] at k1'
    have g1' : f_X12_comesTo m 0 (nI p0) 0 (mmk M m (upd sc 5 (-1)) lg ar en) = some (mmk M m (upd sc 5 (-1)) lg (arL ar be0 wa0 mn0) en) := g1
    rw [f_X12_leads, mm_pI16, Option.bind_some, mm_ob, Option.bind_some, g1', Option.bind_some]
    exact k1'
  · obtain ⟨s1, be, wa, mn⟩ := s
    obtain ⟨f1, f2, f3, f4, f5⟩ := hI
    obtain ⟨y1, y2⟩ := f2 (by omega)
    have y1' : LY (t % 2) (Ct bb (B 4) (B 5) (nxB B) p0 t) be wa mn := y1
    have y2' : Emp (1 - t % 2) be mn := y2
    have f5' : Fnd bb (B 4) (B 5) (nxB B) p0 tg t (s1 5) (s1 6) := f5
    obtain ⟨bv, q, cnt, hh1, -⟩ := y1
    obtain ⟨v1, v2, v3⟩ := hh1 tg htg
    show (∃ s' : (Nat → Int32) × (Nat → Int32) × (Nat → Int32) × (Nat → Int32), f_X12_leads_b15 (fu + 1) m (nI tg) (bbI bb) (nI t) (mmk M m s1 lg (arL ar be wa mn) en) = f_X12_leads_b15 fu m (nI tg) (bbI bb) (nI (t + 1)) (mmk M m s'.1 lg (arL ar s'.2.1 s'.2.2.1 s'.2.2.2) en) ∧ _) ∨ ∃ r, f_X12_leads_b15 (fu + 1) m (nI tg) (bbI bb) (nI t) (mmk M m s1 lg (arL ar be wa mn) en) = some r ∧ _
    by_cases hx : bb = false ∧ ¬ s1 5 = -1
    · refine Or.inr ?_
      obtain ⟨q, k1, k2⟩ := fin t (s1, be, wa, mn) f1 f3 f4 f5 (by omega) (Or.inr hx)
      refine ⟨q, ?_, k2⟩
      rw [f_X12_leads_b15, if_neg (show ¬ (20 : Int32) < nI t from nI_nlt (a := 20) (by omega) (by omega)), if_pos (show bbI bb = 0 by rw [hx.1]; rfl), mm_gI16, Option.bind_some, if_neg hx.2]
      exact k1
    · refine Or.inl ?_
      -- one layer on, whatever was found
      have b86 : ∀ s2 : Nat → Int32, (∀ j, j ≠ 5 → j ≠ 6 → s2 j = sc j) → Fnd bb (B 4) (B 5) (nxB B) p0 tg (t + 1) (s2 5) (s2 6) → ∃ s' : (Nat → Int32) × (Nat → Int32) × (Nat → Int32) × (Nat → Int32), f_X12_leads_b86 (f_X12_leads_b15 fu) m (nI tg) (bbI bb) (nI t) (mmk M m s2 lg (arL ar be wa mn) en) = f_X12_leads_b15 fu m (nI tg) (bbI bb) (nI (t + 1)) (mmk M m s'.1 lg (arL ar s'.2.1 s'.2.2.1 s'.2.2.2) en) ∧ (∀ j, j ≠ 5 → j ≠ 6 → s'.1 j = sc j) ∧ (t + 1 ≤ 20 → LY ((t + 1) % 2) (Ct bb (B 4) (B 5) (nxB B) p0 (t + 1)) s'.2.1 s'.2.2.1 s'.2.2.2 ∧ Emp (1 - (t + 1) % 2) s'.2.1 s'.2.2.2) ∧ Enm 0 s'.2.1 s'.2.2.1 s'.2.2.2 ∧ Enm 1 s'.2.1 s'.2.2.1 s'.2.2.2 ∧ Fnd bb (B 4) (B 5) (nxB B) p0 tg (t + 1) (s'.1 5) (s'.1 6) := by
        intro s2 h1 h2
        rw [f_X12_leads_b86]
        by_cases e20 : t = 20
        · rw [if_pos (show (20 : Int32) ≤ nI t from nI_le (a := 20) (by omega) (by omega)), f_X12_leads_b100, zlet, nI_1]
          exact ⟨(s2, be, wa, mn), rfl, h1, fun z => by omega, f3, f4, h2⟩
        · obtain ⟨be', wa', mn', w1, w2, w3⟩ := m_layer (M := M) (m := m) (sc := s2) (lg := lg) (ar := ar) (en := en) hB hW (show t < 20 by omega) hst y1' y2'
          rw [if_neg (show ¬ (20 : Int32) ≤ nI t from nI_ge (b := 20) (by omega) (by omega)), mm_ob, Option.bind_some, w1, Option.bind_some, f_X12_leads_b100, zlet, nI_1]
          have em1 : (t + 1) % 2 = 1 - t % 2 := by omega
          have em2 : 1 - (t + 1) % 2 = t % 2 := by omega
          refine ⟨(s2, be', wa', mn'), rfl, h1, fun _ => ?_, ?_, ?_, h2⟩
          · show LY ((t + 1) % 2) _ be' wa' mn' ∧ Emp (1 - (t + 1) % 2) be' mn'
            rw [em2, em1]
            exact ⟨w2, w3⟩
          · rcases (show t % 2 = 0 ∨ t % 2 = 1 by omega) with z | z
            · rw [z] at w3; exact w3.enm _
            · rw [z] at w2; exact w2.enm
          · rcases (show t % 2 = 0 ∨ t % 2 = 1 by omega) with z | z
            · rw [z] at w2; exact w2.enm
            · rw [z] at w3; exact w3.enm _
      have er : (32768 : Int32) * nI (t % 2) + nI tg = nI (32768 * (t % 2) + tg) := by rw [show (32768 : Int32) * nI (t % 2) = nI (32768 * (t % 2)) from pk_mul 32768 _, nI_add]
      have b34 : f_X12_leads_b15 (fu + 1) m (nI tg) (bbI bb) (nI t) (mmk M m s1 lg (arL ar be wa mn) en) = f_X12_leads_b34 (f_X12_leads_b15 fu) m (nI tg) (bbI bb) (nI t) (mmk M m s1 lg (arL ar be wa mn) en) := by
        rw [f_X12_leads_b15, if_neg (show ¬ (20 : Int32) < nI t from nI_nlt (a := 20) (by omega) (by omega))]
        cases bb with
        | true => rw [if_neg (show ¬ bbI true = 0 by decide)]
        | false =>
          have hz : s1 5 = -1 := by
            apply Classical.byContradiction
            intro z
            exact hx ⟨rfl, z⟩
          rw [if_pos (show bbI false = 0 from rfl), mm_gI16, Option.bind_some, if_pos hz]
      have v1' : be (32768 * (t % 2) + tg) = nI (bv tg) := v1
      rw [b34, f_X12_leads_b34, mm_gN13, Option.bind_some, n_rem2 (by omega), zlet, er, mm_rN7 (by omega), Option.bind_some, ebe, v1', zlet]
      rcases v3 with ⟨z1, z2⟩ | ⟨c, ⟨u, c1, c2⟩, c3, c4⟩
      · rw [z1, if_pos (show nI 0 - 1 < 0 by decide)]
        refine b86 s1 f1 ?_
        have hno : ∀ v, ¬ pkr (nxB B) p0 v t = tg := fun v hv => z2 _ ⟨v, hv, rfl⟩
        rcases f5' with ⟨a1, a2⟩ | ⟨u, T, a1, a2, a3, a4, a5, a6⟩
        · refine Or.inl ⟨a1, fun u T hT hg => ?_⟩
          by_cases e : T = t
          · subst e; exact hno u hg
          · exact a2 u T (by omega) hg
        · refine Or.inr ⟨u, T, by omega, a2, a3, a4, fun hb v s hs hv => ?_, a6⟩
          by_cases e : s = t
          · subst e; exact absurd hv (hno v)
          · exact a5 hb v s (by omega) hv
      · have hcl : c < 1048576 := by rw [c2]; exact wth_lt hb4.2 hb5.2 u (by omega)
        rw [c3, nI_pred, if_neg (nI_pos (by omega)), mm_gI16, Option.bind_some]
        -- found now
        have new : (bb = true → ∀ v s, s < t → pkr (nxB B) p0 v s = tg → c ≤ cst (B 4) (B 5) v s) → (bb = false → ∀ v s, s < t → ¬ pkr (nxB B) p0 v s = tg) → ∃ s' : (Nat → Int32) × (Nat → Int32) × (Nat → Int32) × (Nat → Int32), f_X12_leads_b74 (f_X12_leads_b15 fu) m (nI tg) (bbI bb) (nI t) (nI c) (mmk M m s1 lg (arL ar be wa mn) en) = f_X12_leads_b15 fu m (nI tg) (bbI bb) (nI (t + 1)) (mmk M m s'.1 lg (arL ar s'.2.1 s'.2.2.1 s'.2.2.2) en) ∧ (∀ j, j ≠ 5 → j ≠ 6 → s'.1 j = sc j) ∧ (t + 1 ≤ 20 → LY ((t + 1) % 2) (Ct bb (B 4) (B 5) (nxB B) p0 (t + 1)) s'.2.1 s'.2.2.1 s'.2.2.2 ∧ Emp (1 - (t + 1) % 2) s'.2.1 s'.2.2.2) ∧ Enm 0 s'.2.1 s'.2.2.1 s'.2.2.2 ∧ Enm 1 s'.2.1 s'.2.2.1 s'.2.2.2 ∧ Fnd bb (B 4) (B 5) (nxB B) p0 tg (t + 1) (s'.1 5) (s'.1 6) := by
          intro n1 n2
          rw [f_X12_leads_b74, mm_pI16, Option.bind_some, mm_pI17, Option.bind_some]
          refine b86 _ (fun j j5 j6 => by rw [up_n _ _ j6, up_n _ _ j5]; exact f1 j j5 j6) (Or.inr ⟨u, t, by omega, c1, by rw [up_n _ _ (by omega), up_s], by rw [up_s, c2], fun hb v s hs hv => ?_, fun hb => ⟨n2 hb, fun v hv => ?_⟩⟩)
          · subst hb
            have c2' : c = cst (B 4) (B 5) u t := c2
            rw [← c2']
            by_cases e : s = t
            · subst e; exact c4 _ ⟨v, hv, rfl⟩
            · exact n1 rfl v s (by omega) hv
          · subst hb
            have c2' : c = rvs u t := c2
            rw [← c2']
            exact c4 _ ⟨v, hv, rfl⟩
        rcases f5' with ⟨a1, a2⟩ | ⟨u', T, a1, a2, a3, a4, a5, a6⟩
        · rw [if_pos a1]
          exact new (fun _ v s hs hv => absurd hv (a2 v s hs)) (fun _ v s hs => a2 v s hs)
        · rw [if_neg (by rw [a3]; exact n_m1 (by omega)), mm_gI17, Option.bind_some, a4]
          have hbt : bb = true := by
            cases hb : bb with
            | true => rfl
            | false => exact absurd ⟨hb, by rw [a3]; exact n_m1 (by omega)⟩ hx
          have wl : wth bb (B 4) (B 5) u' T < 1048576 := wth_lt hb4.2 hb5.2 u' (by omega)
          subst hbt
          have g := a5 rfl
          have ew : wth true (B 4) (B 5) u' T = cst (B 4) (B 5) u' T := rfl
          have c2' : c = cst (B 4) (B 5) u t := c2
          by_cases hle : wth true (B 4) (B 5) u' T ≤ c
          · rw [if_pos (nI_le hle (by omega))]
            refine b86 s1 f1 (Or.inr ⟨u', T, by omega, a2, a3, a4, fun _ v s hs hv => ?_, fun hb => by cases hb⟩)
            by_cases e : s = t
            · subst e
              have : c ≤ cst (B 4) (B 5) v s := c4 _ ⟨v, hv, rfl⟩
              omega
            · exact g v s (by omega) hv
          · rw [if_neg (nI_ge (by omega) (by omega))]
            refine new (fun _ v s hs hv => ?_) (fun hb => by cases hb)
            have := g v s hs hv
            omega
  · obtain ⟨s1, be, wa, mn⟩ := s
    obtain ⟨f1, f2, f3, f4, f5⟩ := hI
    obtain ⟨q, k1, k2⟩ := fin 21 (s1, be, wa, mn) f1 f3 f4 f5 (by omega) (Or.inl rfl)
    refine ⟨q, ?_, k2⟩
    show f_X12_leads_b15 (fu + 1) m (nI tg) (bbI bb) (nI 21) (mmk M m s1 lg (arL ar be wa mn) en) = some q
    rw [f_X12_leads_b15, if_pos (show (20 : Int32) < nI 21 by decide)]
    exact k1
end ME2
