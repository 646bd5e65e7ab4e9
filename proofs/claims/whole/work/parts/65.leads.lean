theorem n_m1 {a : Nat} (h : a < 2 ^ 31) : ¬ nI a = -1 := fun z => nI_pos h (by rw [z]; decide)
section MLD
variable {M : zMe} {m : Nat} {sc : Nat → Int32} {lg : Nat → Int64} {ar : Nat → Nat → Int32} {en : Nat → Int64} {B : Nat → Nat} {be wa mn : Nat → Int32} {bb : Bool} {p0 : Nat}
def bbI (bb : Bool) : Int32 := if bb then 1 else 0
theorem cp_step (bb : Bool) (b0 b1 : Nat) (nx : Nat → Nat → Nat → Nat) (p0 t : Nat) (q : Nat → Nat) (k w : Nat) (s c : Nat) : Cp bb b0 b1 nx p0 t q k (w + 1) s c ↔ Cp bb b0 b1 nx p0 t q k w s c ∨ (s = nx w t (q k) ∧ ∃ u, pkr nx p0 u t = q k ∧ (if u.testBit t then 1 else 0) = w ∧ c = wth bb b0 b1 u (t + 1)) := by
  constructor
  · rintro ⟨u, h1, h2, h3 | ⟨h3, h4⟩⟩
    · exact Or.inl ⟨u, h1, h2, Or.inl h3⟩
    · by_cases e : (if u.testBit t then 1 else 0) = w
      · refine Or.inr ⟨?_, u, h3, e, h2⟩
        rw [← h1, pkr, h3, e]
      · exact Or.inl ⟨u, h1, h2, Or.inr ⟨h3, by omega⟩⟩
  · rintro (⟨u, h1, h2, h3 | ⟨h3, h4⟩⟩ | ⟨h1, u, h2, h3, h4⟩)
    · exact ⟨u, h1, h2, Or.inl h3⟩
    · exact ⟨u, h1, h2, Or.inr ⟨h3, by omega⟩⟩
    · exact ⟨u, by rw [pkr, h2, h3, h1], h4, Or.inr ⟨h2, by omega⟩⟩
theorem cp_next (bb : Bool) (b0 b1 : Nat) (nx : Nat → Nat → Nat → Nat) (p0 t : Nat) (q : Nat → Nat) (k : Nat) (s c : Nat) : Cp bb b0 b1 nx p0 t q (k + 1) 0 s c ↔ Cp bb b0 b1 nx p0 t q k 2 s c := by
  constructor
  · rintro ⟨u, h1, h2, ⟨i, i1, i2⟩ | ⟨_, h4⟩⟩
    · by_cases e : i = k
      · subst e; exact ⟨u, h1, h2, Or.inr ⟨i2, bw2 _⟩⟩
      · exact ⟨u, h1, h2, Or.inl ⟨i, by omega, i2⟩⟩
    · omega
  · rintro ⟨u, h1, h2, ⟨i, i1, i2⟩ | ⟨h3, _⟩⟩
    · exact ⟨u, h1, h2, Or.inl ⟨i, by omega, i2⟩⟩
    · exact ⟨u, h1, h2, Or.inl ⟨k, by omega, h3⟩⟩
theorem m_lay2 (k7 : Nat → Int32 → Int32 → Int32 → Int32 → zMe → Option zMe) (hB : Bk (ar 0) B) (hW : WB B) {t l k c : Nat} {q : Nat → Nat} (ht : t < 20) (hl : l < 2) (hqk : q k < 32768) (hc : c < 1048576) (hbest : Best (Ct bb (B 4) (B 5) (nxB B) p0 t (q k)) (c + 1)) (hst : ∀ u t, pkr (nxB B) p0 u t < 32768) (h : LY (1 - l) (Cp bb (B 4) (B 5) (nxB B) p0 t q k 0) be wa mn) : ∃ be' wa' mn', f_X12_layer_b64 k7 zfu m (nI t) (bbI bb) (nI l) (nI k) (nI (q k)) (nI c) (nI 0) (mmk M m sc lg (arL ar be wa mn) en) = k7 m (nI t) (bbI bb) (nI l) (nI (k + 1)) (mmk M m sc lg (arL ar be' wa' mn') en) ∧ LY (1 - l) (Cp bb (B 4) (B 5) (nxB B) p0 t q (k + 1) 0) be' wa' mn' ∧ (∀ k, k < 32768 * (1 - l) ∨ 32768 * (1 - l) + 32768 ≤ k → be' k = be k ∧ wa' k = wa k) ∧ (∀ k, k ≠ 1 - l → mn' k = mn k) := by
  obtain ⟨u0, hu0, hcu, hmin⟩ : ∃ u0, pkr (nxB B) p0 u0 t = q k ∧ c = wth bb (B 4) (B 5) u0 t ∧ ∀ u, pkr (nxB B) p0 u t = q k → c ≤ wth bb (B 4) (B 5) u t := by
    rcases hbest with ⟨z, _⟩ | ⟨c', ⟨u, e1, e2⟩, e3, e4⟩
    · omega
    · have : c' = c := by omega
      subst this
      exact ⟨u, e1, e2, fun v hv => e4 _ ⟨v, hv, rfl⟩⟩
  have hb4 := hW.b4
  have hb5 := hW.b5
  have lp := loopC (S := (Nat → Int32) × (Nat → Int32) × (Nat → Int32)) (S' := (Nat → Int32) × (Nat → Int32) × (Nat → Int32)) (R := Option zMe) (fun fuel w s => f_X12_layer_b64 k7 fuel m (nI t) (bbI bb) (nI l) (nI k) (nI (q k)) (nI c) (nI w) (mmk M m sc lg (arL ar s.1 s.2.1 s.2.2) en)) (fun s => k7 m (nI t) (bbI bb) (nI l) (nI (k + 1)) (mmk M m sc lg (arL ar s.1 s.2.1 s.2.2) en)) 2
    (fun w s => LY (1 - l) (Cp bb (B 4) (B 5) (nxB B) p0 t q k w) s.1 s.2.1 s.2.2 ∧ (∀ k, k < 32768 * (1 - l) ∨ 32768 * (1 - l) + 32768 ≤ k → s.1 k = be k ∧ s.2.1 k = wa k) ∧ (∀ k, k ≠ 1 - l → s.2.2 k = mn k))
    (fun s => LY (1 - l) (Cp bb (B 4) (B 5) (nxB B) p0 t q (k + 1) 0) s.1 s.2.1 s.2.2 ∧ (∀ k, k < 32768 * (1 - l) ∨ 32768 * (1 - l) + 32768 ≤ k → s.1 k = be k ∧ s.2.1 k = wa k) ∧ (∀ k, k ≠ 1 - l → s.2.2 k = mn k))
    (by omega) (fun fu w s hw hI => ?_) (fun fu s hI => ?_) (be, wa, mn) ⟨h, fun _ _ => ⟨rfl, rfl⟩, fun _ _ => rfl⟩
  · obtain ⟨⟨be', wa', mn'⟩, e, y⟩ := lp
    exact ⟨be', wa', mn', e, y⟩
  · obtain ⟨be1, wa1, mn1⟩ := s
    obtain ⟨i1, i2, i3⟩ := hI
    have hB1 : Bk (arL ar be1 wa1 mn1 0) B := hB
    have hs' : nxB B w t (q k) < 32768 := by
      have := hst (spl u0 t w 0) (t + 1)
      rw [pkr, show (spl u0 t w 0).testBit t = w.testBit 0 from spl_hi u0 t w 0 0, pkr_agr t (fun i hi => spl_lo u0 t w 0 hi), hu0] at this
      rcases (show w = 0 ∨ w = 1 by omega) with rfl | rfl
      · simpa using this
      · simpa using this
    have hwc : wst bb (B 4) (B 5) c w + 1 < 2 ^ 30 := by
      unfold wst
      split
      · split <;> omega
      · omega
    obtain ⟨be2, wa2, mn2, g1, g2, g3, g4⟩ := m_comesTo (M := M) (m := m) (sc := sc) (lg := lg) (ar := ar) (en := en) (l := 1 - l) (by omega) (C' := Cp bb (B 4) (B 5) (nxB B) p0 t q k (w + 1)) (E := fun c' => ∃ u, pkr (nxB B) p0 u t = q k ∧ (if u.testBit t then 1 else 0) = w ∧ c' = wth bb (B 4) (B 5) u (t + 1)) (c0 := wst bb (B 4) (B 5) c w) i1 hs' hwc (cp_step bb (B 4) (B 5) (nxB B) p0 t q k w) ⟨spl u0 t w 0, by rw [pkr_agr t (fun i hi => spl_lo u0 t w 0 hi)]; exact hu0, by
        rw [show (spl u0 t w 0).testBit t = w.testBit 0 from spl_hi u0 t w 0 0]
        rcases (show w = 0 ∨ w = 1 by omega) with rfl | rfl <;> simp, by
        rw [wth_s, wth_agr (fun i hi => spl_lo u0 t w 0 hi), ← hcu, show (spl u0 t w 0).testBit t = w.testBit 0 from spl_hi u0 t w 0 0]
        rcases (show w = 0 ∨ w = 1 by omega) with rfl | rfl <;> simp⟩ (fun c' hc' => by
        obtain ⟨u, e1, e2, e3⟩ := hc'
        rw [e3, wth_s, e2]
        exact wst_mono (hmin u e1))
    refine ⟨(be2, wa2, mn2), ?_, g2, fun k hk => ⟨(g3 k hk).1.trans (i2 k hk).1, (g3 k hk).2.trans (i2 k hk).2⟩, fun k hk => (g4 k hk).trans (i3 k hk)⟩
    show f_X12_layer_b64 k7 (fu + 1) m (nI t) (bbI bb) (nI l) (nI k) (nI (q k)) (nI c) (nI w) (mmk M m sc lg (arL ar be1 wa1 mn1) en) = f_X12_layer_b64 k7 fu m (nI t) (bbI bb) (nI l) (nI k) (nI (q k)) (nI c) (nI (w + 1)) (mmk M m sc lg (arL ar be2 wa2 mn2) en)
    have e1l : (1 : Int32) - nI l = nI (1 - l) := pk_sub (a := 1) (by omega)
    rw [f_X12_layer_b64, if_neg (show ¬ (2 : Int32) ≤ nI w from nI_ge (b := 2) hw (by omega)), mm_ob, Option.bind_some, m_after hB1 hW hqk hw (by omega), Option.bind_some, e1l]
    cases bb with
    | false =>
      rw [if_pos (show bbI false = 0 from rfl), f_X12_layer_b109, mm_ob, Option.bind_some, show (2 : Int32) * nI c = nI (2 * c) from pk_mul 2 c, nI_add]
      have g1' : f_X12_comesTo m (nI (1 - l)) (nI (nxB B w t (q k))) (nI (2 * c + w)) (mmk M m sc lg (arL ar be1 wa1 mn1) en) = some (mmk M m sc lg (arL ar be2 wa2 mn2) en) := g1
      rw [g1', Option.bind_some, zlet, nI_1]
    | true =>
      have r4 : zrI (mmk M m sc lg (arL ar be1 wa1 mn1) en) (m + 1) (4 + nI w) = some (nI (if w = 0 then B 4 else B 5)) := by
        rw [show (4 : Int32) + nI w = nI (4 + w) from nI_add 4 w, mm_rN1 (by omega), hB1 (4 + w) (by omega)]
        rcases (show w = 0 ∨ w = 1 by omega) with rfl | rfl <;> rfl
      rw [if_neg (show ¬ bbI true = 0 by decide), mm_gN0, Option.bind_some, r4, Option.bind_some, f_X12_layer_b109, mm_ob, Option.bind_some, nI_add]
      have g1' : f_X12_comesTo m (nI (1 - l)) (nI (nxB B w t (q k))) (nI (c + (if w = 0 then B 4 else B 5))) (mmk M m sc lg (arL ar be1 wa1 mn1) en) = some (mmk M m sc lg (arL ar be2 wa2 mn2) en) := g1
      rw [g1', Option.bind_some, zlet, nI_1]
  · obtain ⟨be1, wa1, mn1⟩ := s
    obtain ⟨i1, i2, i3⟩ := hI
    refine ⟨(be1, wa1, mn1), ?_, i1.iff (fun s _ c => cp_next bb (B 4) (B 5) (nxB B) p0 t q k s c), i2, i3⟩
    show f_X12_layer_b64 k7 (fu + 1) m (nI t) (bbI bb) (nI l) (nI k) (nI (q k)) (nI c) (nI 2) (mmk M m sc lg (arL ar be1 wa1 mn1) en) = _
    rw [f_X12_layer_b64, if_pos (show (2 : Int32) ≤ nI 2 by decide), zlet, nI_1]
theorem m_layer (hB : Bk (ar 0) B) (hW : WB B) {t : Nat} (ht : t < 20) (hst : ∀ u t, pkr (nxB B) p0 u t < 32768) (h : LY (t % 2) (Ct bb (B 4) (B 5) (nxB B) p0 t) be wa mn) (he : Emp (1 - t % 2) be mn) : ∃ be' wa' mn', f_X12_layer m (nI t) (bbI bb) (mmk M m sc lg (arL ar be wa mn) en) = some (mmk M m sc lg (arL ar be' wa' mn') en) ∧ LY (1 - t % 2) (Ct bb (B 4) (B 5) (nxB B) p0 (t + 1)) be' wa' mn' ∧ Emp (t % 2) be' mn' := by
  obtain ⟨l, hl⟩ : ∃ l, l = t % 2 := ⟨_, rfl⟩
  have hl2 : l < 2 := by omega
  rw [← hl] at h he ⊢
  obtain ⟨bv, q, cnt, h1, h2, h3, h4, h5, h6⟩ := h
  have ebe : ∀ be wa mn : Nat → Int32, arL ar be wa mn 6 = be := fun _ _ _ => rfl
  have ewa : ∀ be wa mn : Nat → Int32, arL ar be wa mn 7 = wa := fun _ _ _ => rfl
  have emn : ∀ be wa mn : Nat → Int32, arL ar be wa mn 8 = mn := fun _ _ _ => rfl
  have hb4 := hW.b4
  have hb5 := hW.b5
  have lp := loopC (S := (Nat → Int32) × (Nat → Int32) × (Nat → Int32)) (S' := (Nat → Int32) × (Nat → Int32) × (Nat → Int32)) (R := Option zMe) (fun fuel k s => f_X12_layer_b7 fuel m (nI t) (bbI bb) (nI l) (nI k) (mmk M m sc lg (arL ar s.1 s.2.1 s.2.2) en)) (fun s => some (mmk M m sc lg (arL ar s.1 s.2.1 s.2.2) en)) cnt
    (fun k s => LY (1 - l) (Cp bb (B 4) (B 5) (nxB B) p0 t q k 0) s.1 s.2.1 s.2.2 ∧ (∀ j, s.2.1 (32768 * l + j) = wa (32768 * l + j) ∨ 32768 ≤ j) ∧ s.2.2 l = mn l ∧ (∀ j, s.1 (32768 * l + j) = (if ∃ i, i < k ∧ q i = j then 0 else be (32768 * l + j)) ∨ 32768 ≤ j))
    (fun s => LY (1 - l) (Ct bb (B 4) (B 5) (nxB B) p0 (t + 1)) s.1 s.2.1 s.2.2 ∧ Emp l s.1 s.2.2)
    (by omega) (fun fu k s hk hI => ?_) (fun fu s hI => ?_) (be, wa, mn) ⟨(he.ly wa).iff (fun s _ c => ⟨fun ⟨u, _, _, o⟩ => ?_, fun z => absurd z id⟩), fun _ => Or.inl rfl, rfl, fun j => Or.inl (by rw [if_neg]; rintro ⟨i, i1, _⟩; omega)⟩
  · obtain ⟨⟨be', wa', mn'⟩, e, y⟩ := lp
    refine ⟨be', wa', mn', ?_, y⟩
    have e' : f_X12_layer_b7 zfu m (nI t) (bbI bb) (nI l) (nI 0) (mmk M m sc lg (arL ar be wa mn) en) = some (mmk M m sc lg (arL ar be' wa' mn') en) := e
    rw [nI_0] at e'
    rw [f_X12_layer, n_rem2 (by omega), zlet, ← hl]
    exact e'
  · obtain ⟨be1, wa1, mn1⟩ := s
    obtain ⟨i1, i2, i3, i4⟩ := hI
    obtain ⟨k1, k2, k3⟩ := h4 k hk
    obtain ⟨b1, b2, b3⟩ := h1 (q k) k2
    have hneq : ¬ ∃ i, i < k ∧ q i = q k := fun ⟨i, a, b⟩ => h5 i k a hk b
    have vb : be1 (32768 * l + q k) = nI (bv (q k)) := by
      rcases i4 (q k) with z | z
      · have z' : be1 (32768 * l + q k) = _ := z
        rw [z', if_neg hneq]; exact b1
      · omega
    have vw : wa1 (32768 * l + k) = nI (q k) := by
      rcases i2 k with z | z
      · have z' : wa1 (32768 * l + k) = _ := z
        rw [z']; exact k1
      · omega
    obtain ⟨c, hc⟩ : ∃ c, bv (q k) = c + 1 := ⟨bv (q k) - 1, by omega⟩
    have hclt : c < 1048576 := by
      rcases b3 with ⟨z, _⟩ | ⟨c', ⟨u, e1, e2⟩, e3, e4⟩
      · omega
      · have : c = c' := by omega
        rw [this, e2]
        exact wth_lt hb4.2 hb5.2 u (by omega)
    have i1' : LY (1 - l) (Cp bb (B 4) (B 5) (nxB B) p0 t q k 0) (upd be1 (32768 * l + q k) 0) wa1 mn1 := by
      obtain ⟨bv', q', cnt', j1, j2⟩ := i1
      refine ⟨bv', q', cnt', fun s hs => ⟨?_, (j1 s hs).2⟩, j2⟩
      rw [up_n _ _ (by omega)]
      exact (j1 s hs).1
    obtain ⟨be2, wa2, mn2, g1, g2, g3, g4⟩ := m_lay2 (M := M) (m := m) (sc := sc) (lg := lg) (en := en) (ar := ar) (f_X12_layer_b7 fu) hB hW ht hl2 k2 hclt (by rw [← hc]; exact b3) hst i1'
    refine ⟨(be2, wa2, mn2), ?_, g2, fun j => ?_, ?_, fun j => ?_⟩
    · show f_X12_layer_b7 (fu + 1) m (nI t) (bbI bb) (nI l) (nI k) (mmk M m sc lg (arL ar be1 wa1 mn1) en) = f_X12_layer_b7 fu m (nI t) (bbI bb) (nI l) (nI (k + 1)) (mmk M m sc lg (arL ar be2 wa2 mn2) en)
      have i3' : mn1 l = mn l := i3
      have er1 : (32768 : Int32) * nI l + nI k = nI (32768 * l + k) := by rw [show (32768 : Int32) * nI l = nI (32768 * l) from pk_mul 32768 l, nI_add]
      have er2 : (32768 : Int32) * nI l + nI (q k) = nI (32768 * l + q k) := by rw [show (32768 : Int32) * nI l = nI (32768 * l) from pk_mul 32768 l, nI_add]
      rw [nI_0] at g1
      rw [f_X12_layer_b7, mm_gN15, Option.bind_some, mm_rN9 hl2, Option.bind_some, emn, i3', h2, if_neg (nI_ge hk (by omega)), mm_gN14, Option.bind_some, er1, mm_rN8 (by omega), Option.bind_some, ewa, vw, mm_gN13, Option.bind_some, er2, mm_rN7 (by omega), Option.bind_some, ebe, vb, hc, nI_pred, zlet, Option.bind_some, mm_wN7 (by omega), Option.bind_some, ebe, arL_6]
      exact g1
    · by_cases hj : 32768 ≤ j
      · exact Or.inr hj
      · refine Or.inl ?_
        show wa2 (32768 * l + j) = _
        rw [(g3 _ (by omega)).2]
        exact (i2 j).resolve_right hj
    · show mn2 l = mn l
      rw [g4 l (by omega)]
      exact i3
    · by_cases hj : 32768 ≤ j
      · exact Or.inr hj
      · refine Or.inl ?_
        show be2 (32768 * l + j) = _
        rw [(g3 _ (by omega)).1]
        by_cases e : j = q k
        · rw [e, up_s, if_pos ⟨k, by omega, rfl⟩]
        · rw [up_n _ _ (by omega)]
          have z := (i4 j).resolve_right hj
          have z' : be1 (32768 * l + j) = _ := z
          rw [z']
          by_cases o : ∃ i, i < k ∧ q i = j
          · obtain ⟨i, a, b⟩ := o
            rw [if_pos ⟨i, a, b⟩, if_pos ⟨i, by omega, b⟩]
          · rw [if_neg o, if_neg]
            rintro ⟨i, a, b⟩
            by_cases ei : i = k
            · subst ei; exact e b.symm
            · exact o ⟨i, by omega, b⟩
  · obtain ⟨be1, wa1, mn1⟩ := s
    obtain ⟨i1, i2, i3, i4⟩ := hI
    refine ⟨(be1, wa1, upd mn1 l 0), ?_, ?_, fun s hs => ?_, up_s _ _ _⟩
    · show f_X12_layer_b7 (fu + 1) m (nI t) (bbI bb) (nI l) (nI cnt) (mmk M m sc lg (arL ar be1 wa1 mn1) en) = _
      have i3' : mn1 l = mn l := i3
      rw [f_X12_layer_b7, mm_gN15, Option.bind_some, mm_rN9 hl2, Option.bind_some, emn, i3', h2, if_pos (nI_le (Nat.le_refl _) (by omega)), Option.bind_some, mm_wN9 hl2, Option.bind_some, emn, arL_8]
    · have i1' := i1.iff (C' := Ct bb (B 4) (B 5) (nxB B) p0 (t + 1)) (fun s _ c => ⟨fun ⟨u, e1, e2⟩ => ?_, fun ⟨u, e1, e2, _⟩ => ⟨u, e1, e2⟩⟩)
      · obtain ⟨bv', q', cnt', j1, j2, j3⟩ := i1'
        refine ⟨bv', q', cnt', j1, ?_, j3⟩
        show upd mn1 l 0 (1 - l) = nI cnt'
        rw [up_n _ _ (by omega)]
        exact j2
      · refine ⟨u, e1, e2, Or.inl ?_⟩
        have hs := hst u t
        have hne : bv (pkr (nxB B) p0 u t) ≠ 0 := fun z => by
          rcases (h1 _ hs).2.2 with ⟨_, z2⟩ | ⟨c', _, z3, _⟩
          · exact z2 _ ⟨u, rfl, rfl⟩
          · omega
        obtain ⟨k, a, b⟩ := h6 _ hs hne
        exact ⟨k, a, b.symm⟩
    · show be1 (32768 * l + s) = 0
      have z := (i4 s).resolve_right (by omega)
      have z' : be1 (32768 * l + s) = _ := z
      rw [z']
      by_cases hz : bv s = 0
      · rw [(h1 s hs).1, hz]
        split <;> rfl
      · obtain ⟨k, a, b⟩ := h6 s hs hz
        rw [if_pos ⟨k, a, b⟩]
  · rcases o with ⟨i, i1, _⟩ | ⟨_, i2⟩
    · omega
    · omega
end MLD
