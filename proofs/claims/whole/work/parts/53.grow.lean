def Hs (N sr : Nat) (v : Nat → Nat) (key b : Nat) : Prop := ∃ i, i < N ∧ ow sr (v i) = true ∧ sky (v i) = key ∧ sbr (v i) = b
theorem hs_put {N sr : Nat} {v : Nat → Nat} {key i : Nat} (hH : HT N sr v) (hS : Slt N sr v key i) {x : Nat} (ox : ow sr x = true) (kx : sky x = key) (q b : Nat) : Hs N sr (upN v i x) q b ↔ (q = key ∧ b = sbr x) ∨ (q ≠ key ∧ Hs N sr v q b) := by
  constructor
  · rintro ⟨j, j1, j2, j3, j4⟩
    by_cases e : j = i
    · rw [e, upN_s] at j3 j4
      exact Or.inl ⟨by rw [← j3, kx], j4.symm⟩
    · rw [upN_n _ _ e] at j2 j3 j4
      refine Or.inr ⟨fun z => e (ht_at hH hS j1 j2 (by rw [j3, z])), j, j1, j2, j3, j4⟩
  · rintro (⟨h1, h2⟩ | ⟨h1, j, j1, j2, j3, j4⟩)
    · exact ⟨i, hS.1, by rw [upN_s]; exact ox, by rw [upN_s, kx, h1], by rw [upN_s, h2]⟩
    · have e : j ≠ i := fun z => by
        rw [z] at j2 j3
        exact h1 (by rw [← j3]; exact hS.2.1 j2)
      exact ⟨j, j1, by rw [upN_n _ _ e]; exact j2, by rw [upN_n _ _ e]; exact j3, by rw [upN_n _ _ e]; exact j4⟩
theorem cn_mono (sr : Nat) (v : Nat → Nat) {a b : Nat} (h : a ≤ b) : cn sr v a ≤ cn sr v b := by
  induction b with
  | zero => rw [show a = 0 by omega]; exact Nat.le_refl _
  | succ b ih =>
    by_cases e : a = b + 1
    · rw [e]; exact Nat.le_refl _
    · rw [cn]
      have := ih (by omega)
      omega
section SG
variable {M : zMe} {s a N us sr : Nat} {v : Nat → Nat} {sm : Nat → Option Nat}
theorem updL_v {f : Nat → Int64} {w : Nat → Nat} {N i x : Nat} (h : ∀ k, k < N → f k = lN (w k)) : ∀ k, k < N → vp_updL f i (lN x) k = lN (upN w i x k) := by
  intro k hk
  by_cases e : k = i
  · subst e; rw [pk_uLs, upN_s]
  · rw [pk_uLn e, upN_n _ _ e]; exact h k hk
theorem se_grow (h : SE M s a N us sr v sm) (hu : us ≤ N) : ∃ M' a' N' v', f_X8_grow s M = some M' ∧ SE M' s a' N' us sr v' sm ∧ 2 * us ≤ N' ∧ SFr M M' s a N a' N' := by
  have hh := h
  obtain ⟨h1, ⟨fs, h2, h3⟩, h4, h5, h6, h7, h8, h9, h10, h11, h12, h13⟩ := h
  have hb := h7.lt
  have hc := cn_le h11
  rw [f_X8_grow, se_g1 h1, Option.bind_some, se_g0 h1, Option.bind_some, ln_at h2, Option.bind_some, show (2 : Int32) * nI us = nI (2 * us) from pk_mul 2 us]
  by_cases hle : 2 * us ≤ N
  · rw [if_pos (nI_le hle (by omega)), f_X8_grow_b24]
    exact ⟨M, a, N, v, rfl, hh, hle, Nat.le_refl _, fun _ _ _ _ => rfl, Or.inl rfl, fun z => z, Nat.le_refl _, Nat.le_refl _⟩
  · rw [if_neg (nI_ge (by omega) (by omega)), Option.bind_some]
    have hN : N < 131072 := by omega
    rw [ln_at h2, Option.bind_some, if_pos (show nI N < 131072 from nI_lt (b := 131072) hN (by omega)), Option.bind_some, ln_at h2, Option.bind_some, show (2 : Int32) * nI N = nI (2 * N) from pk_mul 2 N]
    have hz : znL M (nI (2 * N)) = some (zAdd M (lgA (2 * N) (fun _ => 0)) (2 * N)) := by
      unfold znL
      rw [nI_clamp (show 2 * N < 2 ^ 31 by omega), if_neg (show ¬ (nI (2 * N) < 0 ∨ 16777216 < 2 * N) from fun o => o.elim (nI_pos (by omega)) (by omega))]
      rfl
    have hs1 : (zAdd M (lgA (2 * N) (fun _ => 0)) (2 * N)).1 s = some (.inr (8, seF a us sr)) := by rw [zA_n _ _ _ (by omega)]; exact h1
    rw [hz, Option.bind_some, se_p0 hs1, Option.bind_some]
    have hP : Pw (2 * N) := by
      obtain ⟨K, e, k1, k2⟩ := h7
      refine ⟨K + 1, by rw [Nat.pow_succ]; omega, by omega, ?_⟩
      apply Classical.byContradiction
      intro z
      have : K = 17 := by omega
      subst this
      have : (2 : Nat) ^ 17 = 131072 := by decide
      omega
    have key := loopC (S := zMe) (S' := zMe) (fun fuel j r => f_X8_grow_b42 fuel s a (nI j) r) (fun r => some r) N (fun j r => ∃ w fw, r.1 s = some (.inr (8, seF M.2.1 us sr)) ∧ r.1 M.2.1 = some (lgA (2 * N) fw) ∧ (∀ i, i < 2 * N → fw i = lN (w i)) ∧ r.2 = (M.2.1 + 1, M.2.2 + 2 * N) ∧ (∀ q, q ≠ s → q ≠ M.2.1 → r.1 q = M.1 q) ∧ HT (2 * N) sr w ∧ (∀ i, i < 2 * N → w i / 16777216 ≤ sr) ∧ cn sr w (2 * N) = cn sr v j ∧ ∀ q b, Hs (2 * N) sr w q b ↔ Hs j sr v q b) (fun r => ∃ w fw, r.1 s = some (.inr (8, seF M.2.1 us sr)) ∧ r.1 M.2.1 = some (lgA (2 * N) fw) ∧ (∀ i, i < 2 * N → fw i = lN (w i)) ∧ r.2 = (M.2.1 + 1, M.2.2 + 2 * N) ∧ (∀ q, q ≠ s → q ≠ M.2.1 → r.1 q = M.1 q) ∧ HT (2 * N) sr w ∧ (∀ i, i < 2 * N → w i / 16777216 ≤ sr) ∧ cn sr w (2 * N) = cn sr v N ∧ ∀ q b, Hs (2 * N) sr w q b ↔ Hs N sr v q b) (by omega) (fun fu j r hj hI => ?_) (fun fu r hI => ?_) (zSet (zAdd M (lgA (2 * N) (fun _ => 0)) (2 * N)) s (.inr (8, seF M.2.1 us sr))) ⟨fun _ => 0, fun _ => 0, zS_s _ _ _, ?_, fun i _ => rfl, rfl, fun q q1 q2 => ?_, fun i hi ho => ?_, fun i hi => (by show 0 / 16777216 ≤ sr; omega), ?_, fun q b => ?_⟩
    · obtain ⟨r, e, w, fw, w1, w2, w3, w4, w5, w6, w7, w8, w9⟩ := key
      have e : f_X8_grow_b42 zfu s a (nI 0) (zSet (zAdd M (lgA (2 * N) (fun _ => 0)) (2 * N)) s (.inr (8, seF M.2.1 us sr))) = some r := e
      rw [nI_0] at e
      rw [e]
      have w41 : r.2.1 = M.2.1 + 1 := by rw [w4]
      have w42 : r.2.2 = M.2.2 + 2 * N := by rw [w4]
      refine ⟨r, M.2.1, 2 * N, w, rfl, ⟨w1, ⟨fw, w2, w3⟩, by omega, by omega, by omega, hP, w7, h9, h10, w6, fun q b => ?_, by rw [w8]; exact h13⟩, by omega, by omega, fun q q1 q2 q3 => w5 q q2 (by omega), Or.inr ⟨Nat.le_refl _, by omega⟩, fun hf q hq => ?_, by omega, by omega⟩
      · exact (h12 q b).trans (w9 q b).symm
      · rw [w5 q (by omega) (by omega)]; exact hf q (by omega)
    · obtain ⟨w, fw, w1, w2, w3, w4, w5, w6, w7, w8, w9⟩ := hI
      have ra : r.1 a = some (lgA N fs) := by rw [w5 a (Ne.symm h4) (by omega)]; exact h2
      have rd : zrL r a (nI j) = some (lN (v j)) := by rw [rL_at ra hj (by omega), h3 j hj]
      have hv63 := vb63 (h8 j hj) h10
      show ∃ s', f_X8_grow_b42 (fu + 1) s a (nI j) r = f_X8_grow_b42 fu s a (nI (j + 1)) s' ∧ _
      rw [f_X8_grow_b42, ln_at ra, Option.bind_some, if_neg (nI_ge hj (by omega)), rd, Option.bind_some, se_ob w1, Option.bind_some, se_ours w1 h10 hv63, Option.bind_some]
      cases ho : ow sr (v j) with
      | false =>
        simp only [if_false, Bool.false_eq_true, if_true, f_X8_grow_b76, zlet, nI_1]
        refine ⟨r, rfl, w, fw, w1, w2, w3, w4, w5, w6, w7, by rw [w8, cn, ho]; rfl, fun q b => (w9 q b).trans ⟨fun ⟨i, i1, i2⟩ => ⟨i, by omega, i2⟩, fun ⟨i, i1, i2, i3⟩ => ⟨i, ?_, i2, i3⟩⟩⟩
        have : i ≠ j := fun z => by rw [z, ho] at i2; cases i2
        omega
      | true =>
        have hcm := cn_mono sr v (Nat.le_of_lt hj)
        obtain ⟨i, e, hS⟩ := se_slot (key := sky (v j)) w1 h10 w2 hP (fun i hi => ⟨w3 i hi, vb63 (w7 i hi) h10⟩) (cn_free _ (by omega)) (sky_lt _)
        have hno : ∀ b, ¬ Hs (2 * N) sr w (sky (v j)) b := fun b hz => by
          obtain ⟨i', i1, i2, i3, i4⟩ := (w9 _ b).mp hz
          obtain ⟨r', hr', f', hp'⟩ := h11 j hj ho
          have := ht_at h11 (i := j) (key := sky (v j)) ⟨hj, fun _ => rfl, r', hr', f', hp'⟩ (show i' < N by omega) i2 i3
          omega
        have hni : ow sr (w i) = false := by
          cases hz : ow sr (w i) with
          | false => rfl
          | true => exact absurd ⟨i, hS.1, hz, hS.2.1 hz, rfl⟩ (hno (sbr (w i)))
        simp only [if_true]
        rw [if_neg (by decide), se_g0 w1, Option.bind_some, rd, Option.bind_some, se_key hv63, Option.bind_some, se_ob w1, Option.bind_some, e, Option.bind_some, rd, Option.bind_some, wL_at w2 hS.1 (by omega), Option.bind_some, f_X8_grow_b76, zlet, nI_1]
        refine ⟨zSet r M.2.1 (lgA (2 * N) (vp_updL fw i (lN (v j)))), rfl, upN w i (v j), vp_updL fw i (lN (v j)), ?_, zS_s _ _ _, updL_v w3, w4, fun q q1 q2 => ?_, ht_put w6 hS ho rfl, fun k hk => ?_, ?_, fun q b => ?_⟩
        · rw [zS_n _ _ (by omega)]; exact w1
        · rw [zS_n _ _ q2]; exact w5 q q1 q2
        · by_cases ek : k = i
          · rw [ek, upN_s]; exact h8 j hj
          · rw [upN_n _ _ ek]; exact w7 k hk
        · rw [cn_upd (n := 0) ho, hni, w8, cn, ho]
          simp [hS.1]
        · rw [hs_put w6 hS ho rfl, w9 q b]
          constructor
          · rintro (⟨k1, k2⟩ | ⟨k1, i', i1, i2⟩)
            · exact ⟨j, by omega, ho, k1.symm, k2.symm⟩
            · exact ⟨i', by omega, i2⟩
          · rintro ⟨i', i1, i2, i3, i4⟩
            by_cases ei : i' = j
            · subst ei; exact Or.inl ⟨i3.symm, i4.symm⟩
            · refine Or.inr ⟨fun z => ?_, i', by omega, i2, i3, i4⟩
              exact hno b ((w9 _ b).mpr ⟨i', by omega, i2, by rw [i3, z], i4⟩)
    · obtain ⟨w, fw, w1, w2, w3, w4, w5, w6⟩ := hI
      have ra : r.1 a = some (lgA N fs) := by rw [w5 a (Ne.symm h4) (by omega)]; exact h2
      refine ⟨r, ?_, w, fw, w1, w2, w3, w4, w5, w6⟩
      show f_X8_grow_b42 (fu + 1) s a (nI N) r = some r
      rw [f_X8_grow_b42, ln_at ra, Option.bind_some, if_pos (nI_le (Nat.le_refl N) (by omega))]
    · rw [zS_n _ _ (by omega)]; exact zA_s _ _ _
    · rw [zS_n _ _ q1, zA_n _ _ _ q2]
    · simp only [ow, decide_eq_true_iff] at ho
      omega
    · have : ∀ n, cn sr (fun _ => 0) n = 0 := by
        intro n
        induction n with
        | zero => rfl
        | succ n ih =>
          rw [cn, ih]
          have : ow sr 0 = false := by
            simp only [ow, decide_eq_false_iff_not]
            omega
          simp [this]
      rw [this]
      rfl
    · constructor
      · rintro ⟨i, i1, i2, i3⟩
        simp only [ow, decide_eq_true_iff] at i2
        omega
      · rintro ⟨i, i1, i2⟩
        omega
theorem se_enc {key b : Nat} (hs : sr < 2 ^ 20) (hk : key < 65536) (hb : b < 256) : (((lN sr <<< ((16 : Int32).toInt64 &&& 63)) ||| (nI key).toInt64) <<< ((8 : Int32).toInt64 &&& 63)) ||| (nI b).toInt64 = lN (smk sr key b) := by
  rw [nI_l (by omega), nI_l (by omega), l_shl _ s16 (by omega), l_or, n_or_add (k := 16) (by omega), l_shl _ s8 (by omega), l_or, n_or_add (k := 8) (by omega), show (sr * 2 ^ 16 + key) * 2 ^ 8 + b = smk sr key b by unfold smk; omega]
theorem SFr.set {M2 M' : zMe} {a' N' : Nat} {e f : zEn} (hsa : s ≠ a) (hs : s < M.2.1) (ha : a < M.2.1) (h : SFr (zSet (zSet M a e) s f) M' s a N a' N') : SFr M M' s a N a' N' := by
  obtain ⟨h1, h2, h3, h4, h5, h6⟩ := h
  refine ⟨h1, fun q q1 q2 q3 => ?_, h3, fun hf => h4 (fun q hq => ?_), h5, h6⟩
  · rw [h2 q q1 q2 q3, zS_n _ _ q2, zS_n _ _ q3]
  · have hq' : M.2.1 ≤ q := hq
    rw [zS_n _ _ (by omega), zS_n _ _ (by omega)]
    exact hf q hq'
theorem se_isLess (h : SE M s a N us sr v sm) (hu : 2 * us ≤ N) {key b : Nat} (hk : key < 65536) (hb : b < 256) : (∃ b0, sm key = some b0 ∧ b0 ≤ b ∧ f_X8_isLess s (nI key) (nI b) M = some (0, M)) ∨ ((∀ b0, sm key = some b0 → b < b0) ∧ ∃ M' a' N' us' v', f_X8_isLess s (nI key) (nI b) M = some (1, M') ∧ SE M' s a' N' us' sr v' (fun q => if q = key then some b else sm q) ∧ 2 * us' ≤ N' ∧ SFr M M' s a N a' N') := by
  have hN := h.2.2.2.2.2.1.lt
  obtain ⟨i, e, hS⟩ := h.slot (by omega) hk
  obtain ⟨h1, ⟨fs, h2, h3⟩, h4, h5, h6, h7, h8, h9, h10, h11, h12, h13⟩ := h
  obtain ⟨x1, x2, x3⟩ := smk_ok (sr := sr) hk hb
  have rd : zrL M a (nI i) = some (lN (v i)) := by rw [rL_at h2 hS.1 (by omega), h3 i hS.1]
  have hv63 := vb63 (h8 i hS.1) h10
  have hxs : smk sr key b / 16777216 ≤ sr := by unfold smk; omega
  have hw : zwL M a (nI i) (lN (smk sr key b)) = some (zSet M a (lgA N (vp_updL fs i (lN (smk sr key b))))) := wL_at h2 hS.1 (by omega)
  have hs1 : (zSet M a (lgA N (vp_updL fs i (lN (smk sr key b))))).1 s = some (.inr (8, seF a us sr)) := by rw [zS_n _ _ h4]; exact h1
  have hv' : ∀ k, k < N → upN v i (smk sr key b) k / 16777216 ≤ sr := fun k hk => by
    by_cases ek : k = i
    · rw [ek, upN_s]; exact hxs
    · rw [upN_n _ _ ek]; exact h8 k hk
  have hrp := rp_put h11 h12 hS x1 x2
  rw [x3] at hrp
  rw [f_X8_isLess, se_ob h1, Option.bind_some, e, Option.bind_some, se_g0 h1, Option.bind_some, rd, Option.bind_some, se_ob h1, Option.bind_some, se_ours h1 h10 hv63, Option.bind_some]
  cases ho : ow sr (v i) with
  | true =>
    have hsm := rp_own h11 h12 hS ho
    have hbl : sbr (v i) < 256 := Nat.mod_lt _ (by decide)
    simp only [if_true]
    rw [if_neg (by decide), f_X8_isLess_b24, if_pos rfl, se_g0 h1, Option.bind_some, rd, Option.bind_some, se_br, Option.bind_some]
    by_cases hc : b < sbr (v i)
    · rw [if_pos (nI_lt hc (by omega)), f_X8_isLess_b46, se_g0 h1, Option.bind_some, se_g2 h1, Option.bind_some, se_enc h10 hk hb, hw, Option.bind_some, if_pos rfl, f_X8_isLess_b87]
      refine Or.inr ⟨fun b0 hb0 => by rw [hsm] at hb0; cases hb0; exact hc, _, a, N, us, upN v i (smk sr key b), rfl, ⟨hs1, ⟨_, zS_s _ _ _, updL_v h3⟩, h4, h5, h6, h7, hv', h9, h10, ht_put h11 hS x1 x2, hrp, ?_⟩, hu, Nat.le_refl _, fun q q1 q2 q3 => zS_n _ _ q3, Or.inl rfl, fun hf q hq => ?_, Nat.le_refl _, Nat.le_refl _⟩
      · rw [cn_upd (n := 0) x1, ho]; simpa using h13
      · have hq' : M.2.1 ≤ q := hq
        rw [zS_n _ _ (by omega)]; exact hf q hq'
    · rw [if_neg (nI_nlt (by omega) (by omega))]
      exact Or.inl ⟨_, hsm, by omega, rfl⟩
  | false =>
    have hsm := rp_not h11 h12 hS ho
    have hcn : cn sr (upN v i (smk sr key b)) N = us + 1 := by rw [cn_upd (n := 0) x1, ho]; simp [hS.1, h13]
    simp only [Bool.false_eq_true, if_false, if_true]
    rw [f_X8_isLess_b24, if_neg (by decide), f_X8_isLess_b46, se_g0 h1, Option.bind_some, se_g2 h1, Option.bind_some, se_enc h10 hk hb, hw, Option.bind_some, if_neg (by decide), se_g1 hs1, Option.bind_some, nI_1, se_p1 hs1, Option.bind_some]
    obtain ⟨M2, hM2⟩ : ∃ M2, M2 = zSet (zSet M a (lgA N (vp_updL fs i (lN (smk sr key b))))) s (.inr (8, seF a (us + 1) sr)) := ⟨_, rfl⟩
    have hs2 : M2.1 s = some (.inr (8, seF a (us + 1) sr)) := by rw [hM2]; exact zS_s _ _ _
    have ha2 : M2.1 a = some (lgA N (vp_updL fs i (lN (smk sr key b)))) := by rw [hM2, zS_n _ _ (Ne.symm h4)]; exact zS_s _ _ _
    have hM22 : M2.2 = M.2 := by rw [hM2]; rfl
    have hSE : SE M2 s a N (us + 1) sr (upN v i (smk sr key b)) (fun q => if q = key then some b else sm q) := ⟨hs2, ⟨_, ha2, updL_v h3⟩, h4, by rw [hM22]; exact h5, by rw [hM22]; exact h6, h7, hv', h9, h10, ht_put h11 hS x1 x2, hrp, hcn.symm⟩
    obtain ⟨M', a', N', v', g1, g2, g3, g4⟩ := se_grow hSE (by omega)
    rw [← hM2, se_ob hs2, Option.bind_some, g1, Option.bind_some, f_X8_isLess_b87]
    rw [hM2] at g4
    exact Or.inr ⟨fun b0 hb0 => (by rw [hsm] at hb0; cases hb0), M', a', N', us + 1, v', rfl, g2, g3, SFr.set (M2 := M2) h4 h5 h6 g4⟩
theorem se_forget {us : Nat} {a0 : Nat} (h1 : M.1 s = some (.inr (8, seF a us sr))) : f_X8_forget s M = some (zSet M s (.inr (8, seF a 0 (sr + 1)))) := by
  have e : (lN sr + (1 : Int64)) = lN (sr + 1) := lN_1 sr
  have h2 : (zSet M s (.inr (8, seF a us (sr + 1)))).1 s = some (.inr (8, seF a us (sr + 1))) := zS_s _ _ _
  rw [f_X8_forget, se_g2 h1, Option.bind_some, e, se_p2 h1, Option.bind_some, show (0 : Int32) = nI 0 from rfl, se_p1 h2, Option.bind_some, zSS]
end SG
