def lgA (N : Nat) (f : Nat → Int64) : zEn := .inl (.long, N, .inr (.inl f))
section SM
variable {M : zMe} {s a N us sr : Nat} {v : Nat → Nat} {fs : Nat → Int64}
theorem rL_at {f : Nat → Int64} (h : M.1 a = some (lgA N f)) {i : Nat} (hi : i < N) (hN : N < 2 ^ 31) : zrL M a (nI i) = some (f i) := by
  simp only [zrL, h, lgA]
  rw [if_neg (nI_in hi hN), nI_clamp (by omega)]
theorem wL_at {f : Nat → Int64} (h : M.1 a = some (lgA N f)) {i : Nat} {x : Int64} (hi : i < N) (hN : N < 2 ^ 31) : zwL M a (nI i) x = some (zSet M a (lgA N (vp_updL f i x))) := by
  simp only [zwL, h, lgA]
  rw [if_neg (nI_in hi hN), nI_clamp (by omega)]
theorem ln_at {f : Nat → Int64} (h : M.1 a = some (lgA N f)) : zln M a = some (nI N) := by
  simp only [zln, h, lgA]
  rfl
def seF (a us sr : Nat) : List Value := [.ref a, .int (nI us), .long (lN sr)]
theorem se_ob (h : M.1 s = some (.inr (8, seF a us sr))) : zob M s 8 = some () := by simp [zob, h]
theorem se_g0 (h : M.1 s = some (.inr (8, seF a us sr))) : zgN M s [8] 0 = some a := by simp [zgN, zg, h, seF]
theorem se_g1 (h : M.1 s = some (.inr (8, seF a us sr))) : zgI M s [8] 1 = some (nI us) := by simp [zgI, zg, h, seF]
theorem se_g2 (h : M.1 s = some (.inr (8, seF a us sr))) : zgL M s [8] 2 = some (lN sr) := by simp [zgL, zg, h, seF]
theorem se_p0 (h : M.1 s = some (.inr (8, seF a us sr))) (b : Nat) : zpR M s [8] 0 (some b) = some (zSet M s (.inr (8, seF b us sr))) := by
  simp only [zpR, zp, h]
  rw [if_pos (by decide)]
  rfl
theorem se_p1 (h : M.1 s = some (.inr (8, seF a us sr))) (b : Nat) : zpI M s [8] 1 (nI b) = some (zSet M s (.inr (8, seF a b sr))) := by
  simp only [zpI, zp, h]
  rw [if_pos (by decide)]
  rfl
theorem se_p2 (h : M.1 s = some (.inr (8, seF a us sr))) (b : Nat) : zpL M s [8] 2 (lN b) = some (zSet M s (.inr (8, seF a us b))) := by
  simp only [zpL, zp, h]
  rw [if_pos (by decide)]
  rfl
theorem se_ours (h : M.1 s = some (.inr (8, seF a us sr))) (hsr : sr < 2 ^ 20) {x : Nat} (hx : x < 2 ^ 63) : f_X8_isOurs s (lN x) M = some (if ow sr x then 1 else 0, M) := by
  have h2 : x / 2 ^ 24 ≤ x := Nat.div_le_self _ _
  rw [f_X8_isOurs, se_g2 h, Option.bind_some, l_shr hx _ s24]
  simp only [lg_c0, pk_lEQ (show x / 2 ^ 24 < 2 ^ 63 by omega) (show sr < 2 ^ 63 by omega), f_X8_isOurs_b17, ow]
  by_cases hc : x / 16777216 = sr
  · rw [if_pos (show x / 2 ^ 24 = sr from hc)]; simp [hc]
  · rw [if_neg (show ¬ x / 2 ^ 24 = sr from hc)]; simp [hc]
theorem se_key {x : Nat} (hx : x < 2 ^ 63) : f_X8_keyOf (lN x) M = some (nI (sky x), M) := by
  rw [f_X8_keyOf, l_shr hx _ s8, lN_i, n_am _ 16 (by omega) (by decide)]
  rfl
theorem se_br (x : Nat) : f_X8_breathOf (lN x) M = some (nI (sbr x), M) := by
  rw [f_X8_breathOf, lN_i, n_am _ 8 (by omega) (by decide)]
  rfl
/-- sizes: a power of 2 -/
def Pw (N : Nat) : Prop := ∃ K, N = 2 ^ K ∧ 5 ≤ K ∧ K ≤ 17
theorem Pw.lt {N : Nat} (h : Pw N) : 32 ≤ N ∧ N ≤ 131072 := by
  obtain ⟨K, rfl, h1, h2⟩ := h
  exact ⟨p2b h1, p2b h2⟩
theorem pw_mask {K : Nat} (h2 : K ≤ 17) : (nI (2 ^ K - 1)).toBitVec.toNat = 2 ^ K - 1 := by
  have : (2 : Nat) ^ K ≤ 2 ^ 17 := p2b h2
  exact pk_tn (by omega)
theorem se_slot (h : M.1 s = some (.inr (8, seF a us sr))) (hsr : sr < 2 ^ 20) (ha : M.1 a = some (lgA N fs)) (hN : Pw N) (hv : ∀ i, i < N → fs i = lN (v i) ∧ v i < 2 ^ 63) (hfree : ∃ j, j < N ∧ ow sr (v j) = false) {key : Nat} (hk : key < 65536) : ∃ i, f_X8_slotFor s (nI key) M = some (nI i, M) ∧ Slt N sr v key i := by
  have hb := hN.lt
  obtain ⟨K, hNK, hK1, hK2⟩ := hN
  have hpos : 0 < N := by omega
  have hh : hsh N key < N := Nat.mod_lt _ hpos
  have hst : ∃ r, r < N ∧ (ow sr (v ((hsh N key + r) % N)) = false ∨ sky (v ((hsh N key + r) % N)) = key) := by
    obtain ⟨j, j1, j2⟩ := hfree
    obtain ⟨r, r1, r2⟩ := md_reach hh j1
    exact ⟨r, r1, Or.inl (by rw [← r2]; exact j2)⟩
  obtain ⟨r, ⟨r1, r2⟩, r3⟩ := pk_least _ hst
  have r3' : ∀ r', r' < r → ow sr (v ((hsh N key + r') % N)) = true ∧ sky (v ((hsh N key + r') % N)) ≠ key := by
    intro r' hr'
    have := r3 r' hr'
    refine ⟨?_, fun z => this ⟨by omega, Or.inr z⟩⟩
    cases ho : ow sr (v ((hsh N key + r') % N)) with
    | true => rfl
    | false => exact absurd ⟨by omega, Or.inl ho⟩ this
  have hm : ∀ j, (hsh N key + j) % N < N := fun j => Nat.mod_lt _ hpos
  refine ⟨(hsh N key + r) % N, ?_, hm r, fun ho => ?_, r, r1, rfl, r3'⟩
  · have e1 : nI N - 1 = nI (N - 1) := by
      obtain ⟨k, rfl⟩ : ∃ k, N = k + 1 := ⟨N - 1, by omega⟩
      exact nI_pred k
    have e2 : ((nI key * 40503).toUInt32 >>> ((4 : Int32).toUInt32 &&& Int32.toUInt32 31)).toInt32 &&& nI (N - 1) = nI ((hsh N key + 0) % N) := by
      rw [hNK, pk_and _ K (pw_mask hK2), Nat.add_zero, ← hNK, Nat.mod_eq_of_lt hh]
      rfl
    have ex : ∀ j, nI ((hsh N key + j) % N) + 1 = nI ((hsh N key + j) % N + 1) := fun j => nI_1 _
    have e3 : ∀ j, (nI ((hsh N key + j) % N) + 1) &&& nI (N - 1) = nI ((hsh N key + (j + 1)) % N) := fun j => by
      have := hm j
      rw [ex, hNK, n_am _ K (by omega) (pw_mask hK2), ← hNK]
      congr 1
      rw [Nat.mod_add_mod]
      rfl
    have rd : ∀ j, zrL M a (nI ((hsh N key + j) % N)) = some (lN (v ((hsh N key + j) % N))) := fun j => by
      rw [rL_at ha (hm j) (by omega), (hv _ (hm j)).1]
    have key2 : f_X8_slotFor_b20 zfu s (nI key) (nI (N - 1)) (nI ((hsh N key + 0) % N)) (nI 0) M = some (nI ((hsh N key + r) % N), M) := by
      refine loopE (fun fuel j => f_X8_slotFor_b20 fuel s (nI key) (nI (N - 1)) (nI ((hsh N key + j) % N)) (nI j) M) r _ (fun f j hj => ?_) (fun f => ?_) r 0 zfu (by omega) (by unfold zfu; omega)
      · obtain ⟨a1, a2⟩ := r3' j hj
        show f_X8_slotFor_b20 (f + 1) s (nI key) (nI (N - 1)) (nI ((hsh N key + j) % N)) (nI j) M = _
        rw [f_X8_slotFor_b20, if_neg (nI_ge (show j < N - 1 by omega) (by omega)), se_g0 h, Option.bind_some, rd, Option.bind_some, se_ob h, Option.bind_some, se_ours h hsr (hv _ (hm j)).2, Option.bind_some, a1]
        simp only [if_true]
        rw [if_neg (by decide), se_g0 h, Option.bind_some, rd, Option.bind_some, se_key (hv _ (hm j)).2, Option.bind_some, if_neg (fun z => a2 ((nI_eq (by have := sky_lt (v ((hsh N key + j) % N)); omega) (by omega)).mp z)), zlet, zlet, e3, nI_1]
      · show f_X8_slotFor_b20 (f + 1) s (nI key) (nI (N - 1)) (nI ((hsh N key + r) % N)) (nI r) M = _
        rw [f_X8_slotFor_b20]
        by_cases hc : N - 1 ≤ r
        · rw [if_pos (nI_le hc (by omega)), f_X8_slotFor_b64]
        · rw [if_neg (nI_ge (by omega) (by omega)), se_g0 h, Option.bind_some, rd, Option.bind_some, se_ob h, Option.bind_some, se_ours h hsr (hv _ (hm r)).2, Option.bind_some]
          cases ho : ow sr (v ((hsh N key + r) % N)) with
          | false => simp [f_X8_slotFor_b64]
          | true =>
            have e := r2.resolve_left (by rw [ho]; decide)
            simp only [if_true]
            rw [if_neg (by decide), se_g0 h, Option.bind_some, rd, Option.bind_some, se_key (hv _ (hm r)).2, Option.bind_some, if_pos (by rw [e]), f_X8_slotFor_b64]
    rw [f_X8_slotFor, se_g0 h, Option.bind_some, ln_at ha, Option.bind_some, zlet, zlet, e1, e2]
    exact key2
  · exact r2.resolve_left (by rw [ho]; decide)
/-- the least breaths that a search has had: cell s, its slots at a -/
def SE (M : zMe) (s a N us sr : Nat) (v : Nat → Nat) (sm : Nat → Option Nat) : Prop :=
  M.1 s = some (.inr (8, seF a us sr)) ∧ (∃ fs, M.1 a = some (lgA N fs) ∧ ∀ i, i < N → fs i = lN (v i)) ∧ s ≠ a ∧ s < M.2.1 ∧ a < M.2.1 ∧ Pw N ∧ (∀ i, i < N → v i / 16777216 ≤ sr) ∧ 1 ≤ sr ∧ sr < 2 ^ 20 ∧ HT N sr v ∧ Rp N sr v sm ∧ us = cn sr v N
/-- what is beside it stays; the room -/
def SFr (M M' : zMe) (s a N a' N' : Nat) : Prop :=
  M.2.1 ≤ M'.2.1 ∧ (∀ q, q < M.2.1 → q ≠ s → q ≠ a → M'.1 q = M.1 q) ∧ (a' = a ∨ (M.2.1 ≤ a' ∧ a' < M'.2.1)) ∧ ((∀ q, M.2.1 ≤ q → M.1 q = none) → ∀ q, M'.2.1 ≤ q → M'.1 q = none) ∧ M'.2.1 + N ≤ M.2.1 + N' ∧ M'.2.2 + 2 * N ≤ M.2.2 + 2 * N'
theorem vb63 {x sr : Nat} (h : x / 16777216 ≤ sr) (hs : sr < 2 ^ 20) : x < 2 ^ 63 := by omega
theorem SE.slot {sm : Nat → Option Nat} (h : SE M s a N us sr v sm) (hu : us < N) {key : Nat} (hk : key < 65536) : ∃ i, f_X8_slotFor s (nI key) M = some (nI i, M) ∧ Slt N sr v key i := by
  obtain ⟨h1, ⟨fs, h2, h3⟩, h4, h5, h6, h7, h8, h9, h10, h11, h12, h13⟩ := h
  exact se_slot h1 h10 h2 h7 (fun i hi => ⟨h3 i hi, vb63 (h8 i hi) h10⟩) (cn_free N (by omega)) hk
theorem SE.least {sm : Nat → Option Nat} (h : SE M s a N us sr v sm) (hu : us < N) {key : Nat} (hk : key < 65536) : f_X8_leastFor s (nI key) M = some (match sm key with | some b => nI b | none => 1048576, M) := by
  obtain ⟨i, e, hS⟩ := h.slot hu hk
  obtain ⟨h1, ⟨fs, h2, h3⟩, h4, h5, h6, h7, h8, h9, h10, h11, h12, h13⟩ := h
  have hb := h7.lt
  rw [f_X8_leastFor, se_g0 h1, Option.bind_some, se_ob h1, Option.bind_some, e, Option.bind_some, rL_at h2 hS.1 (by omega), Option.bind_some, se_ob h1, Option.bind_some, h3 i hS.1, se_ours h1 h10 (vb63 (h8 i hS.1) h10), Option.bind_some]
  cases ho : ow sr (v i) with
  | false => rw [rp_not h11 h12 hS ho]; simp [f_X8_leastFor_b28]
  | true =>
    rw [rp_own h11 h12 hS ho]
    simp only [if_true]
    rw [if_neg (by decide), se_br, Option.bind_some, f_X8_leastFor_b28]
end SM
