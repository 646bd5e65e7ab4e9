/-! one lane's run -/
def sru (g : Nat → Nat → Nat → Nat) (s u : Nat) : Nat → Nat
  | 0 => s
  | t + 1 => g (if u.testBit t then 1 else 0) t (sru g s u t)
theorem sru_agr {g : Nat → Nat → Nat → Nat} {s u v : Nat} : ∀ t, (∀ i, i < t → u.testBit i = v.testBit i) → sru g s u t = sru g s v t
  | 0, _ => rfl
  | t + 1, h => by rw [sru, sru, sru_agr t (fun i hi => h i (by omega)), h t (by omega)]
def Gok0 (g : Nat → Nat → Nat → Nat → Nat) (lc n : Nat) : Prop := ∀ i, i < lc → ∀ w, w < 2 → ∀ t s, s < 2 ^ n → g i w t s < 2 ^ n
theorem sru_lt {g : Nat → Nat → Nat → Nat → Nat} {lc n : Nat} (hg : Gok0 g lc n) {i : Nat} (hi : i < lc) {s : Nat} (hs : s < 2 ^ n) (u : Nat) : ∀ t, sru (g i) s u t < 2 ^ n
  | 0 => hs
  | t + 1 => hg i hi _ (bw2 _) t _ (sru_lt hg hi hs u t)
theorem pkr_sru {g : Nat → Nat → Nat → Nat → Nat} {lc n : Nat} {s0 : Nat → Nat} (hg : Gok0 g lc n) (hn : n ≤ 5) (hs : ∀ i, i < lc → s0 i < 2 ^ n) (u : Nat) : ∀ t, pkr (npk g lc) (mkp s0 lc) u t = mkp (fun i => sru (g i) (s0 i) u t) lc
  | 0 => rfl
  | t + 1 => by
    have h32 := p2_32 hn
    show mkp (fun i => g i (if u.testBit t then 1 else 0) t (pst (pkr (npk g lc) (mkp s0 lc) u t) i)) lc = _
    rw [pkr_sru hg hn hs u t]
    refine mkp_congr (fun i hi => ?_)
    rw [pst_mkp (fun i hi => by have := sru_lt hg hi (hs i hi) u t; omega), if_pos hi]
    rfl
theorem pkr_good {g : Nat → Nat → Nat → Nat → Nat} {lc n : Nat} {s0 tg : Nat → Nat} (hg : Gok0 g lc n) (hn : n ≤ 5) (hs : ∀ i, i < lc → s0 i < 2 ^ n) (htg : ∀ i, i < lc → tg i < 32) (u t : Nat) : pkr (npk g lc) (mkp s0 lc) u t = mkp tg lc ↔ ∀ i, i < lc → sru (g i) (s0 i) u t = tg i := by
  have h32 := p2_32 hn
  rw [pkr_sru hg hn hs u t]
  constructor
  · intro h i hi
    have a := pst_mkp (f := fun i => sru (g i) (s0 i) u t) (lc := lc) (fun i hi => by have := sru_lt hg hi (hs i hi) u t; omega) i
    have b := pst_mkp htg i
    rw [h, b, if_pos hi, if_pos hi] at a
    exact a.symm
  · intro h
    exact mkp_congr h
theorem gok0_stg {lc n sh : Nat} {D : Nat → Nat → Nat} (hD : ∀ i, i < lc → DW n (D i)) : Gok0 (fun i => stg sh (D i) n) lc n := fun i hi w hw t s _ => img_lt (fun p hp => gog_lt (hD i hi) hw hp) s
theorem Star.iff {b0 b1 : Nat} {G G' : Nat → Nat → Prop} (h : ∀ u t, G u t ↔ G' u t) {u T : Nat} (hs : Star b0 b1 G u T) : Star b0 b1 G' u T := ⟨(h _ _).mp hs.1, hs.2.1, hs.2.2.1, fun v t ht hv => hs.2.2.2 v t ht ((h _ _).mpr hv)⟩
/-! the chase between searches -/
def KR (M : zMe) (c : Nat) (J A Z : Nat → Nat) (sr : Nat) : Prop := ∃ (I : Nat → Nat) (fe fl fs : Nat → Int64) (v : Nat → Nat),
  M.1 c = some (.inr (0, chF c (A 1) (A 2) (J 0) (J 1) (J 2) (I 0) (J 3) (I 1) (I 2))) ∧
  M.1 (A 1) = some (lgA (Z 1) fe) ∧ M.1 (A 2) = some (lgA (Z 2) fl) ∧
  M.1 (c + 14) = some (.inr (8, seF (A 0) (I 3) sr)) ∧ M.1 (A 0) = some (lgA (Z 0) fs) ∧ (∀ i, i < Z 0 → fs i = lN (v i) ∧ v i / 16777216 ≤ sr) ∧
  (∀ i, i < 3 → Pw (Z i)) ∧ Z 1 ≤ 65536 ∧ Z 2 ≤ 65536 ∧
  (A 0 ≠ A 1 ∧ A 0 ≠ A 2 ∧ A 1 ≠ A 2) ∧ (∀ i, i < 3 → (A i < c ∨ c + 14 < A i) ∧ A i < M.2.1) ∧ c + 14 < M.2.1
theorem KS.rest {M : zMe} {c : Nat} {J A Z I : Nat → Nat} {fe fl : Nat → Int64} {v : Nat → Nat} {sm : Nat → Option Nat} (h : KS M c J A Z I fe fl v sm) : KR M c J A Z (I 4) := by
  obtain ⟨k0, k1, k2, ⟨s1, ⟨fs, s2, s3⟩, s4, s5, s6, s7, s8, s9⟩, k4, k5, k6, k7, k8, k9, k10⟩ := h
  exact ⟨I, fe, fl, fs, v, k0, k1, k2, s1, s2, fun i hi => ⟨s3 i hi, s8 i hi⟩, k5, k6, k7, k8, k9, k10⟩
section RS
variable {lc n sh b0 b1 : Nat} {D : Nat → Nat → Nat} {s0 tg : Nat → Nat} {J : Nat → Nat} {M : zMe} {c : Nat} {A Z : Nat → Nat} {sr : Nat}
/-- the search is begun -/
theorem k_begin (hR : KR M c J A Z sr) (hsr : sr + 1 < 2 ^ 20) : ∃ M' fe fl v, (∀ x : zMe → Option (Int32 × zMe), ((zgN M c [0] 1).bind fun a1 => (zob M a1 8).bind fun _ => (f_X8_forget a1 M).bind fun q1 => zlet (if (nI b1 : Int32) < nI b0 then nI b1 else nI b0 : Int32) fun v1 => (zpI q1 c [0] 8 v1).bind fun M1 => (zpI M1 c [0] 9 1048576).bind fun M2 => (zpI M2 c [0] 10 0).bind fun M3 => (zpI M3 c [0] 7 0).bind fun M4 => x M4) = x M') ∧ KS M' c (upN J 3 (if nI b1 < nI b0 then b1 else b0)) A Z (upN (upN (fun _ => 0) 1 1048576) 4 (sr + 1)) fe fl v (fun _ => none) ∧ KFr M M' c A A Z Z := by
  obtain ⟨I, fe, fl, fs, v, r0, r1, r2, r3, r4, r5, r6, r7, r8, r9, r10, r11⟩ := hR
  have n0 := r10 0 (by omega)
  have n1 := r10 1 (by omega)
  have n2 := r10 2 (by omega)
  obtain ⟨M1, hM1⟩ : ∃ M1, M1 = zSet M (c + 14) (.inr (8, seF (A 0) 0 (sr + 1))) := ⟨_, rfl⟩
  have f1 : f_X8_forget (c + 14) M = some M1 := by rw [se_forget (a0 := 0) r3, hM1]
  have c1 : M1.1 c = some (.inr (0, chF c (A 1) (A 2) (J 0) (J 1) (J 2) (I 0) (J 3) (I 1) (I 2))) := by rw [hM1, zS_n _ _ (by omega)]; exact r0
  obtain ⟨lb, hlb⟩ : ∃ lb, lb = (if nI b1 < nI b0 then b1 else b0) := ⟨_, rfl⟩
  have el : (if (nI b1 : Int32) < nI b0 then nI b1 else nI b0 : Int32) = nI lb := by rw [hlb]; split <;> rfl
  obtain ⟨M2, hM2⟩ : ∃ M2, M2 = zSet M1 c (.inr (0, chF c (A 1) (A 2) (J 0) (J 1) (J 2) 0 lb 1048576 0)) := ⟨_, rfl⟩
  have m2 : M2.2 = M.2 := by rw [hM2, hM1]; rfl
  refine ⟨M2, fe, fl, v, fun x => ?_, ⟨?_, ?_, ?_, ⟨?_, ⟨fs, ?_, fun i hi => (r5 i hi).1⟩, by omega, by rw [m2]; omega, by rw [m2]; exact n0.2, r6 0 (by omega), fun i hi => ?_, by show 1 ≤ sr + 1; omega, hsr, fun i hi ho => ?_, fun key b => ?_, ?_⟩, Nat.zero_le _, r6, r7, r8, r9, fun i hi => by rw [m2]; exact r10 i hi, by rw [m2]; exact r11⟩, ?_⟩
  · rw [ch_1 r0, Option.bind_some, se_ob r3, Option.bind_some, f1, Option.bind_some, zlet, el, ch_p8 c1, Option.bind_some, show (1048576 : Int32) = nI 1048576 from rfl, ch_p9 (zS_s _ _ _), Option.bind_some, show (0 : Int32) = nI 0 from rfl, ch_p10 (zS_s _ _ _), Option.bind_some, ch_p7 (zS_s _ _ _), Option.bind_some, zSS, zSS, zSS, ← hM2]
  · rw [hM2, hlb]; exact zS_s _ _ _
  · rw [hM2, zS_n _ _ (by omega), hM1, zS_n _ _ (by omega)]; exact r1
  · rw [hM2, zS_n _ _ (by omega), hM1, zS_n _ _ (by omega)]; exact r2
  · rw [hM2, zS_n _ _ (by omega), hM1]; exact zS_s _ _ _
  · rw [hM2, zS_n _ _ (by omega), hM1, zS_n _ _ (by omega)]; exact r4
  · show v i / 16777216 ≤ sr + 1
    have := (r5 i hi).2
    omega
  · exfalso
    simp only [ow, decide_eq_true_iff] at ho
    have := (r5 i hi).2
    have ho' : v i / 16777216 = sr + 1 := ho
    omega
  · constructor
    · intro h; cases h
    · rintro ⟨i, i1, i2, -⟩
      exfalso
      simp only [ow, decide_eq_true_iff] at i2
      have := (r5 i i1).2
      have ho' : v i / 16777216 = sr + 1 := i2
      omega
  · have : ∀ k, k ≤ Z 0 → cn (sr + 1) v k = 0 := by
      intro k
      induction k with
      | zero => intro _; rfl
      | succ k ih =>
        intro hk
        rw [cn, ih (by omega)]
        have h1 := (r5 k (by omega)).2
        have h2 : ow (sr + 1) (v k) = false := by
          simp only [ow, decide_eq_false_iff_not]
          omega
        rw [h2]
        rfl
    exact (this (Z 0) (Nat.le_refl _)).symm
  · have e1 : KFr M M1 c A A Z Z := by rw [hM1]; exact KFr.set _ (Or.inr (Or.inl rfl)) (by omega)
    have e2 : KFr M1 M2 c A A Z Z := by rw [hM2]; exact KFr.set _ (Or.inl rfl) (by rw [hM1]; show c < M.2.1; omega)
    exact e1.trans e2
theorem k_seek (hC : CX lc n sh (J 2) b0 b1 D s0 tg) (hJ0 : J 0 = lc) (hJ1 : J 1 = mkp s0 lc) (hL : LC M c lc n sh tg D) (hR : KR M c J A Z sr) (hsr : sr + 1 < 2 ^ 20) : ∃ f M' J' A' Z' fb ft, f_X0_seek c (nI b0) (nI b1) M = some (f, M') ∧ KR M' c J' A' Z' (sr + 1) ∧ KFr M M' c A A' Z Z' ∧ Ans b0 b1 (nxD lc n sh D) (mkp s0 lc) (mkp tg lc) f fb ft ∧ zgI M' c [0] 9 = some (nI fb) ∧ zgI M' c [0] 10 = some (nI ft) ∧ zob M' c 0 = some () := by
  obtain ⟨M1, fe, fl, v, g1, g2, g3⟩ := k_begin (b0 := b0) (b1 := b1) hR hsr
  have hb0 := hC.2.2.2.2.2.2.2.2.1
  have hb1 := hC.2.2.2.2.2.2.2.2.2
  have hJ3 : upN J 3 (if nI b1 < nI b0 then b1 else b0) 3 = min b0 b1 := by
    show (if nI b1 < nI b0 then b1 else b0) = min b0 b1
    by_cases h : b1 < b0
    · rw [if_pos (nI_lt h (by omega))]; omega
    · rw [if_neg (nI_nlt (by omega) (by omega))]; omega
  obtain ⟨J', hJ'⟩ : ∃ J', J' = upN J 3 (if nI b1 < nI b0 then b1 else b0) := ⟨_, rfl⟩
  rw [← hJ'] at g2 hJ3
  have j0 : J' 0 = lc := by rw [hJ']; exact hJ0
  have j1 : J' 1 = mkp s0 lc := by rw [hJ']; exact hJ1
  have j2 : J' 2 = J 2 := by rw [hJ']; rfl
  have hC' : CX lc n sh (J' 2) b0 b1 D s0 tg := by rw [j2]; exact hC
  have k9 := (show ∀ i, i < 3 → (A i < c ∨ c + 14 < A i) ∧ A i < M.2.1 by obtain ⟨_, _, _, _, _, _, _, _, _, _, _, _, _, _, _, h, _⟩ := hR; exact h)
  have k10 : c + 14 < M.2.1 := by obtain ⟨_, _, _, _, _, _, _, _, _, _, _, _, _, _, _, _, h⟩ := hR; exact h
  have hlk : ∀ q, c + 1 ≤ q → q ≤ c + 13 → M1.1 q = M.1 q := fun q q1 q2 => g3.2.1 q (by omega) (by omega) (by omega) (fun i hi z => by have := (k9 i hi).1; omega)
  have hL1 := hL.kept hC.2.2.2.2.2.1 hlk
  have hX : KX b0 b1 (nxD lc n sh D) (mkp s0 lc) (mkp tg lc) J' M1 c 0 (rvs 0 0) A Z (upN (upN (fun _ => 0) 1 1048576) 4 (sr + 1)) fe := by
    refine ⟨fl, v, fun _ => none, fun _ => 0, none, g2, fun k hk => absurd hk (by show ¬ k < 0; omega), Nat.zero_le _, rfl, rfl, ?_⟩
    refine ⟨fun k hk => absurd hk (by show ¬ k < 0; omega), fun j k _ hk => absurd hk (by show ¬ k < 0; omega), fun q b hq => (by cases hq), fun u s hu => (by cases hu), fun h => absurd h (by omega), fun h => absurd h (by omega), fun u T hs => ⟨fun h => ?_, fun _ h => ?_⟩⟩
    · rcases h with h | ⟨_, h⟩
      · omega
      · exact absurd h (by show ¬ rvs u T < 0; omega)
    · exact absurd h (by show ¬ rvs u 0 < 0; omega)
  obtain ⟨M2, A2, Z2, I2, o1, o2, o3, o4, o5, o6, o7⟩ := k_offer hC' j0 hJ3 hL1 hX (by decide) (by omega) (by show 0 < 65536; omega)
  have o1' : f_X0_offer c 0 (nI (J' 1)) 0 0 M1 = some M2 := by rw [j1]; exact o1
  obtain ⟨fl1, v1, sm1, hK1⟩ := (show ∃ fl v sm, KS M1 c J' A Z (upN (upN (fun _ => 0) 1 1048576) 4 (sr + 1)) fe fl v sm from hX.ks)
  have hlk2 : ∀ q, c + 1 ≤ q → q ≤ c + 13 → M2.1 q = M.1 q := fun q q1 q2 => by
    rw [o3.2.1 q (by have := g3.1; omega) (by omega) (by omega) (fun i hi z => by have := (k9 i hi).1; omega)]
    exact hlk q q1 q2
  have e12 : rvs 0 0 + 1 = 2 ^ 0 := rfl
  rw [e12] at o2
  obtain ⟨f, M', A', Z', I', fe', w1, ⟨fl', v', sm', w2⟩, w3, w4, w5⟩ := k_seekL (M0 := M) (A0 := A) (Z0 := Z) (fl0 := fl) (v0 := v) (sm0 := fun _ => none) hC' j0 hJ3 hL o2 hlk2 (o7.trans rfl)
  have hr := w2.rest
  rw [w4] at hr
  refine ⟨f, M', J', A', Z', I' 1, I' 2, ?_, hr, g3.trans (o3.trans w3), w5, ch_9 w2.1, ch_10 w2.1, ch_ob w2.1⟩
  rw [f_X0_seek, g1, ch_3 hK1.1, Option.bind_some, ch_ob hK1.1, Option.bind_some, o1', Option.bind_some]
  rw [nI_0] at w1
  exact w1
theorem k_seek0 (hJ0 : J 0 = 0) (hL : LC M c 0 n sh tg D) (hn : n ≤ 5) (hJ1 : J 1 = 0) (hR : KR M c J A Z sr) (hsr : sr + 1 < 2 ^ 20) : ∃ M' J' A' Z', f_X0_seek c (nI b0) (nI b1) M = some (1, M') ∧ KR M' c J' A' Z' (sr + 1) ∧ KFr M M' c A A' Z Z' ∧ zgI M' c [0] 9 = some (nI 0) ∧ zgI M' c [0] 10 = some (nI 0) ∧ zob M' c 0 = some () := by
  obtain ⟨M1, fe, fl, v, g1, g2, g3⟩ := k_begin (b0 := b0) (b1 := b1) hR hsr
  obtain ⟨J', hJ'⟩ : ∃ J', J' = upN J 3 (if nI b1 < nI b0 then b1 else b0) := ⟨_, rfl⟩
  rw [← hJ'] at g2
  have j0 : J' 0 = 0 := by rw [hJ']; exact hJ0
  have j1 : J' 1 = 0 := by rw [hJ']; exact hJ1
  have k9 := (show ∀ i, i < 3 → (A i < c ∨ c + 14 < A i) ∧ A i < M.2.1 by obtain ⟨_, _, _, _, _, _, _, _, _, _, _, _, _, _, _, h, _⟩ := hR; exact h)
  have k10 : c + 14 < M.2.1 := by obtain ⟨_, _, _, _, _, _, _, _, _, _, _, _, _, _, _, _, h⟩ := hR; exact h
  have hlk : ∀ q, c + 1 ≤ q → q ≤ c + 13 → M1.1 q = M.1 q := fun q q1 q2 => g3.2.1 q (by omega) (by omega) (by omega) (fun i hi z => by have := (k9 i hi).1; omega)
  have hL1 := hL.kept (by omega) hlk
  have h0 := g2.1
  rw [j0] at h0
  have o := k_offT (p := 0) (t := 0) h0 hL1 hn (by omega) (by omega) (by omega) (fun i hi => by omega) 0 0
  have hK1 := g2.obj (J' := J') (I' := upN (upN (fun _ => 0) 1 0) 4 (sr + 1)) rfl rfl
  have hK2 := hK1.obj (J' := J') (I' := upN (upN (fun _ => 0) 1 0) 4 (sr + 1)) rfl rfl
  obtain ⟨M2, hM2⟩ : ∃ M2, M2 = zSet (zSet M1 c (.inr (0, chF c (A 1) (A 2) (J' 0) (J' 1) (J' 2) 0 (J' 3) 0 0))) c (.inr (0, chF c (A 1) (A 2) (J' 0) (J' 1) (J' 2) 0 (J' 3) 0 0)) := ⟨_, rfl⟩
  have hK2' : KS M2 c J' A Z (upN (upN (fun _ => 0) 1 0) 4 (sr + 1)) fe fl v (fun _ => none) := by rw [hM2]; exact hK2
  have hlow : f_X11_lowestBitIndex (nI 4294967295) M1 = some (0, M1) := by
    rw [f_X11_lowestBitIndex, c_bitC, Option.bind_some, show bcI ((nI 4294967295 &&& -nI 4294967295) - 1) = 0 by decide +kernel]
  have o2 : f_X0_offer c 0 (nI (J' 1)) 0 0 M1 = some M2 := by
    rw [j1]
    have o' : f_X0_offer c 0 (nI 0) 0 0 M1 = offT c 0 (nI 0) 0 0 (nI 4294967295) M1 := o
    have g20 : M1.1 c = some (.inr (0, chF c (A 1) (A 2) (J' 0) (J' 1) (J' 2) 0 (J' 3) 1048576 0)) := g2.1
    rw [o', offT, if_neg (show ¬ nI 4294967295 = 0 by decide), hlow, Option.bind_some, zlet, ch_8 g20, Option.bind_some, ch_9 g20, Option.bind_some, show (0 : Int32) - 0 = 0 from rfl, show (0 : Int32) * nI (J' 3) = nI (0 * J' 3) from pk_mul 0 _, Nat.zero_mul, if_pos (show (0 : Int32) + nI 0 < nI 1048576 by decide), if_pos rfl]
    have p1 := ch_p9 g20 0
    rw [nI_0] at p1
    rw [p1, Option.bind_some]
    have p2 := ch_p10 (M := zSet M1 c (.inr (0, chF c (A 1) (A 2) (J' 0) (J' 1) (J' 2) 0 (J' 3) 0 0))) (c := c) (zS_s _ _ _) 0
    rw [nI_0] at p2
    show (zpI (zSet M1 c (.inr (0, chF c (A 1) (A 2) (J' 0) (J' 1) (J' 2) 0 (J' 3) 0 0))) c [0] 10 0).bind _ = _
    rw [p2, Option.bind_some, f_X0_offer_b129, hM2]
  have e1 : KFr M1 M2 c A A Z Z := by
    rw [hM2]
    exact (KFr.set _ (Or.inl rfl) (by have := g3.1; omega)).trans (KFr.set _ (Or.inl rfl) (by show c < M1.2.1; have := g3.1; omega))
  refine ⟨M2, J', A, Z, ?_, hK2'.rest, g3.trans e1, ch_9 hK2'.1, ch_10 hK2'.1, ch_ob hK2'.1⟩
  have ez : zfu = 999999 + 1 := rfl
  have e7 := ch_7 hK2'.1
  have e7' : zgI M2 c [0] 7 = some (nI 0) := e7
  have e9' : zgI M2 c [0] 9 = some (nI 0) := ch_9 hK2'.1
  rw [f_X0_seek, g1, ch_3 g2.1, Option.bind_some, ch_ob g2.1, Option.bind_some, o2, Option.bind_some, ez, f_X0_seek_b45, if_neg (show ¬ (20 : Int32) ≤ 0 by decide), e7', Option.bind_some, if_pos (show nI 0 ≤ 0 by decide), f_X0_seek_b111, e9', Option.bind_some, if_neg (show ¬ nI 0 = 1048576 by decide), f_X0_seek_b125]
  simp
end RS
