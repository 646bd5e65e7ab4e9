def ftu (fd : Option (Nat × Nat)) : Nat := match fd with
  | none => 0
  | some (u, _) => u
/-- a search: lanes' dogs D, where they start, where they go -/
def CX (lc n sh ho b0 b1 : Nat) (D : Nat → Nat → Nat) (s0 tg : Nat → Nat) : Prop := (∀ i, i < lc → DW n (D i)) ∧ n ≤ 5 ∧ (∀ i, i < lc → 1 ≤ s0 i ∧ s0 i < 2 ^ n) ∧ (∀ i, i < lc → tg i < 32) ∧ 1 ≤ lc ∧ lc ≤ 3 ∧ (ho = 0 → ∀ i, i < lc → ¬ (D i 0 = 1 ∨ D i 0 = 4)) ∧ ho ≤ 1 ∧ (1 ≤ b0 ∧ b0 ≤ 9) ∧ (1 ≤ b1 ∧ b1 ≤ 9)
def nxD (lc n sh : Nat) (D : Nat → Nat → Nat) : Nat → Nat → Nat → Nat := npk (fun i => stg sh (D i) n) lc
def KX (b0 b1 : Nat) (nx : Nat → Nat → Nat → Nat) (p0 tg : Nat) (J : Nat → Nat) (M : zMe) (c t r : Nat) (A Z I : Nat → Nat) (fe : Nat → Int64) : Prop :=
  ∃ fl v sm V fd, KS M c J A Z I fe fl v sm ∧ (∀ k, k < I 0 → fl k = lN (enc (pkr nx p0 (V k) t) (V k) (cst b0 b1 (V k) t))) ∧ I 0 ≤ Z 2 ∧ I 1 = fbr b0 b1 fd ∧ I 2 = ftu fd ∧ SInv b0 b1 nx p0 tg (J 2) t r (I 0) V fd sm
theorem LC.fr {M M' : zMe} {c lc n sh : Nat} {tg : Nat → Nat} {D : Nat → Nat → Nat} {J A A' Z Z' I : Nat → Nat} {fe fl : Nat → Int64} {v : Nat → Nat} {sm : Nat → Option Nat} (h : LC M c lc n sh tg D) (h3 : lc ≤ 3) (hK : KS M c J A Z I fe fl v sm) (hF : KFr M M' c A A' Z Z') : LC M' c lc n sh tg D := by
  have k9 := hK.2.2.2.2.2.2.2.2.2.1
  have k10 := hK.2.2.2.2.2.2.2.2.2.2
  refine h.kept h3 (fun q q1 q2 => hF.2.1 q (by omega) (by omega) (by omega) (fun i hi z => ?_))
  have := (k9 i hi).1
  omega
section KO
variable {lc n sh b0 b1 : Nat} {D : Nat → Nat → Nat} {s0 tg : Nat → Nat} {J : Nat → Nat} {M : zMe} {c t r : Nat} {A Z I : Nat → Nat} {fe : Nat → Int64}
theorem CX.gok {ho : Nat} (h : CX lc n sh ho b0 b1 D s0 tg) : Gok (fun i => stg sh (D i) n) lc n := fun i hi w hw t s h1 h2 => stg_ok (h.1 i hi) hw h1 h2
theorem CX.emk {ho : Nat} (h : CX lc n sh ho b0 b1 D s0 tg) : Emk (nxD lc n sh D) (mkp s0 lc) (mkp tg lc) (emP (fun i => stg sh (D i) n) tg lc) := emk_ok h.gok h.2.1 h.2.2.1 h.2.2.2.1 h.2.2.2.2.1
theorem CX.alk {ho : Nat} (h : CX lc n sh ho b0 b1 D s0 tg) : Alk (nxD lc n sh D) ho := alk_ok h.1 h.2.2.2.2.2.2.1
theorem CX.st {ho : Nat} (h : CX lc n sh ho b0 b1 D s0 tg) (u t : Nat) : pkr (nxD lc n sh D) (mkp s0 lc) u t < 32768 ∧ ∀ i, i < lc → 1 ≤ pst (pkr (nxD lc n sh D) (mkp s0 lc) u t) i ∧ pst (pkr (nxD lc n sh D) (mkp s0 lc) u t) i < 2 ^ n := by
  have := pkr_st h.gok h.2.1 h.2.2.1 u t
  refine ⟨?_, this.2⟩
  have e := this.1
  unfold nxD
  rw [e]
  exact mkp_lt (fun i _ => pst_lt _ _) h.2.2.2.2.2.1
theorem CX.cs {ho : Nat} (h : CX lc n sh ho b0 b1 D s0 tg) (u : Nat) {t : Nat} (ht : t ≤ 20) : cst b0 b1 u t ≤ 180 := by
  have := cst_le h.2.2.2.2.2.2.2.2.1.2 h.2.2.2.2.2.2.2.2.2.2 u t
  have : t * 9 ≤ 20 * 9 := Nat.mul_le_mul_right _ ht
  omega
theorem fbr_le {fd : Option (Nat × Nat)} {m : Nat} {V : Nat → Nat} {sm : Nat → Option Nat} {nx : Nat → Nat → Nat → Nat} {p0 tgp ho : Nat} (hb0 : b0 ≤ 9) (hb1 : b1 ≤ 9) (h : SInv b0 b1 nx p0 tgp ho t r m V fd sm) : fbr b0 b1 fd ≤ 1048576 := by
  cases hfd : fd with
  | none => exact Nat.le_refl _
  | some q =>
    obtain ⟨u, s⟩ := q
    have := (h.2.2.2.1 u s hfd).2.1
    have a := cst_le hb0 hb1 u s
    have b : s * 9 ≤ 20 * 9 := Nat.mul_le_mul_right _ this
    show cst b0 b1 u s ≤ 1048576
    omega
theorem k_offer {u : Nat} (hC : CX lc n sh (J 2) b0 b1 D s0 tg) (hJ0 : J 0 = lc) (hJ3 : J 3 = min b0 b1) (hL : LC M c lc n sh tg D) (hX : KX b0 b1 (nxD lc n sh D) (mkp s0 lc) (mkp tg lc) J M c t (rvs u t) A Z I fe) (hu : u < 2 ^ t) (ht : t ≤ 20) (hm : I 0 < 65536) : ∃ M' A' Z' I', f_X0_offer c (nI t) (nI (pkr (nxD lc n sh D) (mkp s0 lc) u t)) (nI u) (nI (cst b0 b1 u t)) M = some M' ∧ KX b0 b1 (nxD lc n sh D) (mkp s0 lc) (mkp tg lc) J M' c t (rvs u t + 1) A' Z' I' fe ∧ KFr M M' c A A' Z Z' ∧ I' 0 ≤ I 0 + 1 ∧ A' 1 = A 1 ∧ Z' 1 = Z 1 ∧ I' 4 = I 4 := by
  obtain ⟨fl, v, sm, V, fd, hK, x1, x2, x3, x4, x5⟩ := hX
  have hE := hC.emk
  obtain ⟨hp, hps⟩ := hC.st u t
  have hcs := hC.cs u ht
  have hfb := fbr_le hC.2.2.2.2.2.2.2.2.1.2 hC.2.2.2.2.2.2.2.2.2.2 x5
  have hu20 : u < 1048576 := Nat.lt_of_lt_of_le hu (p2b ht)
  have h0 := hK.1
  have hc14 := hK.2.2.2.2.2.2.2.2.2.2
  rw [hJ0] at h0
  have hmb : min b0 b1 ≤ 9 := by have := hC.2.2.2.2.2.2.2.2.1; omega
  rw [k_offT h0 hL hC.2.1 hC.2.2.2.2.2.1 ht hp hps]
  obtain ⟨p, hpe⟩ : ∃ p, p = pkr (nxD lc n sh D) (mkp s0 lc) u t := ⟨_, rfl⟩
  obtain ⟨e, hee⟩ : ∃ e, e = emP (fun i => stg sh (D i) n) tg lc t p := ⟨_, rfl⟩
  have he21 : e < 2 ^ 21 := by rw [hee]; exact emP_lt hC.2.2.2.2.1 t p
  rw [← hpe, ← hee, offT]
  simp only [n_eq0 (show e < 2 ^ 31 by omega)]
  by_cases e0 : e = 0
  · rw [if_pos e0]
    exact ⟨M, A, Z, I, rfl, ⟨fl, v, sm, V, fd, hK, x1, x2, x3, x4, sinv_d0 hE x5 hu (by rw [← hpe, ← hee]; exact e0)⟩, KFr.refl _ _ _ _, by omega, rfl, rfl, rfl⟩
  · rw [if_neg e0]
    obtain ⟨l, l1, l2⟩ := ex_low e0
    have hl := hE.2.1 u t l ht (by rw [← hpe, ← hee]; exact l1)
    have hmul : (l - t) * J 3 ≤ 20 * 9 := Nat.mul_le_mul (by omega) (by omega)
    rw [c_low he21 l1 l2, Option.bind_some, zlet, pk_sub hl.1, ch_8 h0, Option.bind_some, ch_9 h0, Option.bind_some, pk_mul, nI_add]
    by_cases hlt : cst b0 b1 u t + (l - t) * J 3 < I 1
    · rw [if_pos (nI_lt hlt (by omega))]
      simp only [n_eq0 (show l - t < 2 ^ 31 by omega)]
      by_cases elt : l - t = 0
      · rw [if_pos elt]
        have el : l = t := by omega
        subst el
        have hK1 := hK.obj (J' := J) (I' := upN I 1 (cst b0 b1 u l)) rfl rfl
        have hK2 := hK1.obj (J' := J) (I' := upN (upN I 1 (cst b0 b1 u l)) 2 u) rfl rfl
        have h1 := hK1.1
        rw [ch_p9 hK.1, Option.bind_some]
        have e1 : zpI (zSet M c (.inr (0, chF c (A 1) (A 2) (J 0) (J 1) (J 2) (I 0) (J 3) (cst b0 b1 u l) (I 2)))) c [0] 10 (nI u) = some (zSet (zSet M c (.inr (0, chF c (A 1) (A 2) (J 0) (J 1) (J 2) (I 0) (J 3) (cst b0 b1 u l) (I 2)))) c (.inr (0, chF c (A 1) (A 2) (J 0) (J 1) (J 2) (I 0) (J 3) (cst b0 b1 u l) u))) := ch_p10 (zS_s _ _ _) u
        rw [e1, Option.bind_some, f_X0_offer_b129]
        refine ⟨_, A, Z, _, rfl, ⟨fl, v, sm, V, some (u, l), hK2, x1, x2, rfl, rfl, sinv_found hE x5 hu ht (by rw [← hpe, ← hee]; exact l1) ?_⟩, (KFr.set _ (Or.inl rfl) (by omega)).trans (KFr.set _ (Or.inl rfl) (by show c < M.2.1; omega)), by show I 0 ≤ I 0 + 1; omega, rfl, rfl, rfl⟩
        rw [← x3]
        omega
      · rw [if_neg elt]
        have hbt : (emP (fun i => stg sh (D i) n) tg lc t (pkr (nxD lc n sh D) (mkp s0 lc) u t)).testBit t = false := by
          rw [← hpe, ← hee]
          cases hb : e.testBit t with
          | false => rfl
          | true => have := l2 t hb; omega
        by_cases ht3 : t < 3
        · rw [if_pos (show nI t < 3 from nI_lt (b := 3) ht3 (by omega)), f_X0_offer_b121, ch_ob h0, Option.bind_some]
          obtain ⟨M', A', Z', fl', k1, k2, k3, k4, k5, k6, k7, k8⟩ := k_keep hK hm x2 (p := p) (u := u) (b := cst b0 b1 u t) (by rw [hpe]; exact hp) hu20 (by omega)
          rw [k1, Option.bind_some, f_X0_offer_b129]
          refine ⟨M', A', Z', _, rfl, ⟨fl', v, sm, upN V (I 0) u, fd, k2, fun k hk => ?_, k5, x3, x4, sinv_keep hE x5 hu ht hbt (fun k hk => upN_n _ _ (by omega)) (upN_s _ _ _) (fun _ => rfl) (fun h => by omega)⟩, k6, Nat.le_refl _, k7, k8, rfl⟩
          have hk' : k < I 0 + 1 := hk
          by_cases ek : k = I 0
          · rw [ek, upN_s, k4, hpe]
          · rw [upN_n _ _ ek, k3 k (by omega)]; exact x1 k (by omega)
        · have hky : ky (J 2) t p < 65536 := by
            have := hC.2.2.2.2.2.2.2.1
            unfold ky
            rw [hpe]
            split <;> omega
          have hSE := hK.2.2.2.1
          rw [if_neg (show ¬ nI t < 3 from nI_nlt (b := 3) (by omega) (by omega)), ch_1 h0, Option.bind_some, ch_ob h0, Option.bind_some, k_key h0 hC.2.2.2.2.2.2.2.1 (by omega), Option.bind_some, se_ob hSE.1, Option.bind_some]
          rcases se_isLess hSE hK.2.2.2.2.1 hky (show cst b0 b1 u t < 256 by omega) with ⟨bb, s1, s2, s3⟩ | ⟨s1, M1, a', N', us', v', s2, s3, s4, s5⟩
          · rw [s3, Option.bind_some, if_pos rfl, f_X0_offer_b129]
            exact ⟨M, A, Z, I, rfl, ⟨fl, v, sm, V, fd, hK, x1, x2, x3, x4, sinv_d2 hC.alk x5 hu (by omega) (by rw [← hpe]; exact s1) s2⟩, KFr.refl _ _ _ _, by omega, rfl, rfl, rfl⟩
          · rw [s2, Option.bind_some, if_neg (show ¬ (1 : Int32) = 0 by decide)]
            obtain ⟨g1, g2⟩ := hK.seen s3 s4 s5
            have h1 := g1.1
            rw [f_X0_offer_b121, ch_ob h1, Option.bind_some]
            obtain ⟨M', A', Z', fl', k1, k2, k3, k4, k5, k6, k7, k8⟩ := k_keep g1 hm x2 (p := p) (u := u) (b := cst b0 b1 u t) (by rw [hpe]; exact hp) hu20 (by omega)
            rw [k1, Option.bind_some, f_X0_offer_b129]
            refine ⟨M', A', Z', _, rfl, ⟨fl', v', _, upN V (I 0) u, fd, k2, fun k hk => ?_, k5, x3, x4, sinv_keep hE x5 hu ht hbt (fun k hk => upN_n _ _ (by omega)) (upN_s _ _ _) (fun h => by omega) (fun h => ⟨fun b hb => ?_, fun q => ?_⟩)⟩, g2.trans k6, Nat.le_refl _, k7, k8, rfl⟩
            · have hk' : k < I 0 + 1 := hk
              by_cases ek : k = I 0
              · rw [ek, upN_s]
                have : fl' (I 0) = lN (enc p u (cst b0 b1 u t)) := k4
                rw [this, hpe]
              · rw [upN_n _ _ ek]
                have : fl' k = fl k := k3 k (show k < I 0 by omega)
                rw [this]; exact x1 k (by omega)
            · exact s1 b (by rw [hpe]; exact hb)
            · rw [hpe]
    · rw [if_neg (nI_nlt (by omega) (by omega))]
      refine ⟨M, A, Z, I, rfl, ⟨fl, v, sm, V, fd, hK, x1, x2, x3, x4, sinv_d1 hE hC.2.2.2.2.2.2.2.2.1.2 hC.2.2.2.2.2.2.2.2.2.2 x5 hu ht (l := l) (fun i hi => l2 i ?_) hl.1 hl.2 ?_⟩, KFr.refl _ _ _ _, by omega, rfl, rfl, rfl⟩
      · rw [hee, hpe]; exact hi
      · rw [← x3, ← hJ3]
        omega
end KO
