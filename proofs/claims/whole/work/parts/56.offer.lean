/-! the chase's memory. J: lanes, start, odd, least breath; A, Z: addresses and sizes of slots, entries, later; I: later's count, found breath, found tune, slots used, search -/
def KS (M : zMe) (c : Nat) (J A Z I : Nat → Nat) (fe fl : Nat → Int64) (v : Nat → Nat) (sm : Nat → Option Nat) : Prop :=
  M.1 c = some (.inr (0, chF c (A 1) (A 2) (J 0) (J 1) (J 2) (I 0) (J 3) (I 1) (I 2))) ∧
  M.1 (A 1) = some (lgA (Z 1) fe) ∧ M.1 (A 2) = some (lgA (Z 2) fl) ∧
  SE M (c + 14) (A 0) (Z 0) (I 3) (I 4) v sm ∧ 2 * I 3 ≤ Z 0 ∧
  (∀ i, i < 3 → Pw (Z i)) ∧ Z 1 ≤ 65536 ∧ Z 2 ≤ 65536 ∧
  (A 0 ≠ A 1 ∧ A 0 ≠ A 2 ∧ A 1 ≠ A 2) ∧ (∀ i, i < 3 → (A i < c ∨ c + 14 < A i) ∧ A i < M.2.1) ∧ c + 14 < M.2.1
def KFr (M M' : zMe) (c : Nat) (A A' Z Z' : Nat → Nat) : Prop :=
  M.2.1 ≤ M'.2.1 ∧ (∀ q, q < M.2.1 → q ≠ c → q ≠ c + 14 → (∀ i, i < 3 → q ≠ A i) → M'.1 q = M.1 q) ∧ ((∀ q, M.2.1 ≤ q → M.1 q = none) → ∀ q, M'.2.1 ≤ q → M'.1 q = none) ∧
  M'.2.1 + (Z 0 + Z 1 + Z 2) ≤ M.2.1 + (Z' 0 + Z' 1 + Z' 2) ∧ M'.2.2 + 2 * (Z 0 + Z 1 + Z 2) ≤ M.2.2 + 2 * (Z' 0 + Z' 1 + Z' 2) ∧
  (∀ i, i < 3 → (∃ j, j < 3 ∧ A' i = A j) ∨ M.2.1 ≤ A' i)
theorem KFr.refl (M : zMe) (c : Nat) (A Z : Nat → Nat) : KFr M M c A A Z Z := ⟨Nat.le_refl _, fun _ _ _ _ _ => rfl, fun h => h, Nat.le_refl _, Nat.le_refl _, fun i hi => Or.inl ⟨i, hi, rfl⟩⟩
theorem KFr.trans {M M1 M2 : zMe} {c : Nat} {A A1 A2 Z Z1 Z2 : Nat → Nat} (h : KFr M M1 c A A1 Z Z1) (k : KFr M1 M2 c A1 A2 Z1 Z2) : KFr M M2 c A A2 Z Z2 := by
  obtain ⟨h1, h2, h3, h4, h5, h6⟩ := h
  obtain ⟨k1, k2, k3, k4, k5, k6⟩ := k
  refine ⟨by omega, fun q q1 q2 q3 q4 => ?_, fun hf => k3 (h3 hf), by omega, by omega, fun i hi => ?_⟩
  · rw [k2 q (by omega) q2 q3 (fun i hi z => ?_)]
    · exact h2 q q1 q2 q3 q4
    · rcases h6 i hi with ⟨j, hj, e⟩ | e
      · exact q4 j hj (by rw [z, e])
      · omega
  · rcases k6 i hi with ⟨j, hj, e⟩ | e
    · rcases h6 j hj with ⟨l, hl, e2⟩ | e2
      · exact Or.inl ⟨l, hl, by rw [e, e2]⟩
      · exact Or.inr (by omega)
    · exact Or.inr (by omega)
/-- cells of ours are written, nothing else -/
theorem KFr.set {M : zMe} {c : Nat} {A Z : Nat → Nat} {q : Nat} (e : zEn) (hq : q = c ∨ q = c + 14 ∨ ∃ i, i < 3 ∧ q = A i) (hl : q < M.2.1) : KFr M (zSet M q e) c A A Z Z := by
  refine ⟨Nat.le_refl _, fun p p1 p2 p3 p4 => zS_n _ _ ?_, fun hf p hp => ?_, Nat.le_refl _, Nat.le_refl _, fun i hi => Or.inl ⟨i, hi, rfl⟩⟩
  · intro z
    subst z
    rcases hq with h | h | ⟨i, hi, h⟩
    · exact p2 h
    · exact p3 h
    · exact p4 i hi h
  · have hp' : M.2.1 ≤ p := hp
    rw [zS_n _ _ (by omega)]
    exact hf p hp'
theorem SE.kept {M M' : zMe} {s a N us sr : Nat} {v : Nat → Nat} {sm : Nat → Option Nat} (h : SE M s a N us sr v sm) (h1 : M'.1 s = M.1 s) (h2 : M'.1 a = M.1 a) (h3 : M.2.1 ≤ M'.2.1) : SE M' s a N us sr v sm := by
  obtain ⟨a1, ⟨fs, a2, a3⟩, a4, a5, a6, a7⟩ := h
  exact ⟨by rw [h1]; exact a1, ⟨fs, by rw [h2]; exact a2, a3⟩, a4, by omega, by omega, a7⟩
section KK
variable {M : zMe} {c : Nat} {J A Z I : Nat → Nat} {fe fl : Nat → Int64} {v : Nat → Nat} {sm : Nat → Option Nat}
/-- the chase's object is written -/
theorem KS.obj (h : KS M c J A Z I fe fl v sm) {J' I' : Nat → Nat} (h3 : I' 3 = I 3) (h4 : I' 4 = I 4) : KS (zSet M c (.inr (0, chF c (A 1) (A 2) (J' 0) (J' 1) (J' 2) (I' 0) (J' 3) (I' 1) (I' 2)))) c J' A Z I' fe fl v sm := by
  obtain ⟨k0, k1, k2, k3, k4, k5, k6, k7, k8, k9, k10⟩ := h
  have n1 := (k9 1 (by omega)).1
  have n2 := (k9 2 (by omega)).1
  have n0 := (k9 0 (by omega)).1
  refine ⟨zS_s _ _ _, by rw [zS_n _ _ (by omega)]; exact k1, by rw [zS_n _ _ (by omega)]; exact k2, ?_, by rw [h3]; exact k4, k5, k6, k7, k8, k9, k10⟩
  rw [h3, h4]
  exact k3.kept (zS_n _ _ (by omega)) (zS_n _ _ (by omega)) (Nat.le_refl _)
theorem KS.later (h : KS M c J A Z I fe fl v sm) (fl' : Nat → Int64) : KS (zSet M (A 2) (lgA (Z 2) fl')) c J A Z I fe fl' v sm := by
  obtain ⟨k0, k1, k2, k3, k4, k5, k6, k7, k8, k9, k10⟩ := h
  have n2 := (k9 2 (by omega)).1
  refine ⟨by rw [zS_n _ _ (by omega)]; exact k0, by rw [zS_n _ _ k8.2.2]; exact k1, zS_s _ _ _, ?_, k4, k5, k6, k7, k8, k9, k10⟩
  exact k3.kept (zS_n _ _ (by omega)) (zS_n _ _ k8.2.1) (Nat.le_refl _)
theorem KS.ents (h : KS M c J A Z I fe fl v sm) (fe' : Nat → Int64) : KS (zSet M (A 1) (lgA (Z 1) fe')) c J A Z I fe' fl v sm := by
  obtain ⟨k0, k1, k2, k3, k4, k5, k6, k7, k8, k9, k10⟩ := h
  have n2 := (k9 1 (by omega)).1
  refine ⟨by rw [zS_n _ _ (by omega)]; exact k0, zS_s _ _ _, by rw [zS_n _ _ (Ne.symm k8.2.2)]; exact k2, ?_, k4, k5, k6, k7, k8, k9, k10⟩
  exact k3.kept (zS_n _ _ (by omega)) (zS_n _ _ k8.1) (Nat.le_refl _)
/-- one more entry for later -/
theorem k_keep (h : KS M c J A Z I fe fl v sm) (hm : I 0 < 65536) (hz : I 0 ≤ Z 2) {p u b : Nat} (hp : p < 32768) (hu : u < 1048576) (hb : b < 256) : ∃ M' A' Z' fl', f_X0_keep c (nI p) (nI u) (nI b) M = some M' ∧ KS M' c J A' Z' (upN I 0 (I 0 + 1)) fe fl' v sm ∧ (∀ k, k < I 0 → fl' k = fl k) ∧ fl' (I 0) = lN (enc p u b) ∧ I 0 + 1 ≤ Z' 2 ∧ KFr M M' c A A' Z Z' ∧ A' 1 = A 1 ∧ Z' 1 = Z 1 := by
  -- the write
  have wr : ∀ (M : zMe) (A Z : Nat → Nat) (fl : Nat → Int64), KS M c J A Z I fe fl v sm → I 0 < Z 2 → ∃ M', f_X0_keep_b40 c (nI p) (nI u) (nI b) M = some M' ∧ KS M' c J A Z (upN I 0 (I 0 + 1)) fe (vp_updL fl (I 0) (lN (enc p u b))) v sm ∧ KFr M M' c A A Z Z := by
    intro M A Z fl h hlt
    have hP := (h.2.2.2.2.2.1 2 (by omega)).lt
    have h0 := h.1
    have h2 := h.2.2.1
    have a2 := (h.2.2.2.2.2.2.2.2.2.1 2 (by omega))
    have hc := h.2.2.2.2.2.2.2.2.2.2
    have w := wL_at (x := lN (enc p u b)) h2 hlt (by omega)
    have hK1 := h.later (vp_updL fl (I 0) (lN (enc p u b)))
    have hK2 := hK1.obj (J' := J) (I' := upN I 0 (I 0 + 1)) rfl rfl
    refine ⟨_, ?_, hK2, (KFr.set _ (Or.inr (Or.inr ⟨2, by omega, rfl⟩)) a2.2).trans (KFr.set _ (Or.inl rfl) (by show c < M.2.1; omega))⟩
    rw [f_X0_keep_b40, ch_6 h0, Option.bind_some, ch_7 h0, Option.bind_some, enc_ok hp hu hb, w, Option.bind_some, ch_7 hK1.1, Option.bind_some, nI_1, ch_p7 hK1.1, Option.bind_some]
    rfl
  have h0 := h.1
  have h2 := h.2.2.1
  have hP := (h.2.2.2.2.2.1 2 (by omega)).lt
  have hall := h
  obtain ⟨k0, k1, k2, k3, k4, k5, k6, k7, k8, k9, k10⟩ := h
  rw [f_X0_keep, ch_7 h0, Option.bind_some, if_pos (show nI (I 0) < 65536 from nI_lt (b := 65536) hm (by omega)), Option.bind_some, ch_6 h0, Option.bind_some, ln_at h2, Option.bind_some]
  by_cases hlt : I 0 < Z 2
  · rw [if_pos (nI_lt hlt (by omega))]
    obtain ⟨M', e, w1, w2⟩ := wr M A Z fl hall hlt
    exact ⟨M', A, Z, _, e, w1, fun k hk => pk_uLn (by omega), pk_uLs, by omega, w2, rfl, rfl⟩
  · have ez : Z 2 = I 0 := by omega
    have e2 : (2 : Int32) * nI (Z 2) = nI (2 * Z 2) := pk_mul 2 _
    have hz2 : znL M (nI (2 * Z 2)) = some (zAdd M (lgA (2 * Z 2) (fun _ => 0)) (2 * Z 2)) := by
      unfold znL
      rw [nI_clamp (show 2 * Z 2 < 2 ^ 31 by omega), if_neg (show ¬ (nI (2 * Z 2) < 0 ∨ 16777216 < 2 * Z 2) from fun o => o.elim (nI_pos (by omega)) (by omega))]
      rfl
    have a2 := (k9 2 (by omega)).2
    have q2 : (zAdd M (lgA (2 * Z 2) (fun _ => 0)) (2 * Z 2)).1 (A 2) = some (lgA (Z 2) fl) := by rw [zA_n _ _ _ (by omega)]; exact h2
    have q3 : (zAdd M (lgA (2 * Z 2) (fun _ => 0)) (2 * Z 2)).1 M.2.1 = some (lgA (2 * Z 2) (fun _ => 0)) := zA_s _ _ _
    have emin : (if nI (2 * Z 2) < nI (Z 2) then nI (2 * Z 2) else nI (Z 2)) = nI (Z 2) := if_neg (nI_nlt (by omega) (by omega))
    have hcp : zcp (zAdd M (lgA (2 * Z 2) (fun _ => 0)) (2 * Z 2)) (A 2) 0 M.2.1 0 (nI (Z 2)) = some (zSet (zAdd M (lgA (2 * Z 2) (fun _ => 0)) (2 * Z 2)) M.2.1 (lgA (2 * Z 2) (va_cpy fl (fun _ => 0) 0 0 (Z 2)))) := by
      unfold zcp
      rw [q2, q3]
      simp only [lgA]
      rw [if_neg, nI_clamp (by omega), zt0]
      rw [nI_clamp (by omega), zt0]
      rintro (z | z | z | z | z)
      · exact absurd z (by decide)
      · exact absurd z (by decide)
      · exact nI_pos (by omega) z
      · omega
      · omega
    have hco : f_J7_copyOf_c38d5 (A 2) (nI (2 * Z 2)) M = some (some M.2.1, zAdd M (lgA (2 * Z 2) (va_cpy fl (fun _ => 0) 0 0 (Z 2))) (2 * Z 2)) := by
      rw [f_J7_copyOf_c38d5, ln_at h2, Option.bind_some, if_neg (fun z => by have := (nI_eq (by omega) (by omega)).mp z; omega), hz2, Option.bind_some, ln_at q2, Option.bind_some, zlet, emin, hcp, Option.bind_some, zSA]
    obtain ⟨M1, hM1⟩ : ∃ M1, M1 = zAdd M (lgA (2 * Z 2) (va_cpy fl (fun _ => 0) 0 0 (Z 2))) (2 * Z 2) := ⟨_, rfl⟩
    have m1 : M1.2 = (M.2.1 + 1, M.2.2 + 2 * Z 2) := by rw [hM1]; rfl
    have m11 : M1.2.1 = M.2.1 + 1 := by rw [m1]
    have m12 : M1.2.2 = M.2.2 + 2 * Z 2 := by rw [m1]
    have mo : ∀ q, q ≠ M.2.1 → M1.1 q = M.1 q := fun q hq => by rw [hM1, zA_n _ _ _ hq]
    have c0 : M1.1 c = some (.inr (0, chF c (A 1) (A 2) (J 0) (J 1) (J 2) (I 0) (J 3) (I 1) (I 2))) := by rw [mo c (by omega)]; exact k0
    have hZ2 : 2 * Z 2 ≤ 65536 := by
      obtain ⟨K, e, K1, K2⟩ := k5 2 (by omega)
      have : K ≤ 15 := by
        apply Classical.byContradiction
        intro z
        have : (2 : Nat) ^ 16 ≤ 2 ^ K := p2b (by omega)
        have e16 : (2 : Nat) ^ 16 = 65536 := by decide
        omega
      have : (2 : Nat) ^ K ≤ 2 ^ 15 := p2b this
      have e15 : (2 : Nat) ^ 15 = 32768 := by decide
      omega
    have hPw : Pw (2 * Z 2) := by
      obtain ⟨K, e, K1, K2⟩ := k5 2 (by omega)
      refine ⟨K + 1, by rw [Nat.pow_succ]; omega, by omega, ?_⟩
      apply Classical.byContradiction
      intro z
      have : (2 : Nat) ^ 17 ≤ 2 ^ K := p2b (by omega)
      have e17 : (2 : Nat) ^ 17 = 131072 := by decide
      omega
    have b0 := (k9 0 (by omega)).2
    have b1 := (k9 1 (by omega)).2
    have hK : KS (zSet M1 c (.inr (0, chF c (A 1) M.2.1 (J 0) (J 1) (J 2) (I 0) (J 3) (I 1) (I 2)))) c J (upN A 2 M.2.1) (upN Z 2 (2 * Z 2)) I fe (va_cpy fl (fun _ => 0) 0 0 (Z 2)) v sm := by
      have n0 := (k9 0 (by omega)).1
      have n1 := (k9 1 (by omega)).1
      refine ⟨zS_s _ _ _, ?_, ?_, ?_, k4, ?_, k6, hZ2, ⟨k8.1, ?_, ?_⟩, ?_, ?_⟩
      · show (zSet M1 c _).1 (A 1) = some (lgA (Z 1) fe)
        rw [zS_n _ _ (by omega), mo _ (by omega)]; exact k1
      · show (zSet M1 c _).1 M.2.1 = some (lgA (2 * Z 2) _)
        rw [zS_n _ _ (by omega), hM1]; exact zA_s _ _ _
      · refine k3.kept ?_ ?_ (by show M.2.1 ≤ M1.2.1; omega)
        · rw [zS_n _ _ (by omega), mo _ (by omega)]
        · rw [zS_n _ _ (by omega), mo _ (by omega)]
      · intro i hi
        rcases (show i = 0 ∨ i = 1 ∨ i = 2 by omega) with rfl | rfl | rfl
        · exact k5 0 (by omega)
        · exact k5 1 (by omega)
        · exact hPw
      · show A 0 ≠ M.2.1
        omega
      · show A 1 ≠ M.2.1
        omega
      · intro i hi
        show _ ∧ upN A 2 M.2.1 i < M1.2.1
        rcases (show i = 0 ∨ i = 1 ∨ i = 2 by omega) with rfl | rfl | rfl
        · show (A 0 < c ∨ c + 14 < A 0) ∧ A 0 < M1.2.1
          have := k9 0 (by omega)
          omega
        · show (A 1 < c ∨ c + 14 < A 1) ∧ A 1 < M1.2.1
          have := k9 1 (by omega)
          omega
        · show (M.2.1 < c ∨ c + 14 < M.2.1) ∧ M.2.1 < M1.2.1
          omega
      · show c + 14 < M1.2.1
        omega
    rw [if_neg (nI_nlt (by omega) (by omega)), Option.bind_some, Option.bind_some, ln_at h2, Option.bind_some, e2, hco, Option.bind_some]
    simp only []
    rw [← hM1, ch_p6 c0, Option.bind_some]
    obtain ⟨M', e, w1, w2⟩ := wr _ _ _ _ hK (show I 0 < 2 * Z 2 by omega)
    refine ⟨M', _, _, _, e, w1, fun k hk => ?_, pk_uLs, by show I 0 + 1 ≤ 2 * Z 2; omega, KFr.trans ?_ w2, rfl, rfl⟩
    · rw [pk_uLn (by omega), pk_cpy_in (by omega) (by omega)]
      congr 1
      omega
    · refine ⟨by show M.2.1 ≤ M1.2.1; omega, fun q q1 q2 q3 q4 => ?_, fun hf q hq => ?_, ?_, ?_, fun i hi => ?_⟩
      · rw [zS_n _ _ q2, mo q (by omega)]
      · have hq' : M1.2.1 ≤ q := hq
        rw [zS_n _ _ (by omega), mo q (by omega)]
        exact hf q (by omega)
      · show M1.2.1 + (Z 0 + Z 1 + Z 2) ≤ M.2.1 + (Z 0 + Z 1 + 2 * Z 2)
        omega
      · show M1.2.2 + 2 * (Z 0 + Z 1 + Z 2) ≤ M.2.2 + 2 * (Z 0 + Z 1 + 2 * Z 2)
        omega
      · rcases (show i = 0 ∨ i = 1 ∨ i = 2 by omega) with rfl | rfl | rfl
        · exact Or.inl ⟨0, by omega, rfl⟩
        · exact Or.inl ⟨1, by omega, rfl⟩
        · exact Or.inr (Nat.le_refl _)
/-- the seen breaths have changed -/
theorem KS.seen (h : KS M c J A Z I fe fl v sm) {M' : zMe} {a' N' us' : Nat} {v' : Nat → Nat} {sm' : Nat → Option Nat} (hs : SE M' (c + 14) a' N' us' (I 4) v' sm') (hu : 2 * us' ≤ N') (hf : SFr M M' (c + 14) (A 0) (Z 0) a' N') : KS M' c J (upN A 0 a') (upN Z 0 N') (upN I 3 us') fe fl v' sm' ∧ KFr M M' c A (upN A 0 a') Z (upN Z 0 N') := by
  obtain ⟨k0, k1, k2, k3, k4, k5, k6, k7, k8, k9, k10⟩ := h
  obtain ⟨f1, f2, f3, f4, f5, f6⟩ := hf
  have n0 := k9 0 (by omega)
  have n1 := k9 1 (by omega)
  have n2 := k9 2 (by omega)
  refine ⟨⟨?_, ?_, ?_, hs, hu, fun i hi => ?_, k6, k7, ⟨?_, ?_, k8.2.2⟩, fun i hi => ?_, by omega⟩, f1, fun q q1 q2 q3 q4 => f2 q q1 q3 (q4 0 (by omega)), f4, ?_, ?_, fun i hi => ?_⟩
  · rw [f2 c (by omega) (by omega) (by omega)]; exact k0
  · show M'.1 (A 1) = _
    rw [f2 _ n1.2 (by omega) (Ne.symm k8.1)]; exact k1
  · show M'.1 (A 2) = _
    rw [f2 _ n2.2 (by omega) (Ne.symm k8.2.1)]; exact k2
  · rcases (show i = 0 ∨ i = 1 ∨ i = 2 by omega) with rfl | rfl | rfl
    · exact hs.2.2.2.2.2.1
    · exact k5 1 (by omega)
    · exact k5 2 (by omega)
  · show a' ≠ A 1
    rcases f3 with e | e
    · rw [e]; exact k8.1
    · omega
  · show a' ≠ A 2
    rcases f3 with e | e
    · rw [e]; exact k8.2.1
    · omega
  · rcases (show i = 0 ∨ i = 1 ∨ i = 2 by omega) with rfl | rfl | rfl
    · show (a' < c ∨ c + 14 < a') ∧ a' < M'.2.1
      rcases f3 with e | e
      · rw [e]; omega
      · omega
    · show (A 1 < c ∨ c + 14 < A 1) ∧ A 1 < M'.2.1
      omega
    · show (A 2 < c ∨ c + 14 < A 2) ∧ A 2 < M'.2.1
      omega
  · show M'.2.1 + (Z 0 + Z 1 + Z 2) ≤ M.2.1 + (N' + Z 1 + Z 2)
    omega
  · show M'.2.2 + 2 * (Z 0 + Z 1 + Z 2) ≤ M.2.2 + 2 * (N' + Z 1 + Z 2)
    omega
  · rcases (show i = 0 ∨ i = 1 ∨ i = 2 by omega) with rfl | rfl | rfl
    · rcases f3 with e | e
      · exact Or.inl ⟨0, by omega, e⟩
      · exact Or.inr e.1
    · exact Or.inl ⟨1, by omega, rfl⟩
    · exact Or.inl ⟨2, by omega, rfl⟩
end KK
