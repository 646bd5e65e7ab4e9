/-! tunes: the bits of u, the first one the lowest; breath; the order; where they lead -/
def cst (b0 b1 u : Nat) : Nat → Nat
  | 0 => 0
  | t + 1 => cst b0 b1 u t + (if u.testBit t then b1 else b0)
def rvs (u : Nat) : Nat → Nat
  | 0 => 0
  | t + 1 => 2 * rvs u t + (if u.testBit t then 1 else 0)
def pkr (nx : Nat → Nat → Nat → Nat) (p0 u : Nat) : Nat → Nat
  | 0 => p0
  | t + 1 => nx (if u.testBit t then 1 else 0) t (pkr nx p0 u t)
section TU
variable {b0 b1 : Nat} {nx : Nat → Nat → Nat → Nat} {p0 : Nat}
theorem cst_agr {u v : Nat} : ∀ t, (∀ i, i < t → u.testBit i = v.testBit i) → cst b0 b1 u t = cst b0 b1 v t
  | 0, _ => rfl
  | t + 1, h => by rw [cst, cst, cst_agr t (fun i hi => h i (by omega)), h t (by omega)]
theorem rvs_agr {u v : Nat} : ∀ t, (∀ i, i < t → u.testBit i = v.testBit i) → rvs u t = rvs v t
  | 0, _ => rfl
  | t + 1, h => by rw [rvs, rvs, rvs_agr t (fun i hi => h i (by omega)), h t (by omega)]
theorem pkr_agr {u v : Nat} : ∀ t, (∀ i, i < t → u.testBit i = v.testBit i) → pkr nx p0 u t = pkr nx p0 v t
  | 0, _ => rfl
  | t + 1, h => by rw [pkr, pkr, pkr_agr t (fun i hi => h i (by omega)), h t (by omega)]
theorem md_bit (u t : Nat) : ∀ i, i < t → (u % 2 ^ t).testBit i = u.testBit i := fun i hi => by
  rw [Nat.testBit_mod_two_pow]
  simp [hi]
theorem cst_md (u t : Nat) : cst b0 b1 (u % 2 ^ t) t = cst b0 b1 u t := cst_agr t (md_bit u t)
theorem rvs_md (u t : Nat) : rvs (u % 2 ^ t) t = rvs u t := rvs_agr t (md_bit u t)
theorem pkr_md (u t : Nat) : pkr nx p0 (u % 2 ^ t) t = pkr nx p0 u t := pkr_agr t (md_bit u t)
theorem rvs_lt (u : Nat) : ∀ t, rvs u t < 2 ^ t
  | 0 => Nat.zero_lt_one
  | t + 1 => by
    have := rvs_lt u t
    rw [rvs, Nat.pow_succ]
    split <;> omega
theorem rvs_inj {u v : Nat} : ∀ t, rvs u t = rvs v t → ∀ i, i < t → u.testBit i = v.testBit i
  | 0, _, i, hi => by omega
  | t + 1, h, i, hi => by
    rw [rvs, rvs] at h
    have hb : u.testBit t = v.testBit t := by
      cases hu : u.testBit t <;> cases hv : v.testBit t <;> simp [hu, hv] at h <;> first | rfl | omega
    have hr : rvs u t = rvs v t := by
      rw [hb] at h
      omega
    by_cases e : i = t
    · rw [e]; exact hb
    · exact rvs_inj t hr i (by omega)
theorem eq_bits {u v t : Nat} (hu : u < 2 ^ t) (hv : v < 2 ^ t) (h : ∀ i, i < t → u.testBit i = v.testBit i) : u = v := by
  apply Nat.eq_of_testBit_eq
  intro i
  by_cases hi : i < t
  · exact h i hi
  · rw [Nat.testBit_lt_two_pow (Nat.lt_of_lt_of_le hu (p2b (by omega))), Nat.testBit_lt_two_pow (Nat.lt_of_lt_of_le hv (p2b (by omega)))]
theorem rvs_eq {u v t : Nat} (hu : u < 2 ^ t) (hv : v < 2 ^ t) (h : rvs u t = rvs v t) : u = v := eq_bits hu hv (rvs_inj t h)
/-- the first t' of v, then what u has from t on -/
def spl (v t' u t : Nat) : Nat := 2 ^ t' * (u / 2 ^ t) + v % 2 ^ t'
theorem spl_lo (v t' u t : Nat) {i : Nat} (h : i < t') : (spl v t' u t).testBit i = v.testBit i := by
  unfold spl
  rw [Nat.testBit_two_pow_mul_add _ (Nat.mod_lt _ (Nat.two_pow_pos t')), if_pos h, md_bit v t' i h]
theorem spl_hi (v t' u t j : Nat) : (spl v t' u t).testBit (t' + j) = u.testBit (t + j) := by
  unfold spl
  rw [Nat.testBit_two_pow_mul_add _ (Nat.mod_lt _ (Nat.two_pow_pos t')), if_neg (by omega), Nat.testBit_div_two_pow]
  congr 1
  omega
theorem spl_pk {v t' u t : Nat} (hp : pkr nx p0 v t' = pkr nx p0 u t) (hn : ∀ w j p, nx w (t' + j) p = nx w (t + j) p) : ∀ j, pkr nx p0 (spl v t' u t) (t' + j) = pkr nx p0 u (t + j)
  | 0 => by
    rw [Nat.add_zero, Nat.add_zero, ← hp]
    exact pkr_agr t' (fun i hi => spl_lo v t' u t hi)
  | j + 1 => by
    show nx (if (spl v t' u t).testBit (t' + j) then 1 else 0) (t' + j) (pkr nx p0 (spl v t' u t) (t' + j)) = nx (if u.testBit (t + j) then 1 else 0) (t + j) (pkr nx p0 u (t + j))
    rw [spl_hi, spl_pk hp hn j, hn]
theorem spl_cs (v t' u t : Nat) : ∀ j, cst b0 b1 (spl v t' u t) (t' + j) + cst b0 b1 u t = cst b0 b1 v t' + cst b0 b1 u (t + j)
  | 0 => by
    rw [Nat.add_zero, Nat.add_zero, cst_agr t' (fun i hi => spl_lo v t' u t hi)]
  | j + 1 => by
    have := spl_cs v t' u t j
    show cst b0 b1 (spl v t' u t) (t' + j) + (if (spl v t' u t).testBit (t' + j) then b1 else b0) + cst b0 b1 u t = cst b0 b1 v t' + (cst b0 b1 u (t + j) + (if u.testBit (t + j) then b1 else b0))
    rw [spl_hi]
    omega
theorem spl_rv {v u t : Nat} (h : rvs v t < rvs u t) : ∀ j, rvs (spl v t u t) (t + j) < rvs u (t + j)
  | 0 => by
    rw [Nat.add_zero, rvs_agr t (fun i hi => spl_lo v t u t hi)]
    exact h
  | j + 1 => by
    have := spl_rv h j
    show 2 * rvs (spl v t u t) (t + j) + (if (spl v t u t).testBit (t + j) then 1 else 0) < 2 * rvs u (t + j) + (if u.testBit (t + j) then 1 else 0)
    rw [spl_hi]
    omega
theorem cst_mono (u : Nat) {s t : Nat} (h : s ≤ t) : cst b0 b1 u s + (t - s) * min b0 b1 ≤ cst b0 b1 u t := by
  obtain ⟨k, rfl⟩ : ∃ k, t = s + k := ⟨t - s, by omega⟩
  induction k with
  | zero => simp
  | succ k ih =>
    have ih := ih (by omega)
    show _ ≤ cst b0 b1 u (s + k) + (if u.testBit (s + k) then b1 else b0)
    have e1 : s + k - s = k := by omega
    have e2 : s + (k + 1) - s = k + 1 := by omega
    rw [e1] at ih
    rw [e2, Nat.succ_mul]
    have : min b0 b1 ≤ (if u.testBit (s + k) then b1 else b0) := by split <;> omega
    omega
theorem cst_le {b : Nat} (h0 : b0 ≤ b) (h1 : b1 ≤ b) (u : Nat) : ∀ t, cst b0 b1 u t ≤ t * b
  | 0 => by simp [cst]
  | t + 1 => by
    have := cst_le h0 h1 u t
    rw [cst, Nat.succ_mul]
    split <;> omega
theorem cst_one (u : Nat) : ∀ t, cst 1 1 u t = t
  | 0 => rfl
  | t + 1 => by rw [cst, cst_one u t]; split <;> rfl
/-- the least of the tunes that lead to it: by breath, then by length, then by order -/
def Star (b0 b1 : Nat) (G : Nat → Nat → Prop) (u T : Nat) : Prop := G u T ∧ T ≤ 20 ∧ u < 2 ^ T ∧ ∀ v t, t ≤ 20 → G v t → cst b0 b1 u T < cst b0 b1 v t ∨ (cst b0 b1 u T = cst b0 b1 v t ∧ (T < t ∨ (T = t ∧ rvs u T ≤ rvs v t)))
theorem star_ex {G : Nat → Nat → Prop} (hG : ∀ u v t, (∀ i, i < t → u.testBit i = v.testBit i) → G u t → G v t) {v t : Nat} (ht : t ≤ 20) (h : G v t) : ∃ u T, Star b0 b1 G u T := by
  have key := pk_least (fun k => ∃ v t, t ≤ 20 ∧ G v t ∧ k = (cst b0 b1 v t * 32 + t) * 2097152 + rvs v t) ⟨_, v, t, ht, h, rfl⟩
  obtain ⟨k, ⟨u, T, hT, hg, rfl⟩, hmin⟩ := key
  refine ⟨u % 2 ^ T, T, hG _ _ _ (fun i hi => (md_bit u T i hi).symm) hg, hT, Nat.mod_lt _ (Nat.two_pow_pos T), fun w s hs hw => ?_⟩
  rw [cst_md, rvs_md]
  have h1 : ¬ (cst b0 b1 w s * 32 + s) * 2097152 + rvs w s < (cst b0 b1 u T * 32 + T) * 2097152 + rvs u T := fun h => hmin _ h ⟨w, s, hs, hw, rfl⟩
  have r1 := Nat.lt_of_lt_of_le (rvs_lt u T) (p2b hT)
  have r2 := Nat.lt_of_lt_of_le (rvs_lt w s) (p2b hs)
  have p20 : (2 : Nat) ^ 20 = 1048576 := by decide
  rw [p20] at r1 r2
  omega
theorem star_uniq {G : Nat → Nat → Prop} {u T v S : Nat} (h1 : Star b0 b1 G u T) (h2 : Star b0 b1 G v S) : u = v ∧ T = S := by
  have a := h1.2.2.2 v S h2.2.1 h2.1
  have b := h2.2.2.2 u T h1.2.1 h1.1
  have e : T = S := by omega
  subst e
  exact ⟨rvs_eq h1.2.2.1 h2.2.2.1 (by omega), rfl⟩
end TU
