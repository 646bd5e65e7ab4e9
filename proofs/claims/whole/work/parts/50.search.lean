theorem pigeon : ∀ (N n : Nat) (f : Nat → Nat), (∀ k, k < n → f k < N) → (∀ j k, j < k → k < n → f j ≠ f k) → n ≤ N
  | 0, n, f, h1, _ => by
    apply Classical.byContradiction
    intro z
    have := h1 0 (by omega)
    omega
  | N + 1, n, f, h1, h2 => by
    by_cases hc : ∃ k, k < n ∧ f k = N
    · obtain ⟨k0, hk0, e0⟩ := hc
      have := pigeon N (n - 1) (fun k => if k < k0 then f k else f (k + 1)) (fun k hk => by
        show (if k < k0 then f k else f (k + 1)) < N
        split
        next h =>
          have a := h1 k (by omega)
          have b := h2 k k0 h hk0
          omega
        next h =>
          have a := h1 (k + 1) (by omega)
          have b := h2 k0 (k + 1) (by omega) (by omega)
          omega) (fun j k hjk hk => by
        show (if j < k0 then f j else f (j + 1)) ≠ (if k < k0 then f k else f (k + 1))
        split <;> split
        · exact h2 j k hjk (by omega)
        · exact h2 j (k + 1) (by omega) (by omega)
        · omega
        · exact h2 (j + 1) (k + 1) (by omega) (by omega))
      omega
    · have := pigeon N n f (fun k hk => by
        have a := h1 k hk
        have b : f k ≠ N := fun z => hc ⟨k, hk, z⟩
        omega) h2
      omega
/-! the search, without a machine -/
def ky (ho t p : Nat) : Nat := 2 * p + (if ho = 0 then 0 else t % 2)
def SInv (b0 b1 : Nat) (nx : Nat → Nat → Nat → Nat) (p0 tg ho t r m : Nat) (V : Nat → Nat) (fd : Option (Nat × Nat)) (sm : Nat → Option Nat) : Prop :=
  (∀ k, k < m → V k < 2 ^ t ∧ rvs (V k) t < r) ∧
  (∀ j k, j < k → k < m → rvs (V j) t < rvs (V k) t) ∧
  (∀ q b, sm q = some b → ∃ t' u', 3 ≤ t' ∧ (t' < t ∨ (t' = t ∧ rvs u' t' < r)) ∧ ky ho t' (pkr nx p0 u' t') = q ∧ cst b0 b1 u' t' = b) ∧
  (∀ u s, fd = some (u, s) → pkr nx p0 u s = tg ∧ s ≤ 20 ∧ u < 2 ^ s ∧ (s < t ∨ (s = t ∧ rvs u s < r))) ∧
  (3 ≤ t → ∀ k, k < m → ∃ b, sm (ky ho t (pkr nx p0 (V k) t)) = some b ∧ b ≤ cst b0 b1 (V k) t) ∧
  (3 ≤ t → ∀ j k, j < k → k < m → pkr nx p0 (V j) t = pkr nx p0 (V k) t → cst b0 b1 (V k) t < cst b0 b1 (V j) t) ∧
  (∀ u T, Star b0 b1 (fun v s => pkr nx p0 v s = tg) u T → ((T < t ∨ (T = t ∧ rvs u T < r)) → fd = some (u, T)) ∧ (t < T → rvs u t < r → ∃ k, k < m ∧ V k = u % 2 ^ t))
/-- dogs are alike from time 3 on, but for odd and even -/
def Alk (nx : Nat → Nat → Nat → Nat) (ho : Nat) : Prop := ∀ t t', 3 ≤ t → 3 ≤ t' → (ho = 0 ∨ t % 2 = t' % 2) → ∀ w p, nx w t p = nx w t' p
/-- the times at which it can end: bits -/
def Emk (nx : Nat → Nat → Nat → Nat) (p0 tg : Nat) (em : Nat → Nat → Nat) : Prop :=
  (∀ u T t, t ≤ T → T ≤ 20 → pkr nx p0 u T = tg → (em t (pkr nx p0 u t)).testBit T = true) ∧
  (∀ u t i, t ≤ 20 → (em t (pkr nx p0 u t)).testBit i = true → t ≤ i ∧ i ≤ 20) ∧
  (∀ u t, t ≤ 20 → (em t (pkr nx p0 u t)).testBit t = true → pkr nx p0 u t = tg)
section SI
variable {b0 b1 : Nat} {nx : Nat → Nat → Nat → Nat} {p0 tg ho t r m : Nat} {V : Nat → Nat} {fd : Option (Nat × Nat)} {sm : Nat → Option Nat} {em : Nat → Nat → Nat} {u : Nat}
theorem sinv_jump {r' : Nat} (h : SInv b0 b1 nx p0 tg ho t r m V fd sm) (hr : r ≤ r') (hg : ∀ u T, Star b0 b1 (fun v s => pkr nx p0 v s = tg) u T → t ≤ T → ¬ (r ≤ rvs u t ∧ rvs u t < r')) : SInv b0 b1 nx p0 tg ho t r' m V fd sm := by
  obtain ⟨h1, h2, h3, h4, h5, h6, h7⟩ := h
  refine ⟨fun k hk => ⟨(h1 k hk).1, Nat.lt_of_lt_of_le (h1 k hk).2 hr⟩, h2, fun q b hq => ?_, fun u s hu => ?_, h5, h6, fun u T hs => ⟨fun hT => ?_, fun hT hv => ?_⟩⟩
  · obtain ⟨t', u', a, b, c⟩ := h3 q b hq
    exact ⟨t', u', a, by omega, c⟩
  · obtain ⟨a, b, c, d⟩ := h4 u s hu
    exact ⟨a, b, c, by omega⟩
  · refine (h7 u T hs).1 ?_
    rcases hT with hT | ⟨hT, hv⟩
    · exact Or.inl hT
    · have := hg u T hs (by omega)
      subst hT
      exact Or.inr ⟨rfl, by omega⟩
  · have := hg u T hs (by omega)
    exact (h7 u T hs).2 hT (by omega)
theorem sinv_drop (h : SInv b0 b1 nx p0 tg ho t (rvs u t) m V fd sm) (hu : u < 2 ^ t) (hd : ∀ v T, Star b0 b1 (fun v s => pkr nx p0 v s = tg) v T → t ≤ T → v % 2 ^ t = u → False) : SInv b0 b1 nx p0 tg ho t (rvs u t + 1) m V fd sm := by
  refine sinv_jump h (by omega) (fun v T hs hT hz => hd v T hs hT ?_)
  refine rvs_eq (Nat.mod_lt _ (Nat.two_pow_pos t)) hu ?_
  rw [rvs_md]
  omega
/-- a tune that came to the same key ahead of it, with no more breath: it is not the least one's beginning -/
theorem no_star {v T u' t' : Nat} (hA : Alk nx ho) (hs : Star b0 b1 (fun v s => pkr nx p0 v s = tg) v T) (hT : t ≤ T) (h3 : 3 ≤ t) (h3' : 3 ≤ t') (hk : ky ho t' (pkr nx p0 u' t') = ky ho t (pkr nx p0 v t)) (hc : cst b0 b1 u' t' ≤ cst b0 b1 v t) (hb : t' < t ∨ (t' = t ∧ (rvs u' t' < rvs v t ∨ cst b0 b1 u' t' < cst b0 b1 v t))) : False := by
  have hp : pkr nx p0 u' t' = pkr nx p0 v t := by
    unfold ky at hk
    split at hk
    · omega
    · omega
  have hpar : ho = 0 ∨ t' % 2 = t % 2 := by
    by_cases e : ho = 0
    · exact Or.inl e
    · unfold ky at hk
      rw [if_neg e, if_neg e] at hk
      exact Or.inr (by omega)
  have hn : ∀ w j p, nx w (t' + j) p = nx w (t + j) p := fun w j p => hA (t' + j) (t + j) (by omega) (by omega) (by omega) w p
  have hg := spl_pk hp hn (T - t)
  rw [show t + (T - t) = T by omega, hs.1] at hg
  have c := spl_cs (b0 := b0) (b1 := b1) u' t' v t (T - t)
  rw [show t + (T - t) = T by omega] at c
  have l := hs.2.2.2 (spl u' t' v t) (t' + (T - t)) (by have := hs.2.1; omega) hg
  rcases hb with hb | ⟨hbt, hb | hb⟩
  · omega
  · subst hbt
    have rr := spl_rv hb (T - t')
    rw [show t' + (T - t') = T by omega] at rr l c
    omega
  · omega
theorem sinv_d0 (hE : Emk nx p0 tg em) (h : SInv b0 b1 nx p0 tg ho t (rvs u t) m V fd sm) (hu : u < 2 ^ t) (h0 : em t (pkr nx p0 u t) = 0) : SInv b0 b1 nx p0 tg ho t (rvs u t + 1) m V fd sm := by
  refine sinv_drop h hu (fun v T hs hT hv => ?_)
  have := hE.1 v T t hT hs.2.1 hs.1
  rw [← pkr_md v t, hv, h0] at this
  simp at this
/-- the least breath known -/
def fbr (b0 b1 : Nat) (fd : Option (Nat × Nat)) : Nat := match fd with
  | none => 1048576
  | some (u, s) => cst b0 b1 u s
theorem sinv_d1 (hE : Emk nx p0 tg em) (hb0 : b0 ≤ 9) (hb1 : b1 ≤ 9) (h : SInv b0 b1 nx p0 tg ho t (rvs u t) m V fd sm) (hu : u < 2 ^ t) (ht : t ≤ 20) {l : Nat} (hl : ∀ i, (em t (pkr nx p0 u t)).testBit i = true → l ≤ i) (hl2 : t ≤ l) (hl3 : l ≤ 20) (hf : fbr b0 b1 fd ≤ cst b0 b1 u t + (l - t) * min b0 b1) : SInv b0 b1 nx p0 tg ho t (rvs u t + 1) m V fd sm := by
  refine sinv_drop h hu (fun v T hs hT hv => ?_)
  have e1 := hE.1 v T t hT hs.2.1 hs.1
  rw [← pkr_md v t, hv] at e1
  have e2 := hl T e1
  have e3 : cst b0 b1 v t = cst b0 b1 u t := by rw [← cst_md v t, hv]
  have e3r : rvs v t = rvs u t := by rw [← rvs_md v t, hv]
  have e4 := cst_mono (b0 := b0) (b1 := b1) v hT
  have e5 : (l - t) * min b0 b1 ≤ (T - t) * min b0 b1 := Nat.mul_le_mul_right _ (by omega)
  cases hfd : fd with
  | none =>
    have a := cst_le hb0 hb1 u t
    have b : (l - t) * min b0 b1 ≤ 20 * 9 := Nat.mul_le_mul (by omega) (by omega)
    rw [hfd] at hf
    simp only [fbr] at hf
    have c : t * 9 ≤ 20 * 9 := Nat.mul_le_mul_right _ ht
    omega
  | some q =>
    obtain ⟨uf, sf⟩ := q
    rw [hfd] at hf
    simp only [fbr] at hf
    obtain ⟨f1, f2, f3, f4⟩ := h.2.2.2.1 uf sf hfd
    have g := hs.2.2.2 uf sf f2 f1
    rcases f4 with f4 | ⟨f4, f5⟩
    · omega
    · subst f4
      have : T = sf := by omega
      subst this
      omega
theorem sinv_found (hE : Emk nx p0 tg em) (h : SInv b0 b1 nx p0 tg ho t (rvs u t) m V fd sm) (hu : u < 2 ^ t) (ht : t ≤ 20) (hb : (em t (pkr nx p0 u t)).testBit t = true) (hf : cst b0 b1 u t < fbr b0 b1 fd) : SInv b0 b1 nx p0 tg ho t (rvs u t + 1) m V (some (u, t)) sm := by
  have hg := hE.2.2 u t ht hb
  obtain ⟨h1, h2, h3, h4, h5, h6, h7⟩ := h
  refine ⟨fun k hk => ⟨(h1 k hk).1, Nat.lt_succ_of_lt (h1 k hk).2⟩, h2, fun q b hq => ?_, fun v s hv => ?_, h5, h6, fun v T hs => ⟨fun hT => ?_, fun hT hv => ?_⟩⟩
  · obtain ⟨t', u', a, b, c⟩ := h3 q b hq
    exact ⟨t', u', a, by omega, c⟩
  · cases hv
    exact ⟨hg, ht, hu, Or.inr ⟨rfl, by omega⟩⟩
  · have l := hs.2.2.2 u t ht hg
    by_cases hc : T < t ∨ (T = t ∧ rvs v T < rvs u t)
    · have := (h7 v T hs).1 hc
      rw [this] at hf
      simp only [fbr] at hf
      omega
    · have e : T = t := by omega
      subst e
      have := rvs_eq hs.2.2.1 hu (by omega)
      rw [this]
  · by_cases hc : rvs v t < rvs u t
    · exact (h7 v T hs).2 hT hc
    · have e : v % 2 ^ t = u := rvs_eq (Nat.mod_lt _ (Nat.two_pow_pos t)) hu (by rw [rvs_md]; omega)
      have l := hs.2.2.2 u t ht hg
      have c1 := cst_mono (b0 := b0) (b1 := b1) v (Nat.le_of_lt hT)
      have c2 : cst b0 b1 v t = cst b0 b1 u t := by rw [← cst_md v t, e]
      omega
theorem sinv_keep (hE : Emk nx p0 tg em) (h : SInv b0 b1 nx p0 tg ho t (rvs u t) m V fd sm) (hu : u < 2 ^ t) (ht : t ≤ 20) (hb : (em t (pkr nx p0 u t)).testBit t = false) {V' : Nat → Nat} {sm' : Nat → Option Nat} (hV : ∀ k, k < m → V' k = V k) (hVm : V' m = u) (hlt : t < 3 → sm' = sm) (hge : 3 ≤ t → (∀ b, sm (ky ho t (pkr nx p0 u t)) = some b → cst b0 b1 u t < b) ∧ ∀ q, sm' q = if q = ky ho t (pkr nx p0 u t) then some (cst b0 b1 u t) else sm q) : SInv b0 b1 nx p0 tg ho t (rvs u t + 1) (m + 1) V' fd sm' := by
  obtain ⟨h1, h2, h3, h4, h5, h6, h7⟩ := h
  refine ⟨fun k hk => ?_, fun j k hjk hk => ?_, fun q b hq => ?_, fun v s hv => ?_, fun h3t k hk => ?_, fun h3t j k hjk hk hp => ?_, fun v T hs => ⟨fun hT => ?_, fun hT hv => ?_⟩⟩
  · by_cases e : k = m
    · rw [e, hVm]; exact ⟨hu, by omega⟩
    · rw [hV k (by omega)]
      have := h1 k (by omega)
      exact ⟨this.1, by omega⟩
  · by_cases e : k = m
    · rw [e, hVm, hV j (by omega)]; exact (h1 j (by omega)).2
    · rw [hV k (by omega), hV j (by omega)]; exact h2 j k hjk (by omega)
  · by_cases ht3 : t < 3
    · rw [hlt ht3] at hq
      obtain ⟨t', u', a, b, c⟩ := h3 q b hq
      exact ⟨t', u', a, by omega, c⟩
    · rw [(hge (by omega)).2] at hq
      by_cases e : q = ky ho t (pkr nx p0 u t)
      · rw [if_pos e] at hq
        cases hq
        exact ⟨t, u, by omega, Or.inr ⟨rfl, by omega⟩, e.symm, rfl⟩
      · rw [if_neg e] at hq
        obtain ⟨t', u', a, b, c⟩ := h3 q b hq
        exact ⟨t', u', a, by omega, c⟩
  · obtain ⟨a, b, c, d⟩ := h4 v s hv
    exact ⟨a, b, c, by omega⟩
  · obtain ⟨g1, g2⟩ := hge h3t
    by_cases e : k = m
    · rw [e, hVm, g2, if_pos rfl]
      exact ⟨_, rfl, Nat.le_refl _⟩
    · rw [hV k (by omega), g2]
      obtain ⟨b, b1', b2'⟩ := h5 h3t k (by omega)
      split
      next e2 =>
        rw [e2] at b1'
        exact ⟨_, rfl, by have := g1 b b1'; omega⟩
      next => exact ⟨b, b1', b2'⟩
  · obtain ⟨g1, g2⟩ := hge h3t
    by_cases e : k = m
    · rw [e, hVm, hV j (by omega)] at hp
      rw [e, hVm, hV j (by omega)]
      obtain ⟨b, b1', b2'⟩ := h5 h3t j (by omega)
      rw [hp] at b1'
      have := g1 b b1'
      omega
    · rw [hV k (by omega), hV j (by omega)] at hp
      rw [hV k (by omega), hV j (by omega)]
      exact h6 h3t j k hjk (by omega) hp
  · refine (h7 v T hs).1 ?_
    rcases hT with hT | ⟨hT, hr⟩
    · exact Or.inl hT
    · by_cases hc : rvs v T < rvs u t
      · exact Or.inr ⟨hT, hc⟩
      · subst hT
        have e := rvs_eq hs.2.2.1 hu (by omega)
        have := hE.1 v T T (Nat.le_refl _) ht hs.1
        rw [e, hb] at this
        cases this
  · by_cases hc : rvs v t < rvs u t
    · obtain ⟨k, k1, k2⟩ := (h7 v T hs).2 hT hc
      exact ⟨k, by omega, by rw [hV k k1]; exact k2⟩
    · exact ⟨m, by omega, by rw [hVm]; exact (rvs_eq (Nat.mod_lt _ (Nat.two_pow_pos t)) hu (by rw [rvs_md]; omega)).symm⟩
theorem sinv_d2 (hA : Alk nx ho) (h : SInv b0 b1 nx p0 tg ho t (rvs u t) m V fd sm) (hu : u < 2 ^ t) (h3 : 3 ≤ t) {b : Nat} (hb : sm (ky ho t (pkr nx p0 u t)) = some b) (hc : b ≤ cst b0 b1 u t) : SInv b0 b1 nx p0 tg ho t (rvs u t + 1) m V fd sm := by
  refine sinv_drop h hu (fun v T hs hT hv => ?_)
  obtain ⟨t', u', a1, a2, a3, a4⟩ := h.2.2.1 _ b hb
  have e1 : cst b0 b1 v t = cst b0 b1 u t := by rw [← cst_md v t, hv]
  have e2 : rvs v t = rvs u t := by rw [← rvs_md v t, hv]
  have e3 : pkr nx p0 v t = pkr nx p0 u t := by rw [← pkr_md v t, hv]
  exact no_star hA hs hT h3 a1 (by rw [a3, e3]) (by omega) (by omega)
/-- what goes on from a time: U, n of them -/
def EInv (b0 b1 : Nat) (nx : Nat → Nat → Nat → Nat) (p0 tg t n : Nat) (U : Nat → Nat) : Prop :=
  (∀ k, k < n → U k < 2 ^ t) ∧ (∀ j k, j < k → k < n → rvs (U j) t < rvs (U k) t) ∧
  (3 ≤ t → ∀ j k, j < k → k < n → pkr nx p0 (U j) t ≠ pkr nx p0 (U k) t) ∧
  (∀ u T, Star b0 b1 (fun v s => pkr nx p0 v s = tg) u T → t < T → ∃ k, k < n ∧ U k = u % 2 ^ t)
/-- is entry j of time t gone on from? -/
def Kp (b0 b1 : Nat) (nx : Nat → Nat → Nat → Nat) (p0 ho t : Nat) (V : Nat → Nat) (sm : Nat → Option Nat) (j : Nat) : Prop := t < 3 ∨ ∃ b, sm (ky ho t (pkr nx p0 (V j) t)) = some b ∧ cst b0 b1 (V j) t ≤ b
theorem einv_of (hA : Alk nx ho) (h : SInv b0 b1 nx p0 tg ho t (2 ^ t) m V fd sm) {n : Nat} {ix : Nat → Nat} (i1 : ∀ k, k < n → ix k < m ∧ Kp b0 b1 nx p0 ho t V sm (ix k)) (i2 : ∀ j k, j < k → k < n → ix j < ix k) (i3 : ∀ j, j < m → Kp b0 b1 nx p0 ho t V sm j → ∃ k, k < n ∧ ix k = j) : EInv b0 b1 nx p0 tg t n (fun k => V (ix k)) := by
  obtain ⟨h1, h2, h3, h4, h5, h6, h7⟩ := h
  refine ⟨fun k hk => (h1 _ (i1 k hk).1).1, fun j k hjk hk => h2 _ _ (i2 j k hjk hk) (i1 k hk).1, fun h3t j k hjk hk hp => ?_, fun u T hs hT => ?_⟩
  · have c := h6 h3t _ _ (i2 j k hjk hk) (i1 k hk).1 hp
    rcases (i1 j (by omega)).2 with a | ⟨b, a1, a2⟩
    · omega
    · obtain ⟨b', c1, c2⟩ := h5 h3t (ix k) (i1 k hk).1
      have hp' : pkr nx p0 (V (ix j)) t = pkr nx p0 (V (ix k)) t := hp
      rw [hp', c1] at a1
      cases a1
      omega
  · obtain ⟨k, k1, k2⟩ := (h7 u T hs).2 hT (rvs_lt u t)
    have kp : Kp b0 b1 nx p0 ho t V sm k := by
      by_cases ht3 : t < 3
      · exact Or.inl ht3
      · obtain ⟨b, c1, c2⟩ := h5 (by omega) k k1
        refine Or.inr ⟨b, c1, ?_⟩
        apply Classical.byContradiction
        intro z
        obtain ⟨t', u', a1, a2, a3, a4⟩ := h3 _ b c1
        rw [k2] at a3 z
        rw [pkr_md] at a3
        rw [cst_md] at z
        exact no_star hA hs (Nat.le_of_lt hT) (by omega) a1 a3 (by omega) (by omega)
    obtain ⟨j, j1, j2⟩ := i3 k k1 kp
    exact ⟨j, j1, by show V (ix j) = _; rw [j2]; exact k2⟩
theorem sinv_next (h : SInv b0 b1 nx p0 tg ho t (2 ^ t) m V fd sm) (W : Nat → Nat) : SInv b0 b1 nx p0 tg ho (t + 1) 0 0 W fd sm := by
  obtain ⟨h1, h2, h3, h4, h5, h6, h7⟩ := h
  refine ⟨fun k hk => by omega, fun j k _ hk => by omega, fun q b hq => ?_, fun u s hu => ?_, fun _ k hk => by omega, fun _ j k _ hk => by omega, fun u T hs => ⟨fun hT => ?_, fun _ hv => by omega⟩⟩
  · obtain ⟨t', u', a, b, c⟩ := h3 q b hq
    exact ⟨t', u', a, by omega, c⟩
  · obtain ⟨a, b, c, d⟩ := h4 u s hu
    exact ⟨a, b, c, by omega⟩
  · refine (h7 u T hs).1 ?_
    have := rvs_lt u T
    by_cases e : T = t
    · subst e; exact Or.inr ⟨rfl, this⟩
    · exact Or.inl (by omega)
/-- the place of entry i's first child in the order -/
def rri (t n : Nat) (U : Nat → Nat) (i : Nat) : Nat := if i < n then 2 * rvs (U i) t else 2 ^ (t + 1)
theorem rri_le {n : Nat} {U : Nat → Nat} (hU : EInv b0 b1 nx p0 tg t n U) {i : Nat} (hi : i < n) : 2 * rvs (U i) t + 2 ≤ rri t n U (i + 1) := by
  unfold rri
  split
  next h =>
    have := hU.2.1 i (i + 1) (by omega) h
    omega
  next =>
    have := rvs_lt (U i) t
    rw [Nat.pow_succ]
    omega
theorem sinv_gap {n : Nat} {U : Nat → Nat} (hU : EInv b0 b1 nx p0 tg t n U) {i : Nat} (hi : i < n) (h : SInv b0 b1 nx p0 tg ho (t + 1) (2 * rvs (U i) t + 2) m V fd sm) : SInv b0 b1 nx p0 tg ho (t + 1) (rri t n U (i + 1)) m V fd sm := by
  refine sinv_jump h (rri_le hU hi) (fun u T hs hT hz => ?_)
  obtain ⟨k, k1, k2⟩ := hU.2.2.2 u T hs (by omega)
  have e : rvs (U k) t = rvs u t := by rw [k2, rvs_md]
  have e2 : rvs u (t + 1) = 2 * rvs u t + (if u.testBit t then 1 else 0) := rfl
  have hb : (if u.testBit t then 1 else 0) < 2 := bw2 _
  by_cases hk : k ≤ i
  · have : rvs (U k) t ≤ rvs (U i) t := by
      by_cases e3 : k = i
      · rw [e3]; exact Nat.le_refl _
      · exact Nat.le_of_lt (hU.2.1 k i (by omega) hi)
    omega
  · have hi1 : i + 1 < n := by omega
    have : rvs (U (i + 1)) t ≤ rvs (U k) t := by
      by_cases e3 : k = i + 1
      · rw [e3]; exact Nat.le_refl _
      · exact Nat.le_of_lt (hU.2.1 (i + 1) k (by omega) k1)
    unfold rri at hz
    rw [if_pos hi1] at hz
    omega
theorem sinv_gap0 {n : Nat} {U : Nat → Nat} (hU : EInv b0 b1 nx p0 tg t n U) (h : SInv b0 b1 nx p0 tg ho (t + 1) 0 m V fd sm) : SInv b0 b1 nx p0 tg ho (t + 1) (rri t n U 0) m V fd sm := by
  refine sinv_jump h (Nat.zero_le _) (fun u T hs hT hz => ?_)
  obtain ⟨k, k1, k2⟩ := hU.2.2.2 u T hs (by omega)
  have e : rvs (U k) t = rvs u t := by rw [k2, rvs_md]
  have e2 : rvs u (t + 1) = 2 * rvs u t + (if u.testBit t then 1 else 0) := rfl
  have : rvs (U 0) t ≤ rvs (U k) t := by
    by_cases e3 : k = 0
    · rw [e3]; exact Nat.le_refl _
    · exact Nat.le_of_lt (hU.2.1 0 k (by omega) k1)
  unfold rri at hz
  rw [if_pos (show 0 < n by omega)] at hz
  omega
theorem sinv_end0 (h : SInv b0 b1 nx p0 tg ho t (2 ^ t) 0 V fd sm) : ∀ u T, Star b0 b1 (fun v s => pkr nx p0 v s = tg) u T → fd = some (u, T) := by
  intro u T hs
  by_cases hT : t < T
  · obtain ⟨k, k1, -⟩ := (h.2.2.2.2.2.2 u T hs).2 hT (rvs_lt u t)
    omega
  · refine (h.2.2.2.2.2.2 u T hs).1 ?_
    have := rvs_lt u T
    by_cases e : T = t
    · subst e; exact Or.inr ⟨rfl, this⟩
    · exact Or.inl (by omega)
theorem sinv_end (h : SInv b0 b1 nx p0 tg ho 20 (2 ^ 20) m V fd sm) : ∀ u T, Star b0 b1 (fun v s => pkr nx p0 v s = tg) u T → fd = some (u, T) := by
  intro u T hs
  refine (h.2.2.2.2.2.2 u T hs).1 ?_
  have := rvs_lt u T
  have := hs.2.1
  by_cases e : T = 20
  · subst e; exact Or.inr ⟨rfl, by assumption⟩
  · exact Or.inl (by omega)
/-- what is found is the least -/
theorem sinv_fd (h : SInv b0 b1 nx p0 tg ho t r m V fd sm) (he : ∀ u T, Star b0 b1 (fun v s => pkr nx p0 v s = tg) u T → fd = some (u, T)) : (fd = none ∧ ∀ u T, T ≤ 20 → ¬ pkr nx p0 u T = tg) ∨ ∃ u T, fd = some (u, T) ∧ Star b0 b1 (fun v s => pkr nx p0 v s = tg) u T := by
  have ex : ∀ v s, s ≤ 20 → pkr nx p0 v s = tg → ∃ u T, Star b0 b1 (fun v s => pkr nx p0 v s = tg) u T := fun v s hs hg => star_ex (G := fun v s => pkr nx p0 v s = tg) (fun u v t hb hg => by show pkr nx p0 v t = tg; rw [← pkr_agr t hb]; exact hg) hs hg
  cases hfd : fd with
  | none =>
    refine Or.inl ⟨rfl, fun u T hT hg => ?_⟩
    obtain ⟨v, S, hv⟩ := ex u T hT hg
    have := he v S hv
    rw [hfd] at this
    cases this
  | some q =>
    obtain ⟨u, T⟩ := q
    obtain ⟨a, b, c, d⟩ := h.2.2.2.1 u T hfd
    obtain ⟨v, S, hv⟩ := ex u T b a
    have := he v S hv
    rw [hfd] at this
    cases this
    exact Or.inr ⟨u, T, rfl, hv⟩
end SI
