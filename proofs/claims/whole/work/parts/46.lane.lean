/-! a lane: its object at a, its arrays at a + 1, a + 2, a + 3 -/
def lnF (a : Nat) (n : Int32) : List Value := [.ref (a + 1), .ref (a + 2), .ref (a + 3), .int n]
def lmk (M : zMe) (a : Nat) (n : Int32) (st en me : Nat → Int32) : zMe := (fun q => if q = a then some (.inr (4, lnF a n)) else if q = a + 1 then some (.inl (.int, 320, .inl st)) else if q = a + 2 then some (.inl (.int, 672, .inl en)) else if q = a + 3 then some (.inl (.int, 5, .inl me)) else M.1 q, M.2)
section LA
variable {M : zMe} {a : Nat} {n : Int32} {st en me : Nat → Int32}
theorem lm_0 : (lmk M a n st en me).1 a = some (.inr (4, lnF a n)) := by simp [lmk]
theorem lm_1 : (lmk M a n st en me).1 (a + 1) = some (.inl (.int, 320, .inl st)) := by simp [lmk]
theorem lm_2 : (lmk M a n st en me).1 (a + 2) = some (.inl (.int, 672, .inl en)) := by simp [lmk]
theorem lm_3 : (lmk M a n st en me).1 (a + 3) = some (.inl (.int, 5, .inl me)) := by simp [lmk]
theorem lm_out {q : Nat} (h : q < a ∨ a + 3 < q) : (lmk M a n st en me).1 q = M.1 q := by
  simp [lmk, show ¬ q = a by omega, show ¬ q = a + 1 by omega, show ¬ q = a + 2 by omega, show ¬ q = a + 3 by omega]
theorem lm_s : (lmk M a n st en me).2 = M.2 := rfl
theorem lm_ob : zob (lmk M a n st en me) a 4 = some () := by simp [zob, lm_0]
theorem lm_g0 : zgN (lmk M a n st en me) a [4] 0 = some (a + 1) := by simp [zgN, zg, lm_0, lnF]
theorem lm_g1 : zgN (lmk M a n st en me) a [4] 1 = some (a + 2) := by simp [zgN, zg, lm_0, lnF]
theorem lm_g2 : zgN (lmk M a n st en me) a [4] 2 = some (a + 3) := by simp [zgN, zg, lm_0, lnF]
theorem lm_g3 : zgI (lmk M a n st en me) a [4] 3 = some n := by simp [zgI, zg, lm_0, lnF]
theorem lm_p3 {v : Int32} : zpI (lmk M a n st en me) a [4] 3 v = some (lmk M a v st en me) := by
  simp only [zpI, zp, lm_0]
  rw [if_pos (by decide)]
  congr 1
  refine zMe_ext (fun q => ?_) rfl
  by_cases h : q = a
  · subst h; simp [zSet, lmk, lnF]
  · simp [zSet, lmk, h]
theorem lm_r1 {k : Nat} (h : k < 320) : zrI (lmk M a n st en me) (a + 1) (nI k) = some (st k) := by
  simp only [zrI, lm_1]
  rw [if_neg (nI_in h (by omega)), nI_clamp (by omega)]
theorem lm_r2 {k : Nat} (h : k < 672) : zrI (lmk M a n st en me) (a + 2) (nI k) = some (en k) := by
  simp only [zrI, lm_2]
  rw [if_neg (nI_in h (by omega)), nI_clamp (by omega)]
theorem lm_r3 {k : Nat} (h : k < 5) : zrI (lmk M a n st en me) (a + 3) (nI k) = some (me k) := by
  simp only [zrI, lm_3]
  rw [if_neg (nI_in h (by omega)), nI_clamp (by omega)]
theorem lm_l1 : zln (lmk M a n st en me) (a + 1) = some 320 := by simp [zln, lm_1]
theorem lm_l2 : zln (lmk M a n st en me) (a + 2) = some 672 := by simp [zln, lm_2]
theorem lm_l3 : zln (lmk M a n st en me) (a + 3) = some 5 := by simp [zln, lm_3]
theorem lm_w1 {k : Nat} {v : Int32} (h : k < 320) : zwI (lmk M a n st en me) (a + 1) (nI k) v = some (lmk M a n (upd st k v) en me) := by
  simp only [zwI, lm_1]
  rw [if_neg (nI_in h (by omega)), nI_clamp (by omega)]
  congr 1
  refine zMe_ext (fun q => ?_) rfl
  by_cases h : q = a + 1
  · subst h; simp [zSet, lmk]
  · simp [zSet, lmk, h]
theorem lm_w2 {k : Nat} {v : Int32} (h : k < 672) : zwI (lmk M a n st en me) (a + 2) (nI k) v = some (lmk M a n st (upd en k v) me) := by
  simp only [zwI, lm_2]
  rw [if_neg (nI_in h (by omega)), nI_clamp (by omega)]
  congr 1
  refine zMe_ext (fun q => ?_) rfl
  by_cases h : q = a + 2
  · subst h; simp [zSet, lmk]
  · simp [zSet, lmk, h]
theorem lm_w3 {k : Nat} {v : Int32} (h : k < 5) : zwI (lmk M a n st en me) (a + 3) (nI k) v = some (lmk M a n st en (upd me k v)) := by
  simp only [zwI, lm_3]
  rw [if_neg (nI_in h (by omega)), nI_clamp (by omega)]
  congr 1
  refine zMe_ext (fun q => ?_) rfl
  by_cases h : q = a + 3
  · subst h; simp [zSet, lmk]
  · simp [zSet, lmk, h]
theorem lm_self (h0 : M.1 a = some (.inr (4, lnF a n))) (h1 : M.1 (a + 1) = some (.inl (.int, 320, .inl st))) (h2 : M.1 (a + 2) = some (.inl (.int, 672, .inl en))) (h3 : M.1 (a + 3) = some (.inl (.int, 5, .inl me))) : lmk M a n st en me = M := by
  refine zMe_ext (fun q => ?_) rfl
  by_cases e0 : q = a
  · subst e0; rw [h0]; exact lm_0
  · by_cases e1 : q = a + 1
    · subst e1; rw [h1]; exact lm_1
    · by_cases e2 : q = a + 2
      · subst e2; rw [h2]; exact lm_2
      · by_cases e3 : q = a + 3
        · subst e3; rw [h3]; exact lm_3
        · exact lm_out (by omega)
end LA
/-! sets of places -/
def img (f : Nat → Nat) (n s : Nat) : Nat := orF (fun p => if s.testBit p then 2 ^ f p else 0) n
theorem orF_or (f g : Nat → Nat) : ∀ n, orF (fun p => f p ||| g p) n = orF f n ||| orF g n
  | 0 => by simp [orF]
  | n + 1 => by
    rw [orF, orF, orF, orF_or f g n]
    apply Nat.eq_of_testBit_eq
    intro i
    simp only [Nat.testBit_or]
    cases (orF f n).testBit i <;> cases (orF g n).testBit i <;> cases (f n).testBit i <;> cases (g n).testBit i <;> rfl
theorem orF_congr {f g : Nat → Nat} : ∀ n, (∀ k, k < n → f k = g k) → orF f n = orF g n
  | 0, _ => rfl
  | n + 1, h => by rw [orF, orF, orF_congr n (fun k hk => h k (by omega)), h n (by omega)]
theorem img_or (f : Nat → Nat) (n a b : Nat) : img f n (a ||| b) = img f n a ||| img f n b := by
  unfold img
  rw [← orF_or]
  refine orF_congr n (fun p _ => ?_)
  rw [Nat.testBit_or]
  cases a.testBit p <;> cases b.testBit p <;> simp
theorem img_0 (f : Nat → Nat) : ∀ n, img f n 0 = 0
  | 0 => rfl
  | n + 1 => by
    show orF (fun p => if (0 : Nat).testBit p then 2 ^ f p else 0) n ||| (if (0 : Nat).testBit n then 2 ^ f n else 0) = 0
    rw [show orF (fun p => if (0 : Nat).testBit p then 2 ^ f p else 0) n = 0 from img_0 f n]
    simp
theorem orF_bit (f : Nat → Nat) (i : Nat) : ∀ n, (orF f n).testBit i = true ↔ ∃ p, p < n ∧ (f p).testBit i = true
  | 0 => by simp [orF]
  | n + 1 => by
    rw [orF, Nat.testBit_or, Bool.or_eq_true, orF_bit f i n]
    constructor
    · rintro (⟨p, h1, h2⟩ | h)
      · exact ⟨p, by omega, h2⟩
      · exact ⟨n, by omega, h⟩
    · rintro ⟨p, h1, h2⟩
      by_cases e : p = n
      · subst e; exact Or.inr h2
      · exact Or.inl ⟨p, by omega, h2⟩
theorem img_bit (f : Nat → Nat) (n s i : Nat) : (img f n s).testBit i = true ↔ ∃ p, p < n ∧ s.testBit p = true ∧ f p = i := by
  rw [img, orF_bit]
  constructor
  · rintro ⟨p, h1, h2⟩
    by_cases hs : s.testBit p = true
    · rw [if_pos hs, Nat.testBit_two_pow] at h2
      exact ⟨p, h1, hs, by simpa using h2⟩
    · rw [if_neg hs] at h2
      simp at h2
  · rintro ⟨p, h1, h2, h3⟩
    refine ⟨p, h1, ?_⟩
    rw [if_pos h2, Nat.testBit_two_pow, h3]
    simp
theorem img_lt {f : Nat → Nat} {n : Nat} (hf : ∀ p, p < n → f p < n) (s : Nat) : img f n s < 2 ^ n := by
  refine orF_ltn n (fun p hp => ?_)
  split
  · exact Nat.pow_lt_pow_right (by decide) (hf p hp)
  · exact Nat.two_pow_pos n
theorem bit_lt {s n : Nat} (h : s < 2 ^ n) {p : Nat} (hp : s.testBit p = true) : p < n := by
  apply Classical.byContradiction
  intro z
  have := Nat.testBit_lt_two_pow (Nat.lt_of_lt_of_le h (p2b (show n ≤ p by omega)))
  rw [this] at hp
  cases hp
theorem img_ne {f : Nat → Nat} {n s : Nat} (hs : s < 2 ^ n) (h : s ≠ 0) : img f n s ≠ 0 := by
  obtain ⟨p, hp⟩ := Nat.exists_testBit_of_ne_zero h
  intro z
  have := (img_bit f n s (f p)).mpr ⟨p, bit_lt hs hp, hp, rfl⟩
  rw [z] at this
  simp at this
theorem img_1 (f : Nat → Nat) {n p : Nat} (hp : p < n) : img f n (2 ^ p) = 2 ^ f p := by
  apply Nat.eq_of_testBit_eq
  intro i
  rw [Bool.eq_iff_iff, img_bit, Nat.testBit_two_pow]
  constructor
  · rintro ⟨q, h1, h2, h3⟩
    rw [Nat.testBit_two_pow] at h2
    have h2 : p = q := by simpa using h2
    rw [h2]; simpa using h3
  · intro h
    exact ⟨p, hp, by rw [Nat.testBit_two_pow]; simp, by simpa using h⟩
theorem img_congr {f g : Nat → Nat} {n : Nat} (h : ∀ p, p < n → f p = g p) (s : Nat) : img f n s = img g n s := orF_congr n (fun p hp => by rw [h p hp])
/-! phases -/
def phs (t : Nat) : Nat := if t < 3 then t else 4 - t % 2
theorem phs5 (t : Nat) : phs t < 5 := by unfold phs; split <;> omega
theorem c_phase {t : Nat} (ht : t < 2 ^ 31) (M : zMe) : f_X11_phaseOf (nI t) M = some (nI (phs t), M) := by
  unfold f_X11_phaseOf f_X11_phaseOf_b14 phs
  by_cases h : t < 3
  · rw [if_neg (show ¬ (3 : Int32) ≤ nI t from nI_ge (b := 3) h (by omega)), if_pos h]
  · rw [if_pos (show (3 : Int32) ≤ nI t from nI_le (a := 3) (by omega) ht), if_neg h, n_a1 (by omega), show (4 : Int32) = nI 4 from rfl, pk_sub (by omega)]
theorem gog_ph {n : Nat} {D : Nat → Nat} (hD : DW n D) (sh w t p : Nat) : gog sh D w (phs t) p = gog sh D w t p := by
  obtain ⟨h0, h1, h2, h3, h4⟩ := hD
  unfold phs
  by_cases ht : t < 3
  · rw [if_pos ht]
  · rw [if_neg ht]
    have e : (4 - t % 2) % 2 = t % 2 := by omega
    unfold gog
    rw [e]
    by_cases hy : D 0 = 2 ∨ D 0 = 3
    · have := h3 hy
      rw [if_pos (show (D 0 = 2 ∨ D 0 = 3) ∧ D 5 ≤ 4 - t % 2 from ⟨hy, by omega⟩), if_pos (show (D 0 = 2 ∨ D 0 = 3) ∧ D 5 ≤ t from ⟨hy, by omega⟩)]
    · rw [if_neg (show ¬ ((D 0 = 2 ∨ D 0 = 3) ∧ D 5 ≤ 4 - t % 2) from fun z => hy z.1), if_neg (show ¬ ((D 0 = 2 ∨ D 0 = 3) ∧ D 5 ≤ t) from fun z => hy z.1)]
theorem loopC {S S' R : Type} (F : Nat → Nat → S → R) (K : S' → R) (N : Nat) (I : Nat → S → Prop) (Q : S' → Prop) (hN : N < 1000000) (hs : ∀ f j s, j < N → I j s → ∃ s', F (f + 1) j s = F f (j + 1) s' ∧ I (j + 1) s') (he : ∀ f s, I N s → ∃ s', F (f + 1) N s = K s' ∧ Q s') (s : S) (h0 : I 0 s) : ∃ s', F zfu 0 s = K s' ∧ Q s' := by
  have key : ∀ k j fuel s, j + k = N → k < fuel → I j s → ∃ s', F fuel j s = K s' ∧ Q s' := by
    intro k
    induction k with
    | zero =>
      intro j fuel s h1 h2 hI
      obtain ⟨f, rfl⟩ : ∃ f, fuel = f + 1 := ⟨fuel - 1, by omega⟩
      have e : j = N := by omega
      subst e
      exact he f s hI
    | succ k ih =>
      intro j fuel s h1 h2 hI
      obtain ⟨f, rfl⟩ : ∃ f, fuel = f + 1 := ⟨fuel - 1, by omega⟩
      obtain ⟨s', e, hI'⟩ := hs f j s (by omega) hI
      rw [e]
      exact ih (j + 1) f s' (by omega) (by omega) hI'
  exact key N 0 zfu s (by omega) (by unfold zfu; omega) h0
