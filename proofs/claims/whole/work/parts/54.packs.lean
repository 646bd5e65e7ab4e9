/-! packs: the sets of all lanes, five bits each -/
def pst (p i : Nat) : Nat := p / 2 ^ (5 * i) % 32
def mkp (f : Nat → Nat) (lc : Nat) : Nat := orF (fun i => f i * 2 ^ (5 * i)) lc
theorem pst_bit (p i : Nat) {j : Nat} (hj : j < 5) : (pst p i).testBit j = p.testBit (5 * i + j) := by
  unfold pst
  rw [show (32 : Nat) = 2 ^ 5 from rfl, md_bit _ 5 j hj, Nat.testBit_div_two_pow, Nat.add_comm]
theorem pst_lt (p i : Nat) : pst p i < 32 := Nat.mod_lt _ (by decide)
theorem mkp_bit {f : Nat → Nat} {lc : Nat} (hf : ∀ i, i < lc → f i < 32) (i : Nat) {j : Nat} (hj : j < 5) : (mkp f lc).testBit (5 * i + j) = (decide (i < lc) && (f i).testBit j) := by
  rw [Bool.eq_iff_iff, mkp, orF_bit]
  constructor
  · rintro ⟨p, h1, h2⟩
    rw [Nat.testBit_mul_two_pow, Bool.and_eq_true, decide_eq_true_iff] at h2
    have h3 := bit_lt (n := 5) (hf p h1) h2.2
    have e : p = i := by omega
    subst e
    rw [show 5 * p + j - 5 * p = j by omega] at h2
    simp [h1, h2.2]
  · intro h
    rw [Bool.and_eq_true, decide_eq_true_iff] at h
    refine ⟨i, h.1, ?_⟩
    rw [Nat.testBit_mul_two_pow, show 5 * i + j - 5 * i = j by omega, h.2]
    simp
theorem pst_mkp {f : Nat → Nat} {lc : Nat} (hf : ∀ i, i < lc → f i < 32) (i : Nat) : pst (mkp f lc) i = if i < lc then f i else 0 := by
  refine eq_bits (t := 5) (pst_lt _ _) ?_ (fun j hj => ?_)
  · split
    next h => exact hf i h
    next => decide
  · rw [pst_bit _ _ hj, mkp_bit hf i hj]
    by_cases h : i < lc
    · simp [h]
    · simp [h]
theorem mkp_lt {f : Nat → Nat} {lc : Nat} (hf : ∀ i, i < lc → f i < 32) (h3 : lc ≤ 3) : mkp f lc < 32768 := by
  refine orF_ltn (b := 15) lc (fun k hk => ?_)
  have h1 := hf k hk
  have h2 : (2 : Nat) ^ (5 * k) ≤ 2 ^ 10 := p2b (by omega)
  calc f k * 2 ^ (5 * k) ≤ 31 * 2 ^ 10 := Nat.mul_le_mul (by omega) h2
    _ < 2 ^ 15 := by decide
theorem mkp_congr {f g : Nat → Nat} {lc : Nat} (h : ∀ i, i < lc → f i = g i) : mkp f lc = mkp g lc := orF_congr lc (fun k hk => by rw [h k hk])
/-- the pack behind a whistle -/
def npk (g : Nat → Nat → Nat → Nat → Nat) (lc w t p : Nat) : Nat := mkp (fun i => g i w t (pst p i)) lc
def andF (f : Nat → Nat) : Nat → Nat
  | 0 => 4294967295
  | k + 1 => andF f k &&& f k
theorem andF_bit (f : Nat → Nat) (i : Nat) (hi : i < 32) : ∀ n, (andF f n).testBit i = true ↔ ∀ k, k < n → (f k).testBit i = true
  | 0 => by
    have : ∀ i, i < 32 → Nat.testBit 4294967295 i = true := by decide
    simp [andF, this i hi]
  | n + 1 => by
    rw [andF, Nat.testBit_and, Bool.and_eq_true, andF_bit f i hi n]
    constructor
    · rintro ⟨h1, h2⟩ k hk
      by_cases e : k = n
      · rw [e]; exact h2
      · exact h1 k (by omega)
    · intro h
      exact ⟨fun k hk => h k (by omega), h n (by omega)⟩
def emP (g : Nat → Nat → Nat → Nat → Nat) (tg : Nat → Nat) (lc t p : Nat) : Nat := andF (fun i => enF (tg i) (g i) (20 - t) (pst p i)) lc
theorem enF_bits (tg : Nat) (g : Nat → Nat → Nat → Nat) {i : Nat} : ∀ k s, k ≤ 20 → (enF tg g k s).testBit i = true → 20 - k ≤ i ∧ i ≤ 20
  | 0, s, _, h => by
    rw [enF] at h
    split at h
    · rw [Nat.testBit_two_pow, decide_eq_true_iff] at h; omega
    · simp at h
  | k + 1, s, hk, h => by
    rw [enF, Nat.testBit_or, Nat.testBit_or, Bool.or_eq_true, Bool.or_eq_true] at h
    rcases h with (h | h) | h
    · split at h
      · rw [Nat.testBit_two_pow, decide_eq_true_iff] at h; omega
      · simp at h
    · have := enF_bits tg g k _ (by omega) h; omega
    · have := enF_bits tg g k _ (by omega) h; omega
theorem enF_here (tg : Nat) (g : Nat → Nat → Nat → Nat) {t s : Nat} (ht : t ≤ 20) : (enF tg g (20 - t) s).testBit t = true ↔ s = tg := by
  by_cases e : t = 20
  · subst e
    rw [show 20 - 20 = 0 from rfl, enF]
    by_cases h : s = tg
    · rw [if_pos h, Nat.testBit_two_pow]; simp [h]
    · rw [if_neg h]; simp [h]
  · obtain ⟨k, hk⟩ : ∃ k, 20 - t = k + 1 := ⟨19 - t, by omega⟩
    rw [hk, enF, Nat.testBit_or, Nat.testBit_or, Bool.or_eq_true, Bool.or_eq_true, show 19 - k = t by omega]
    constructor
    · rintro ((h | h) | h)
      · apply Classical.byContradiction
        intro z
        rw [if_neg z] at h
        simp at h
      · have := enF_bits tg g k _ (by omega) h; omega
      · have := enF_bits tg g k _ (by omega) h; omega
    · intro h
      rw [if_pos h, Nat.testBit_two_pow]
      simp
theorem enF_lt (tg : Nat) (g : Nat → Nat → Nat → Nat) {k s : Nat} (hk : k ≤ 20) : enF tg g k s < 2 ^ 21 := by
  apply Nat.lt_pow_two_of_testBit
  intro i hi
  cases h : (enF tg g k s).testBit i with
  | false => rfl
  | true => have := enF_bits tg g k s hk h; omega
section PK
variable {g : Nat → Nat → Nat → Nat → Nat} {lc n : Nat} {s0 tg : Nat → Nat}
/-- lanes go from sets of n places to such -/
def Gok (g : Nat → Nat → Nat → Nat → Nat) (lc n : Nat) : Prop := ∀ i, i < lc → ∀ w, w < 2 → ∀ t s, 1 ≤ s → s < 2 ^ n → 1 ≤ g i w t s ∧ g i w t s < 2 ^ n
theorem pkr_st (hg : Gok g lc n) (hn : n ≤ 5) (hs : ∀ i, i < lc → 1 ≤ s0 i ∧ s0 i < 2 ^ n) (u : Nat) : ∀ t, pkr (npk g lc) (mkp s0 lc) u t = mkp (fun i => pst (pkr (npk g lc) (mkp s0 lc) u t) i) lc ∧ ∀ i, i < lc → 1 ≤ pst (pkr (npk g lc) (mkp s0 lc) u t) i ∧ pst (pkr (npk g lc) (mkp s0 lc) u t) i < 2 ^ n
  | 0 => by
    have h32 := p2_32 hn
    have e : ∀ i, i < lc → pst (mkp s0 lc) i = s0 i := fun i hi => by rw [pst_mkp (fun i hi => by have := hs i hi; omega), if_pos hi]
    exact ⟨(mkp_congr e).symm, fun i hi => by show 1 ≤ pst (mkp s0 lc) i ∧ pst (mkp s0 lc) i < 2 ^ n; rw [e i hi]; exact hs i hi⟩
  | t + 1 => by
    have h32 := p2_32 hn
    obtain ⟨a, b⟩ := pkr_st hg hn hs u t
    have hb : ∀ i, i < lc → 1 ≤ g i (if u.testBit t then 1 else 0) t (pst (pkr (npk g lc) (mkp s0 lc) u t) i) ∧ g i (if u.testBit t then 1 else 0) t (pst (pkr (npk g lc) (mkp s0 lc) u t) i) < 2 ^ n := fun i hi => hg i hi _ (bw2 _) t _ (b i hi).1 (b i hi).2
    have e : ∀ i, i < lc → pst (pkr (npk g lc) (mkp s0 lc) u (t + 1)) i = g i (if u.testBit t then 1 else 0) t (pst (pkr (npk g lc) (mkp s0 lc) u t) i) := fun i hi => by
      show pst (mkp _ lc) i = _
      rw [pst_mkp (fun i hi => by have := hb i hi; omega), if_pos hi]
    exact ⟨(mkp_congr e).symm, fun i hi => by rw [e i hi]; exact hb i hi⟩
theorem pkr_stp (hg : Gok g lc n) (hn : n ≤ 5) (hs : ∀ i, i < lc → 1 ≤ s0 i ∧ s0 i < 2 ^ n) (u t : Nat) {i : Nat} (hi : i < lc) : pst (pkr (npk g lc) (mkp s0 lc) u (t + 1)) i = g i (if u.testBit t then 1 else 0) t (pst (pkr (npk g lc) (mkp s0 lc) u t) i) := by
  have h32 := p2_32 hn
  obtain ⟨a, b⟩ := pkr_st hg hn hs u t
  show pst (mkp _ lc) i = _
  rw [pst_mkp (fun i hi => by have := hg i hi _ (bw2 (u.testBit t)) t _ (b i hi).1 (b i hi).2; omega), if_pos hi]
theorem pkr_tg (hg : Gok g lc n) (hn : n ≤ 5) (hs : ∀ i, i < lc → 1 ≤ s0 i ∧ s0 i < 2 ^ n) (htg : ∀ i, i < lc → tg i < 32) (u t : Nat) : pkr (npk g lc) (mkp s0 lc) u t = mkp tg lc ↔ ∀ i, i < lc → pst (pkr (npk g lc) (mkp s0 lc) u t) i = tg i := by
  constructor
  · intro h i hi
    rw [h, pst_mkp htg, if_pos hi]
  · intro h
    rw [(pkr_st hg hn hs u t).1]
    exact mkp_congr h
theorem en_reach (hg : Gok g lc n) (hn : n ≤ 5) (hs : ∀ i, i < lc → 1 ≤ s0 i ∧ s0 i < 2 ^ n) {u T : Nat} (hT : T ≤ 20) {i : Nat} (hi : i < lc) {tgi : Nat} (h : pst (pkr (npk g lc) (mkp s0 lc) u T) i = tgi) : ∀ d t, t + d = T → (enF tgi (g i) (20 - t) (pst (pkr (npk g lc) (mkp s0 lc) u t) i)).testBit T = true
  | 0, t, e => by
    have e : t = T := by omega
    subst e
    exact (enF_here _ _ hT).mpr h
  | d + 1, t, e => by
    have ih := en_reach hg hn hs hT hi h d (t + 1) (by omega)
    rw [pkr_stp hg hn hs u t hi] at ih
    obtain ⟨k, hk⟩ : ∃ k, 20 - t = k + 1 := ⟨19 - t, by omega⟩
    rw [hk, enF, Nat.testBit_or, Nat.testBit_or, Bool.or_eq_true, Bool.or_eq_true, show 19 - k = t by omega]
    rw [show 20 - (t + 1) = k by omega] at ih
    cases hb : u.testBit t with
    | false => rw [hb] at ih; exact Or.inl (Or.inr ih)
    | true => rw [hb] at ih; exact Or.inr ih
theorem emk_ok (hg : Gok g lc n) (hn : n ≤ 5) (hs : ∀ i, i < lc → 1 ≤ s0 i ∧ s0 i < 2 ^ n) (htg : ∀ i, i < lc → tg i < 32) (hlc : 1 ≤ lc) : Emk (npk g lc) (mkp s0 lc) (mkp tg lc) (emP g tg lc) := by
  have hb : ∀ u t i, t ≤ 20 → (emP g tg lc t (pkr (npk g lc) (mkp s0 lc) u t)).testBit i = true → i < 32 → ∀ k, k < lc → (enF (tg k) (g k) (20 - t) (pst (pkr (npk g lc) (mkp s0 lc) u t) k)).testBit i = true := fun u t i ht h hi => (andF_bit _ i hi lc).mp h
  have h32 : ∀ u t i, t ≤ 20 → (emP g tg lc t (pkr (npk g lc) (mkp s0 lc) u t)).testBit i = true → i < 32 := fun u t i ht h => by
    have hl : emP g tg lc t (pkr (npk g lc) (mkp s0 lc) u t) < 2 ^ 21 := by
      obtain ⟨k, rfl⟩ : ∃ k, lc = k + 1 := ⟨lc - 1, by omega⟩
      exact Nat.lt_of_le_of_lt Nat.and_le_right (enF_lt _ _ (by omega))
    have := bit_lt hl h
    omega
  refine ⟨fun u T t h1 h2 h3 => ?_, fun u t i h1 h2 => ?_, fun u t h1 h2 => ?_⟩
  · refine (andF_bit _ T (by omega) lc).mpr (fun k hk => ?_)
    exact en_reach hg hn hs h2 hk ((pkr_tg hg hn hs htg u T).mp h3 k hk) (T - t) t (by omega)
  · have := enF_bits _ _ (20 - t) _ (by omega) (hb u t i h1 h2 (h32 u t i h1 h2) 0 (by omega))
    omega
  · refine (pkr_tg hg hn hs htg u t).mpr (fun k hk => ?_)
    exact (enF_here _ _ h1).mp (hb u t t h1 h2 (by omega) k hk)
theorem emP_lt (hlc : 1 ≤ lc) (t p : Nat) : emP g tg lc t p < 2 ^ 21 := by
  obtain ⟨k, rfl⟩ : ∃ k, lc = k + 1 := ⟨lc - 1, by omega⟩
  exact Nat.lt_of_le_of_lt Nat.and_le_right (enF_lt _ _ (by omega))
end PK
theorem stg_ok {n sh : Nat} {D : Nat → Nat} (hD : DW n D) {w t s : Nat} (hw : w < 2) (h1 : 1 ≤ s) (h2 : s < 2 ^ n) : 1 ≤ stg sh D n w t s ∧ stg sh D n w t s < 2 ^ n := ⟨Nat.pos_of_ne_zero (img_ne h2 (by omega)), img_lt (fun p hp => gog_lt hD hw hp) s⟩
theorem alk_ok {lc n sh ho : Nat} {D : Nat → Nat → Nat} (hD : ∀ i, i < lc → DW n (D i)) (hho : ho = 0 → ∀ i, i < lc → ¬ (D i 0 = 1 ∨ D i 0 = 4)) : Alk (npk (fun i => stg sh (D i) n) lc) ho := by
  intro t t' h3 h3' hp w p
  refine mkp_congr (fun i hi => ?_)
  refine img_congr (fun q _ => ?_) _
  by_cases e : t % 2 = t' % 2
  · rw [← gog_ph (hD i hi) sh w t q, ← gog_ph (hD i hi) sh w t' q]
    unfold phs
    rw [if_neg (by omega), if_neg (by omega), e]
  · have h0 := hho (hp.resolve_right e) i hi
    obtain ⟨-, -, -, hy, -⟩ := hD i hi
    have key : ∀ t, 3 ≤ t → gog sh (D i) w t q = if D i 0 = 2 ∨ D i 0 = 3 then (if D i 0 = 3 then stp sh (D i (3 + w)) (stp sh (D i (3 + w)) q) else stp sh (D i (3 + w)) q) else stp sh (D i (1 + w)) q := by
      intro t h3
      unfold gog
      rw [if_neg (fun z => h0 (Or.inl z.1)), if_neg (fun z => h0 (Or.inr z.1))]
      by_cases y : D i 0 = 2 ∨ D i 0 = 3
      · have := hy y
        rw [if_pos ⟨y, by omega⟩, if_pos y]
      · rw [if_neg (fun z => y z.1), if_neg y]
    rw [key t h3, key t' h3']
