/-- v less 1 is the least of C; 0: there is none -/
def Best (C : Nat → Prop) (v : Nat) : Prop := (v = 0 ∧ ∀ c, ¬ C c) ∨ ∃ c, C c ∧ v = c + 1 ∧ ∀ c', C c' → c ≤ c'
theorem Best.add {C C' E : Nat → Prop} {v c0 : Nat} (h : Best C v) (hC : ∀ c, C' c ↔ C c ∨ E c) (h0 : E c0) (hm : ∀ c, E c → c0 ≤ c) : Best C' (if v = 0 then c0 + 1 else if v ≤ c0 + 1 then v else c0 + 1) := by
  rcases h with ⟨h1, h2⟩ | ⟨c, h1, h2, h3⟩
  · rw [if_pos h1]
    refine Or.inr ⟨c0, (hC _).mpr (Or.inr h0), rfl, fun c hc => ?_⟩
    rcases (hC c).mp hc with h | h
    · exact absurd h (h2 c)
    · exact hm c h
  · rw [if_neg (by omega)]
    split
    next hle =>
      refine Or.inr ⟨c, (hC _).mpr (Or.inl h1), h2, fun c' hc => ?_⟩
      rcases (hC c').mp hc with h | h
      · exact h3 c' h
      · have := hm c' h; omega
    next hle =>
      refine Or.inr ⟨c0, (hC _).mpr (Or.inr h0), rfl, fun c' hc => ?_⟩
      rcases (hC c').mp hc with h | h
      · have := h3 c' h; omega
      · exact hm c' h
theorem Best.iff {C C' : Nat → Prop} {v : Nat} (h : Best C v) (hC : ∀ c, C' c ↔ C c) : Best C' v := by
  rcases h with ⟨h1, h2⟩ | ⟨c, h1, h2, h3⟩
  · exact Or.inl ⟨h1, fun c hc => h2 c ((hC c).mp hc)⟩
  · exact Or.inr ⟨c, (hC c).mpr h1, h2, fun c' hc => h3 c' ((hC c').mp hc)⟩
/-- layer l of best, waits, many holds the least of C -/
def LY (l : Nat) (C : Nat → Nat → Prop) (be wa mn : Nat → Int32) : Prop := ∃ (bv q : Nat → Nat) (cnt : Nat), (∀ s, s < 32768 → be (32768 * l + s) = nI (bv s) ∧ bv s < 2 ^ 30 ∧ Best (C s) (bv s)) ∧ mn l = nI cnt ∧ cnt ≤ 32768 ∧ (∀ k, k < cnt → wa (32768 * l + k) = nI (q k) ∧ q k < 32768 ∧ bv (q k) ≠ 0) ∧ (∀ j k, j < k → k < cnt → q j ≠ q k) ∧ (∀ s, s < 32768 → bv s ≠ 0 → ∃ k, k < cnt ∧ q k = s)
def Emp (l : Nat) (be mn : Nat → Int32) : Prop := (∀ s, s < 32768 → be (32768 * l + s) = 0) ∧ mn l = 0
def arL (ar : Nat → Nat → Int32) (be wa mn : Nat → Int32) : Nat → Nat → Int32 := fun j => if j = 6 then be else if j = 7 then wa else if j = 8 then mn else ar j
theorem arL_6 (ar : Nat → Nat → Int32) (be wa mn f : Nat → Int32) : updA (arL ar be wa mn) 6 f = arL ar f wa mn := by funext j; by_cases h : j = 6 <;> simp [updA, arL, h]
theorem arL_7 (ar : Nat → Nat → Int32) (be wa mn f : Nat → Int32) : updA (arL ar be wa mn) 7 f = arL ar be f mn := by funext j; by_cases h : j = 7 <;> simp [updA, arL, h]
theorem arL_8 (ar : Nat → Nat → Int32) (be wa mn f : Nat → Int32) : updA (arL ar be wa mn) 8 f = arL ar be wa f := by funext j; by_cases h : j = 8 <;> simp [updA, arL, h]
theorem arL_id (ar : Nat → Nat → Int32) : arL ar (ar 6) (ar 7) (ar 8) = ar := by
  funext j
  unfold arL
  split
  next h => rw [h]
  next => split
          next h => rw [h]
          next => split
                  next h => rw [h]
                  next => rfl
section ML
variable {M : zMe} {m : Nat} {sc : Nat → Int32} {lg : Nat → Int64} {ar : Nat → Nat → Int32} {en : Nat → Int64} {B : Nat → Nat} {be wa mn : Nat → Int32}
theorem Emp.ly {l : Nat} (h : Emp l be mn) (wa : Nat → Int32) : LY l (fun _ _ => False) be wa mn := ⟨fun _ => 0, fun _ => 0, 0, fun s hs => ⟨h.1 s hs, (by show 0 < 2 ^ 30; decide), Or.inl ⟨rfl, fun _ hc => hc⟩⟩, h.2, by omega, fun k hk => by omega, fun j k _ hk => by omega, fun s _ hz => absurd rfl hz⟩
theorem LY.iff {l : Nat} {C C' : Nat → Nat → Prop} (h : LY l C be wa mn) (hC : ∀ s, s < 32768 → ∀ c, C' s c ↔ C s c) : LY l C' be wa mn := by
  obtain ⟨bv, q, cnt, h1, h2⟩ := h
  exact ⟨bv, q, cnt, fun s hs => ⟨(h1 s hs).1, (h1 s hs).2.1, (h1 s hs).2.2.iff (hC s hs)⟩, h2⟩
/-- one more way to a state: its least is c0 -/
theorem m_comesTo {l : Nat} (hl : l < 2) {C C' : Nat → Nat → Prop} {E : Nat → Prop} {s0 c0 : Nat} (h : LY l C be wa mn) (hs0 : s0 < 32768) (hc0 : c0 + 1 < 2 ^ 30) (hC : ∀ s c, C' s c ↔ C s c ∨ (s = s0 ∧ E c)) (h0 : E c0) (hm : ∀ c, E c → c0 ≤ c) : ∃ be' wa' mn', f_X12_comesTo m (nI l) (nI s0) (nI c0) (mmk M m sc lg (arL ar be wa mn) en) = some (mmk M m sc lg (arL ar be' wa' mn') en) ∧ LY l C' be' wa' mn' ∧ (∀ k, k < 32768 * l ∨ 32768 * l + 32768 ≤ k → be' k = be k ∧ wa' k = wa k) ∧ (∀ k, k ≠ l → mn' k = mn k) := by
  obtain ⟨bv, q, cnt, h1, h2, h3, h4, h5, h6⟩ := h
  obtain ⟨b1, b2, b3⟩ := h1 s0 hs0
  have er : (32768 : Int32) * nI l + nI s0 = nI (32768 * l + s0) := by rw [show (32768 : Int32) * nI l = nI (32768 * l) from pk_mul 32768 l, nI_add]
  have ebe : ∀ be wa mn : Nat → Int32, arL ar be wa mn 6 = be := fun _ _ _ => rfl
  have rb : zrI (mmk M m sc lg (arL ar be wa mn) en) (m + 7) (nI (32768 * l + s0)) = some (nI (bv s0)) := by rw [mm_rN7 (by omega), ebe, b1]
  have hadd : ∀ s, s < 32768 → s ≠ s0 → Best (C' s) (bv s) := fun s hs hne => (h1 s hs).2.2.iff (fun c => (hC s c).trans ⟨fun o => o.elim id (fun z => absurd z.1 hne), Or.inl⟩)
  have hadd0 : Best (C' s0) (if bv s0 = 0 then c0 + 1 else if bv s0 ≤ c0 + 1 then bv s0 else c0 + 1) := b3.add (E := E) (fun c => (hC s0 c).trans ⟨fun o => o.elim Or.inl (fun z => Or.inr z.2), fun o => o.elim Or.inl (fun z => Or.inr ⟨rfl, z⟩)⟩) h0 hm
  rw [f_X12_comesTo, er, zlet, mm_gN13, Option.bind_some, rb, Option.bind_some, nI_1]
  by_cases hz : bv s0 = 0
  · rw [if_pos hz] at hadd0
    have hcl : cnt < 32768 := by
      have hp := pigeon 32768 (cnt + 1) (fun k => if k < cnt then q k else s0) (fun k hk => by
        show (if k < cnt then q k else s0) < 32768
        split
        next h => exact (h4 k h).2.1
        next => exact hs0) (fun j k hjk hk => by
        show (if j < cnt then q j else s0) ≠ (if k < cnt then q k else s0)
        rw [if_pos (show j < cnt by omega)]
        split
        next h => exact h5 j k hjk h
        next h =>
          intro z
          exact (h4 j (by omega)).2.2 (by rw [z]; exact hz))
      omega
    have ewa : ∀ be wa mn : Nat → Int32, arL ar be wa mn 7 = wa := fun _ _ _ => rfl
    have emn : ∀ be wa mn : Nat → Int32, arL ar be wa mn 8 = mn := fun _ _ _ => rfl
    have rm : ∀ wa', zrI (mmk M m sc lg (arL ar be wa' mn) en) (m + 9) (nI l) = some (nI cnt) := fun wa' => by rw [mm_rN9 hl, emn, h2]
    have er2 : (32768 : Int32) * nI l + nI cnt = nI (32768 * l + cnt) := by rw [show (32768 : Int32) * nI l = nI (32768 * l) from pk_mul 32768 l, nI_add]
    refine ⟨upd be (32768 * l + s0) (nI (c0 + 1)), upd wa (32768 * l + cnt) (nI s0), upd mn l (nI (cnt + 1)), ?_, ⟨upN bv s0 (c0 + 1), upN q cnt s0, cnt + 1, fun s hs => ?_, up_s _ _ _, by omega, fun k hk => ?_, fun j k hjk hk => ?_, fun s hs hn => ?_⟩, fun k hk => ?_, fun k hk => up_n _ _ hk⟩
    · rw [if_pos (by rw [hz]; rfl), mm_gN14, Option.bind_some, mm_gN15, Option.bind_some, rm, Option.bind_some, er2, mm_wN8 (by omega), Option.bind_some, arL_7, ewa, mm_gN15, Option.bind_some, rm, Option.bind_some, nI_1, mm_wN9 hl, Option.bind_some, arL_8, emn, mm_gN13, Option.bind_some, mm_wN7 (by omega), Option.bind_some, arL_6, ebe, f_X12_comesTo_b81]
    · by_cases e : s = s0
      · rw [e, up_s, upN_s]; exact ⟨rfl, hc0, hadd0⟩
      · rw [up_n _ _ (by omega), upN_n _ _ e]; exact ⟨(h1 s hs).1, (h1 s hs).2.1, hadd s hs e⟩
    · by_cases e : k = cnt
      · rw [e, up_s, upN_s, upN_s]; exact ⟨rfl, hs0, by omega⟩
      · obtain ⟨k1, k2, k3⟩ := h4 k (by omega)
        rw [up_n _ _ (by omega), upN_n _ _ e]
        refine ⟨k1, k2, ?_⟩
        rw [upN_n _ _ (fun z => k3 (by rw [z]; exact hz))]
        exact k3
    · by_cases e : k = cnt
      · rw [e, upN_s, upN_n _ _ (by omega)]
        intro z
        exact (h4 j (by omega)).2.2 (by rw [z]; exact hz)
      · rw [upN_n _ _ e, upN_n _ _ (by omega)]; exact h5 j k hjk (by omega)
    · by_cases e : s = s0
      · exact ⟨cnt, by omega, by rw [upN_s, e]⟩
      · rw [upN_n _ _ e] at hn
        obtain ⟨k, k1, k2⟩ := h6 s hs hn
        exact ⟨k, by omega, by rw [upN_n _ _ (by omega)]; exact k2⟩
    · exact ⟨up_n _ _ (by omega), up_n _ _ (by omega)⟩
  · rw [if_neg hz] at hadd0
    rw [if_neg (nI_ne0 (by omega) (by omega)), Option.bind_some, rb, Option.bind_some]
    by_cases hle : bv s0 ≤ c0 + 1
    · rw [if_pos hle] at hadd0
      rw [if_pos (nI_le hle (by omega)), f_X12_comesTo_b81]
      refine ⟨be, wa, mn, rfl, ⟨bv, q, cnt, fun s hs => ?_, h2, h3, h4, h5, h6⟩, fun k _ => ⟨rfl, rfl⟩, fun k _ => rfl⟩
      by_cases e : s = s0
      · rw [e]; exact ⟨b1, b2, hadd0⟩
      · exact ⟨(h1 s hs).1, (h1 s hs).2.1, hadd s hs e⟩
    · rw [if_neg hle] at hadd0
      rw [if_neg (nI_ge (by omega) (by omega)), Option.bind_some, mm_wN7 (by omega), Option.bind_some, arL_6, ebe, f_X12_comesTo_b81]
      refine ⟨upd be (32768 * l + s0) (nI (c0 + 1)), wa, mn, rfl, ⟨upN bv s0 (c0 + 1), q, cnt, fun s hs => ?_, h2, h3, fun k hk => ?_, h5, fun s hs hn => ?_⟩, fun k hk => ⟨up_n _ _ (by omega), rfl⟩, fun k _ => rfl⟩
      · by_cases e : s = s0
        · rw [e, up_s, upN_s]; exact ⟨rfl, hc0, hadd0⟩
        · rw [up_n _ _ (by omega), upN_n _ _ e]; exact ⟨(h1 s hs).1, (h1 s hs).2.1, hadd s hs e⟩
      · obtain ⟨k1, k2, k3⟩ := h4 k hk
        refine ⟨k1, k2, ?_⟩
        by_cases e : q k = s0
        · rw [e, upN_s]; omega
        · rw [upN_n _ _ e]; exact k3
      · by_cases e : s = s0
        · rw [e] at hn ⊢
          exact h6 s0 hs0 hz
        · rw [upN_n _ _ e] at hn
          exact h6 s hs hn
/-- a tune's worth: breath, or its number as it is ordered -/
def wth (bb : Bool) (b0 b1 u t : Nat) : Nat := if bb then cst b0 b1 u t else rvs u t
def wst (bb : Bool) (b0 b1 c w : Nat) : Nat := if bb then c + (if w = 0 then b0 else b1) else 2 * c + w
theorem wth_s (bb : Bool) (b0 b1 u t : Nat) : wth bb b0 b1 u (t + 1) = wst bb b0 b1 (wth bb b0 b1 u t) (if u.testBit t then 1 else 0) := by
  unfold wth wst
  cases bb
  · rfl
  · cases h : u.testBit t <;> simp [cst, h]
theorem wst_mono {bb : Bool} {b0 b1 c c' w : Nat} (h : c ≤ c') : wst bb b0 b1 c w ≤ wst bb b0 b1 c' w := by
  unfold wst
  split <;> omega
theorem wth_lt {bb : Bool} {b0 b1 : Nat} (h0 : b0 ≤ 9) (h1 : b1 ≤ 9) (u : Nat) {t : Nat} (ht : t ≤ 20) : wth bb b0 b1 u t < 1048576 := by
  unfold wth
  split
  · have := cst_le h0 h1 u t
    have : t * 9 ≤ 20 * 9 := Nat.mul_le_mul_right _ ht
    omega
  · exact Nat.lt_of_lt_of_le (rvs_lt u t) (p2b ht)
theorem wth_agr {bb : Bool} {b0 b1 u v t : Nat} (h : ∀ i, i < t → u.testBit i = v.testBit i) : wth bb b0 b1 u t = wth bb b0 b1 v t := by
  unfold wth
  rw [cst_agr t h, rvs_agr t h]
/-- tunes of t whistles that come to s: their worths -/
def Ct (bb : Bool) (b0 b1 : Nat) (nx : Nat → Nat → Nat → Nat) (p0 t : Nat) : Nat → Nat → Prop := fun s c => ∃ u, pkr nx p0 u t = s ∧ c = wth bb b0 b1 u t
/-- of these, one more whistle, from the states q 0 .. q (k - 1), and from q k by the whistles below w -/
def Cp (bb : Bool) (b0 b1 : Nat) (nx : Nat → Nat → Nat → Nat) (p0 t : Nat) (q : Nat → Nat) (k w : Nat) : Nat → Nat → Prop := fun s c => ∃ u, pkr nx p0 u (t + 1) = s ∧ c = wth bb b0 b1 u (t + 1) ∧ ((∃ i, i < k ∧ pkr nx p0 u t = q i) ∨ (pkr nx p0 u t = q k ∧ (if u.testBit t then 1 else 0) < w))
end ML
