/-! telling two places apart: the table of the fewest whistles -/
def mnz (a b : Nat) : Nat := if b < a then b else a
def mxz (a b : Nat) : Nat := if a < b then b else a
theorem mnz_le {a b c : Nat} (h : a ≤ c) : mnz a b ≤ c := by unfold mnz; split <;> omega
theorem mxz_le {a b c : Nat} (h : a ≤ c) (k : b ≤ c) : mxz a b ≤ c := by unfold mxz; split <;> omega
/-- by one whistle, where T is the table of the next time -/
def nbz (T : Nat → Nat) (f : Nat → Nat) (n bk s : Nat) : Nat := if pc5 (img f n s) < pc5 s then 99 else if mxz (T (img f n s &&& bk)) (T (img f n s &&& (31 ^^^ bk))) = 99 then 99 else mxz (T (img f n s &&& bk)) (T (img f n s &&& (31 ^^^ bk))) + 1
theorem nbz_le {T : Nat → Nat} (hT : ∀ u, T u ≤ 99) (f : Nat → Nat) (n bk s : Nat) : nbz T f n bk s ≤ 99 := by
  unfold nbz
  split
  · exact Nat.le_refl _
  · split
    · exact Nat.le_refl _
    · have := mxz_le (hT (img f n s &&& bk)) (hT (img f n s &&& (31 ^^^ bk)))
      omega
def tkz (go : Nat → Nat → Nat → Nat) (n bk : Nat) : Nat → Nat → Nat
  | 0, s => if pc5 s < 2 then 0 else 99
  | r + 1, s => if pc5 s < 2 then 0 else mnz (nbz (tkz go n bk r) (go 0 (7 - r)) n bk s) (nbz (tkz go n bk r) (go 1 (7 - r)) n bk s)
theorem tkz_le (go : Nat → Nat → Nat → Nat) (n bk : Nat) : ∀ r s, tkz go n bk r s ≤ 99
  | 0, s => by unfold tkz; split <;> omega
  | r + 1, s => by
    unfold tkz
    split
    · omega
    · exact mnz_le (nbz_le (tkz_le go n bk r) _ _ _ _)
theorem n_andnB : ((List.range 32).all fun a => (List.range 32).all fun b => decide (nI a &&& (nI b ^^^ (-1)) = nI (a &&& (31 ^^^ b)))) = true := by decide +kernel
theorem n_andn {a b : Nat} (ha : a < 32) (hb : b < 32) : nI a &&& (nI b ^^^ (-1)) = nI (a &&& (31 ^^^ b)) := by
  have h := List.all_eq_true.mp n_andnB a (List.mem_range.mpr ha)
  exact of_decide_eq_true (List.all_eq_true.mp h b (List.mem_range.mpr hb))
theorem n_and0B : ((List.range 32).all fun a => (List.range 5).all fun b => decide ((nI a &&& nI (2 ^ b) = 0) ↔ a.testBit b = false)) = true := by decide +kernel
theorem n_and0 {a b : Nat} (ha : a < 32) (hb : b < 5) : (nI a &&& nI (2 ^ b) = 0) ↔ a.testBit b = false := by
  have h := List.all_eq_true.mp n_and0B a (List.mem_range.mpr ha)
  exact of_decide_eq_true (List.all_eq_true.mp h b (List.mem_range.mpr hb))
theorem pc5_orB : ((List.range 32).all fun a => (List.range 5).all fun b => decide (pc5 (a ||| 2 ^ b) = pc5 a + if a.testBit b then 0 else 1)) = true := by decide +kernel
theorem pc5_or {a b : Nat} (ha : a < 32) (hb : b < 5) : pc5 (a ||| 2 ^ b) = pc5 a + if a.testBit b then 0 else 1 := by
  have h := List.all_eq_true.mp pc5_orB a (List.mem_range.mpr ha)
  exact of_decide_eq_true (List.all_eq_true.mp h b (List.mem_range.mpr hb))
theorem pc5_modB : ((List.range 32).all fun a => (List.range 5).all fun b => decide (pc5 (a % 2 ^ (b + 1)) = pc5 (a % 2 ^ b) + if a.testBit b then 1 else 0)) = true := by decide +kernel
theorem pc5_mod {a b : Nat} (ha : a < 32) (hb : b < 5) : pc5 (a % 2 ^ (b + 1)) = pc5 (a % 2 ^ b) + if a.testBit b then 1 else 0 := by
  have h := List.all_eq_true.mp pc5_modB a (List.mem_range.mpr ha)
  exact of_decide_eq_true (List.all_eq_true.mp h b (List.mem_range.mpr hb))
theorem img_s (f : Nat → Nat) (k s : Nat) : img f (k + 1) s = img f k s ||| (if s.testBit k then 2 ^ f k else 0) := rfl
theorem img_32 {f : Nat → Nat} {k : Nat} (hf : ∀ p, p < k → f p < 5) (s : Nat) : img f k s < 32 := by
  refine orF_ltn (b := 5) k (fun p hp => ?_)
  split
  · exact Nat.pow_lt_pow_right (by decide) (hf p hp)
  · decide
theorem img_pc {f : Nat → Nat} {s : Nat} (hs : s < 32) : ∀ k, k ≤ 5 → (∀ p, p < k → f p < 5) → pc5 (img f k s) ≤ pc5 (s % 2 ^ k)
  | 0, _, _ => by
    show pc5 (orF _ 0) ≤ _
    rw [orF]
    exact Nat.zero_le _
  | k + 1, hk, hf => by
    have ih := img_pc hs k (by omega) (fun p hp => hf p (by omega))
    rw [img_s, pc5_mod hs (by omega)]
    cases hb : s.testBit k with
    | false => simpa using ih
    | true =>
      rw [if_pos rfl, if_pos rfl, pc5_or (img_32 (fun p hp => hf p (by omega)) s) (hf k (by omega))]
      split <;> omega
theorem img_pcS {f : Nat → Nat} {s j : Nat} (hs : s < 32) (h1 : s.testBit j = true) (h2 : (img f j s).testBit (f j) = true) : ∀ k, j < k → k ≤ 5 → (∀ p, p < k → f p < 5) → pc5 (img f k s) < pc5 (s % 2 ^ k)
  | 0, h, _, _ => by omega
  | k + 1, h, hk, hf => by
    rw [img_s, pc5_mod hs (by omega)]
    have l := img_32 (f := f) (k := k) (fun p hp => hf p (by omega)) s
    by_cases e : j = k
    · subst e
      have ih := img_pc (f := f) hs j (by omega) (fun p hp => hf p (by omega))
      rw [h1, if_pos rfl, if_pos rfl, pc5_or l (hf j (by omega)), h2, if_pos rfl]
      omega
    · have ih := img_pcS hs h1 h2 k (by omega) (by omega) (fun p hp => hf p (by omega))
      cases hb : s.testBit k with
      | false => simpa using ih
      | true =>
        rw [if_pos rfl, if_pos rfl, pc5_or l (hf k (by omega))]
        split <;> omega
section MTE
variable {N : zMe} {m : Nat} {sc : Nat → Int32} {lg : Nat → Int64} {ar : Nat → Nat → Int32} {en : Nat → Int64} {B : Nat → Nat}
theorem m_takesBy (hB : Bk (ar 0) B) (hW : WB B) {d : Nat} (hd : d < B 6) {t w s : Nat} (ht : t < 8) (hw : w < 2) (hs : s < 2 ^ B 0) {T : Nat → Nat} (hT : ∀ u, u < 2 ^ B 0 → ar 10 (32 * (t + 1) + u) = nI (T u)) (hT9 : ∀ u, T u ≤ 99) : f_X12_takesBy m (nI d) (nI s) (nI w) (nI t) (mmk N m sc lg ar en) = some (nI (nbz T (gog (B 1) (dg B d) w t) (B 0) (B 3) s), mmk N m sc lg ar en) := by
  have hD := hW.dw d hd
  have hn5 := hW.n5
  have h32 := p2_32 hn5
  have hba := hW.ba
  have hf : ∀ p, p < B 0 → gog (B 1) (dg B d) w t p < B 0 := fun p hp => gog_lt hD hw hp
  obtain ⟨f, hfd⟩ : ∃ f, f = gog (B 1) (dg B d) w t := ⟨_, rfl⟩
  rw [← hfd] at hf ⊢
  have r0 : ∀ j, j < 25 → zrI (mmk N m sc lg ar en) (m + 1) (nI j) = some (nI (B j)) := fun j hj => by rw [mm_rN1 hj, hB j hj]
  have r00 := r0 0 (by omega)
  have r03 := r0 3 (by omega)
  rw [nI_0] at r00
  have r03 : zrI (mmk N m sc lg ar en) (m + 1) 3 = some (nI (B 3)) := r03
  have lp := loopX (S := Unit) (R := Option (Int32 × zMe)) (fun fuel j _ => f_X12_takesBy_b6 fuel m (nI d) (nI s) (nI w) (nI t) (nI (img f j s)) (nI j) (mmk N m sc lg ar en)) (B 0) (fun j _ => pc5 (img f j s) = pc5 (s % 2 ^ j)) (fun Q => Q = some (nI (nbz T f (B 0) (B 3) s), mmk N m sc lg ar en)) (by omega) (fun fu j _ hj hI => ?_) (fun fu _ hI => ?_) () (by
    show pc5 (orF _ 0) = _
    rw [orF, Nat.pow_zero, Nat.mod_one])
  · have e0 : img f 0 s = 0 := rfl
    rw [f_X12_takesBy]
    exact lp
  · have hl := img_32 (f := f) (k := j) (fun p hp => by have := hf p (by omega); omega) s
    have hfj := hf j hj
    have g1 : f_X12_go m (nI d) (nI j) (nI w) (nI t) (mmk N m sc lg ar en) = some (nI (f j), mmk N m sc lg ar en) := by rw [hfd]; exact m_goN hB hW hd (by omega) hw (by omega)
    have hst : f_X12_takesBy_b6 (fu + 1) m (nI d) (nI s) (nI w) (nI t) (nI (img f j s)) (nI j) (mmk N m sc lg ar en) = if s.testBit j = true then (if (img f j s).testBit (f j) = false then f_X12_takesBy_b6 fu m (nI d) (nI s) (nI w) (nI t) (nI (img f j s ||| 2 ^ f j)) (nI (j + 1)) (mmk N m sc lg ar en) else some (99, mmk N m sc lg ar en)) else f_X12_takesBy_b6 fu m (nI d) (nI s) (nI w) (nI t) (nI (img f j s)) (nI (j + 1)) (mmk N m sc lg ar en) := by
      rw [f_X12_takesBy_b6, mm_gN0, Option.bind_some, r00, Option.bind_some, if_neg (nI_ge hj (by omega)), mm_ob, Option.bind_some, g1, Option.bind_some, n_sh1 (show f j < 32 by omega), zlet, n_or, zlet, f_X12_takesBy_b59, f_X12_takesBy_b59, zlet, nI_1]
      simp only [n_bit1 (show s < 2 ^ 31 by omega) (show j < 32 by omega), n_and0 hl (show f j < 5 by omega), zlet]
    by_cases hb : s.testBit j = true
    · by_cases hc : (img f j s).testBit (f j) = false
      · refine Or.inl ⟨(), ?_, ?_⟩
        · show f_X12_takesBy_b6 (fu + 1) m (nI d) (nI s) (nI w) (nI t) (nI (img f j s)) (nI j) (mmk N m sc lg ar en) = f_X12_takesBy_b6 fu m (nI d) (nI s) (nI w) (nI t) (nI (img f (j + 1) s)) (nI (j + 1)) (mmk N m sc lg ar en)
          rw [hst, if_pos hb, if_pos hc, img_s, if_pos hb]
        · rw [img_s, if_pos hb, pc5_or hl (by omega), hc, pc5_mod (by omega) (by omega), if_pos hb, hI]
          rfl
      · refine Or.inr ?_
        show f_X12_takesBy_b6 (fu + 1) m (nI d) (nI s) (nI w) (nI t) (nI (img f j s)) (nI j) (mmk N m sc lg ar en) = _
        rw [hst, if_pos hb, if_neg hc]
        have := img_pcS (f := f) (j := j) (show s < 32 by omega) hb (by simpa using hc) (B 0) hj hn5 (fun p hp => by have := hf p hp; omega)
        rw [Nat.mod_eq_of_lt hs] at this
        unfold nbz
        rw [if_pos this]
        rfl
    · refine Or.inl ⟨(), ?_, ?_⟩
      · show f_X12_takesBy_b6 (fu + 1) m (nI d) (nI s) (nI w) (nI t) (nI (img f j s)) (nI j) (mmk N m sc lg ar en) = f_X12_takesBy_b6 fu m (nI d) (nI s) (nI w) (nI t) (nI (img f (j + 1) s)) (nI (j + 1)) (mmk N m sc lg ar en)
        rw [hst, if_neg hb, img_s, if_neg hb, Nat.or_zero]
      · rw [img_s, if_neg hb, Nat.or_zero, pc5_mod (by omega) (by omega), if_neg hb, hI]
        rfl
  · show f_X12_takesBy_b6 (fu + 1) m (nI d) (nI s) (nI w) (nI t) (nI (img f (B 0) s)) (nI (B 0)) (mmk N m sc lg ar en) = _
    rw [Nat.mod_eq_of_lt hs] at hI
    have hl := img_lt hf s
    obtain ⟨u, hu⟩ : ∃ u, u = img f (B 0) s := ⟨_, rfl⟩
    have l1 : u &&& B 3 ≤ u := Nat.and_le_left
    have l2 : u &&& (31 ^^^ B 3) ≤ u := Nat.and_le_left
    have ei : ∀ k, (32 : Int32) * (nI t + 1) + nI k = nI (32 * (t + 1) + k) := fun k => by rw [show nI t + 1 = nI (t + 1) from nI_1 t, show (32 : Int32) * nI (t + 1) = nI (32 * (t + 1)) from pk_mul 32 (t + 1), nI_add]
    have hnb : nbz T f (B 0) (B 3) s = if mxz (T (u &&& B 3)) (T (u &&& (31 ^^^ B 3))) = 99 then 99 else mxz (T (u &&& B 3)) (T (u &&& (31 ^^^ B 3))) + 1 := by
      unfold nbz
      rw [if_neg (by omega), ← hu]
    rw [hnb]
    rw [← hu] at hl ⊢
    have q1 := hT9 (u &&& B 3)
    have q2 := hT9 (u &&& (31 ^^^ B 3))
    have e129 : ∀ k, k ≤ 99 → f_X12_takesBy_b129 (nI k) (mmk N m sc lg ar en) = some (nI (if k = 99 then 99 else k + 1), mmk N m sc lg ar en) := fun k hk => by
      rw [f_X12_takesBy_b129, f_X12_takesBy_b147, f_X12_takesBy_b147, nI_1]
      have : (nI k = 99) = (k = 99) := propext (nI_eq (b := 99) (by omega) (by omega))
      simp only [this]
      split <;> rfl
    rw [f_X12_takesBy_b6, mm_gN0, Option.bind_some, r00, Option.bind_some, if_pos (nI_le (Nat.le_refl _) (by omega)), mm_gN19, Option.bind_some, Option.bind_some, r03, Option.bind_some, n_and, ei, mm_rN11 (by omega), Option.bind_some, Option.bind_some, Option.bind_some, r03, Option.bind_some, n_andn (by omega) (by omega), ei, mm_rN11 (by omega), Option.bind_some, hT _ (by omega), hT _ (by omega)]
    unfold mxz
    by_cases hz : T (u &&& B 3) < T (u &&& (31 ^^^ B 3))
    · rw [if_pos (nI_le (by omega) (by omega)), if_pos hz, e129 _ q2]
    · rw [if_neg hz]
      by_cases hy : T (u &&& B 3) = T (u &&& (31 ^^^ B 3))
      · rw [if_pos (nI_le (by omega) (by omega)), ← hy, e129 _ q1]
      · rw [if_neg (nI_ge (by omega) (by omega)), e129 _ q1]
theorem nbz_pos (T : Nat → Nat) (f : Nat → Nat) (n bk s : Nat) : 1 ≤ nbz T f n bk s := by
  unfold nbz
  split
  · omega
  · split <;> omega
theorem tkz_8 (go : Nat → Nat → Nat → Nat) (n bk : Nat) {t s : Nat} (ht : t < 8) (h : ¬ pc5 s < 2) : tkz go n bk (8 - t) s = mnz (nbz (tkz go n bk (8 - (t + 1))) (go 0 t) n bk s) (nbz (tkz go n bk (8 - (t + 1))) (go 1 t) n bk s) := by
  obtain ⟨r, hr⟩ : ∃ r, 8 - t = r + 1 := ⟨7 - t, by omega⟩
  have e1 : 8 - (t + 1) = r := by omega
  have e2 : 7 - r = t := by omega
  rw [hr, e1, tkz, if_neg h, e2]
theorem tkz_s (go : Nat → Nat → Nat → Nat) (n bk r : Nat) {s : Nat} (h : pc5 s < 2) : tkz go n bk r s = 0 := by
  cases r <;> (rw [tkz, if_pos h])
def mem10 (N : zMe) (m : Nat) (sc : Nat → Int32) (lg : Nat → Int64) (ar : Nat → Nat → Int32) (en : Nat → Int64) (g : Nat → Int32) : zMe := mmk N m sc lg (updA ar 10 g) en
theorem m10_w (g : Nat → Int32) {k : Nat} (hk : k < 288) (v : Int32) : zwI (mem10 N m sc lg ar en g) (m + 11) (nI k) v = some (mem10 N m sc lg ar en (upd g k v)) := by
  unfold mem10
  rw [mm_wN11 hk, updA_s, updA_A]
theorem m10_r (g : Nat → Int32) {k : Nat} (hk : k < 288) : zrI (mem10 N m sc lg ar en g) (m + 11) (nI k) = some (g k) := by
  unfold mem10
  rw [mm_rN11 hk, updA_s]
theorem m10_19 (g : Nat → Int32) : zgN (mem10 N m sc lg ar en g) m [12] 19 = some (m + 11) := mm_gN19
theorem m10_0 (g : Nat → Int32) : zgN (mem10 N m sc lg ar en g) m [12] 0 = some (m + 1) := mm_gN0
theorem m10_ob (g : Nat → Int32) : zob (mem10 N m sc lg ar en g) m 12 = some () := mm_ob
theorem m10_b (hB : Bk (ar 0) B) (g : Nat → Int32) {k : Nat} (hk : k < 25) : zrI (mem10 N m sc lg ar en g) (m + 1) (nI k) = some (nI (B k)) := by
  unfold mem10
  rw [mm_rN1 hk, updA_n _ _ (by decide), hB k hk]
theorem m10_tk (hB : Bk (ar 0) B) (hW : WB B) {d : Nat} (hd : d < B 6) {t w s : Nat} (ht : t < 8) (hw : w < 2) (hs : s < 2 ^ B 0) {T : Nat → Nat} {g : Nat → Int32} (hT : ∀ u, u < 2 ^ B 0 → g (32 * (t + 1) + u) = nI (T u)) (hT9 : ∀ u, T u ≤ 99) : f_X12_takesBy m (nI d) (nI s) (nI w) (nI t) (mem10 N m sc lg ar en g) = some (nI (nbz T (gog (B 1) (dg B d) w t) (B 0) (B 3) s), mem10 N m sc lg ar en g) := by
  unfold mem10
  exact m_takesBy (by rw [updA_n _ _ (by decide)]; exact hB) hW hd ht hw hs (by rw [updA_s]; exact hT) hT9
/-- one set -/
theorem m_at1 (k3 : Nat → Int32 → Int32 → zMe → Option zMe) (k9 : Nat → Int32 → Int32 → Int32 → zMe → Option zMe) (hB : Bk (ar 0) B) (hW : WB B) {d : Nat} (hd : d < B 6) {t s : Nat} (ht : t ≤ 8) (hs : s < 2 ^ B 0) {g : Nat → Int32} (hT : t < 8 → ∀ u, u < 2 ^ B 0 → g (32 * (t + 1) + u) = nI (tkz (gog (B 1) (dg B d)) (B 0) (B 3) (8 - (t + 1)) u)) : f_X12_allTakes_b35 k3 k9 m (nI d) (nI t) (nI s) (nI (if pc5 s < 2 then 0 else 99)) (mem10 N m sc lg ar en g) = k9 m (nI d) (nI t) (nI (s + 1)) (mem10 N m sc lg ar en (upd g (32 * t + s) (nI (tkz (gog (B 1) (dg B d)) (B 0) (B 3) (8 - t) s)))) := by
  have hn5 := hW.n5
  have h32 := p2_32 hn5
  have e90 : ∀ v, f_X12_allTakes_b90 k3 k9 m (nI d) (nI t) (nI s) v (mem10 N m sc lg ar en g) = k9 m (nI d) (nI t) (nI (s + 1)) (mem10 N m sc lg ar en (upd g (32 * t + s) v)) := fun v => by
    have ei : (32 : Int32) * nI t + nI s = nI (32 * t + s) := by rw [show (32 : Int32) * nI t = nI (32 * t) from pk_mul 32 t, nI_add]
    rw [f_X12_allTakes_b90, m10_19, Option.bind_some, ei, m10_w g (by omega), Option.bind_some, zlet, nI_1]
  rw [f_X12_allTakes_b35]
  by_cases hp : pc5 s < 2
  · rw [if_pos hp, tkz_s _ _ _ _ hp]
    refine loopX (S := Unit) (R := Option zMe) (fun fuel j _ => f_X12_allTakes_b40 k3 k9 fuel m (nI d) (nI t) (nI s) (nI 0) (nI j) (mem10 N m sc lg ar en g)) 2 (fun j _ => j = 0) (fun Q => Q = k9 m (nI d) (nI t) (nI (s + 1)) (mem10 N m sc lg ar en (upd g (32 * t + s) (nI 0)))) (by omega) (fun fu j _ hj hI => Or.inr ?_) (fun fu _ hI => by omega) () rfl
    subst hI
    show f_X12_allTakes_b40 k3 k9 (fu + 1) m (nI d) (nI t) (nI s) (nI 0) (nI 0) (mem10 N m sc lg ar en g) = _
    rw [f_X12_allTakes_b40, if_neg (show ¬ (2 : Int32) ≤ nI 0 by decide), if_pos (show nI 0 ≤ 0 by decide), e90]
  · rw [if_neg hp]
    obtain ⟨T, hTd⟩ : ∃ T, T = tkz (gog (B 1) (dg B d)) (B 0) (B 3) (8 - (t + 1)) := ⟨_, rfl⟩
    have hT9 : ∀ u, T u ≤ 99 := fun u => by rw [hTd]; exact tkz_le _ _ _ _ _
    rw [← hTd] at hT
    obtain ⟨nb, hnb⟩ : ∃ nb : Nat → Nat, nb = fun w => nbz T (gog (B 1) (dg B d) w t) (B 0) (B 3) s := ⟨_, rfl⟩
    have nb9 : ∀ w, nb w ≤ 99 := fun w => by rw [hnb]; exact nbz_le hT9 _ _ _ _
    have nb1 : ∀ w, 1 ≤ nb w := fun w => by rw [hnb]; exact nbz_pos _ _ _ _ _
    refine loopX (S := Nat) (R := Option zMe) (fun fuel j b => f_X12_allTakes_b40 k3 k9 fuel m (nI d) (nI t) (nI s) (nI b) (nI j) (mem10 N m sc lg ar en g)) 2 (fun j b => 1 ≤ b ∧ b ≤ 99 ∧ (j = 0 → b = 99) ∧ (1 ≤ j → t < 8) ∧ (j = 1 → b = nb 0) ∧ (j = 2 → b = mnz (nb 0) (nb 1))) (fun Q => Q = k9 m (nI d) (nI t) (nI (s + 1)) (mem10 N m sc lg ar en (upd g (32 * t + s) (nI (tkz (gog (B 1) (dg B d)) (B 0) (B 3) (8 - t) s))))) (by omega) (fun fu j b hj hI => ?_) (fun fu b hI => ?_) 99 ⟨by omega, by omega, fun _ => rfl, fun h => by omega, fun h => by omega, fun h => by omega⟩
    · obtain ⟨i1, i2, i3, i4, i5, i6⟩ := hI
      by_cases h8 : t < 8
      · refine Or.inl ⟨mnz b (nb j), ?_, ?_⟩
        · show f_X12_allTakes_b40 k3 k9 (fu + 1) m (nI d) (nI t) (nI s) (nI b) (nI j) (mem10 N m sc lg ar en g) = f_X12_allTakes_b40 k3 k9 fu m (nI d) (nI t) (nI s) (nI (mnz b (nb j))) (nI (j + 1)) (mem10 N m sc lg ar en g)
          have q := nb9 j
          have tk : f_X12_takesBy m (nI d) (nI s) (nI j) (nI t) (mem10 N m sc lg ar en g) = some (nI (nb j), mem10 N m sc lg ar en g) := by rw [hnb]; exact m10_tk hB hW hd h8 hj hs (hT h8) hT9
          rw [f_X12_allTakes_b40, if_neg (show ¬ (2 : Int32) ≤ nI j from nI_ge (b := 2) hj (by omega)), if_neg (show ¬ nI b ≤ 0 from nI_ge (a := 0) (by omega) (by omega)), if_neg (show ¬ (8 : Int32) ≤ nI t from nI_ge (b := 8) h8 (by omega)), m10_ob, Option.bind_some, tk, Option.bind_some, f_X12_allTakes_b82, f_X12_allTakes_b82, zlet, zlet, nI_1]
          by_cases hz : nb j < b
          · rw [if_neg (nI_ge hz (by omega)), mnz, if_pos hz]
          · rw [if_pos (nI_le (by omega) (by omega)), mnz, if_neg hz]
        · refine ⟨?_, ?_, fun h => by omega, fun _ => h8, fun h => ?_, fun h => ?_⟩
          · have := nb1 j
            unfold mnz; split <;> omega
          · exact mnz_le i2
          · have e : j = 0 := by omega
            have := i3 e
            have q := nb9 0
            rw [this, e]
            unfold mnz
            split <;> omega
          · have e : j = 1 := by omega
            rw [i5 e, e]
      · refine Or.inr ?_
        have e : j = 0 := by
          apply Classical.byContradiction
          intro z
          exact h8 (i4 (by omega))
        have e8 : t = 8 := by omega
        show f_X12_allTakes_b40 k3 k9 (fu + 1) m (nI d) (nI t) (nI s) (nI b) (nI j) (mem10 N m sc lg ar en g) = _
        rw [f_X12_allTakes_b40, if_neg (show ¬ (2 : Int32) ≤ nI j from nI_ge (b := 2) hj (by omega)), if_neg (show ¬ nI b ≤ 0 from nI_ge (a := 0) (by omega) (by omega)), if_pos (show (8 : Int32) ≤ nI t from nI_le (a := 8) (by omega) (by omega)), e90, i3 e, e8, show 8 - 8 = 0 from rfl, tkz, if_neg hp]
    · obtain ⟨i1, i2, i3, i4, i5, i6⟩ := hI
      have h8 := i4 (by omega)
      show f_X12_allTakes_b40 k3 k9 (fu + 1) m (nI d) (nI t) (nI s) (nI b) (nI 2) (mem10 N m sc lg ar en g) = _
      rw [f_X12_allTakes_b40, if_pos (show (2 : Int32) ≤ nI 2 by decide), e90, i6 rfl, tkz_8 _ _ _ h8 hp, hnb, hTd]
/-- the table of the times from t on -/
def TkT (go : Nat → Nat → Nat → Nat) (n bk : Nat) (t : Nat) (g : Nat → Int32) : Prop := ∀ t', t ≤ t' → t' ≤ 8 → ∀ u, u < 2 ^ n → g (32 * t' + u) = nI (tkz go n bk (8 - t') u)
theorem TkT.up {go : Nat → Nat → Nat → Nat} {n bk t s : Nat} {g : Nat → Int32} (hn : 2 ^ n ≤ 32) (hs : s < 2 ^ n) (h : TkT go n bk (t + 1) g) (v : Int32) : TkT go n bk (t + 1) (upd g (32 * t + s) v) := fun t' h1 h2 u hu => by
  rw [up_n _ _ (by omega)]
  exact h t' h1 h2 u hu
theorem m_at2 (k3 : Nat → Int32 → Int32 → zMe → Option zMe) (hB : Bk (ar 0) B) (hW : WB B) {d : Nat} (hd : d < B 6) {t : Nat} (ht : t ≤ 8) {g : Nat → Int32} (hT : TkT (gog (B 1) (dg B d)) (B 0) (B 3) (t + 1) g) : ∃ g', f_X12_allTakes_b9 k3 zfu m (nI d) (nI t) (nI 0) (mem10 N m sc lg ar en g) = k3 m (nI d) (nI t + (-1)) (mem10 N m sc lg ar en g') ∧ TkT (gog (B 1) (dg B d)) (B 0) (B 3) t g' := by
  have hn5 := hW.n5
  have h32 := p2_32 hn5
  have r00 : ∀ g', zrI (mem10 N m sc lg ar en g') (m + 1) 0 = some (nI (B 0)) := fun g' => m10_b hB g' (k := 0) (by omega)
  refine loopC (S := Nat → Int32) (S' := Nat → Int32) (R := Option zMe) (fun fuel j g => f_X12_allTakes_b9 k3 fuel m (nI d) (nI t) (nI j) (mem10 N m sc lg ar en g)) (fun g' => k3 m (nI d) (nI t + (-1)) (mem10 N m sc lg ar en g')) (2 ^ B 0) (fun j g => TkT (gog (B 1) (dg B d)) (B 0) (B 3) (t + 1) g ∧ ∀ u, u < j → g (32 * t + u) = nI (tkz (gog (B 1) (dg B d)) (B 0) (B 3) (8 - t) u)) (fun g' => TkT (gog (B 1) (dg B d)) (B 0) (B 3) t g') (by omega) (fun fu j g hj hI => ?_) (fun fu g hI => ?_) g ⟨hT, fun u hu => by omega⟩
  · refine ⟨upd g (32 * t + j) (nI (tkz (gog (B 1) (dg B d)) (B 0) (B 3) (8 - t) j)), ?_, hI.1.up h32 hj _, fun u hu => ?_⟩
    · show f_X12_allTakes_b9 k3 (fu + 1) m (nI d) (nI t) (nI j) (mem10 N m sc lg ar en g) = f_X12_allTakes_b9 k3 fu m (nI d) (nI t) (nI (j + 1)) (mem10 N m sc lg ar en (upd g (32 * t + j) (nI (tkz (gog (B 1) (dg B d)) (B 0) (B 3) (8 - t) j))))
      have a1 := m_at1 (N := N) (m := m) (sc := sc) (lg := lg) (en := en) k3 (f_X12_allTakes_b9 k3 fu) hB hW hd ht hj (g := g) (fun h8 u hu => hI.1 (t + 1) (Nat.le_refl _) (by omega) u hu)
      have h5 : pc5 j < 2 ^ 31 := by unfold pc5; omega
      rw [f_X12_allTakes_b9, m10_0, Option.bind_some, r00, Option.bind_some, n_sh1 (show B 0 < 32 by omega), if_neg (nI_ge hj (by omega)), m_bits, Option.bind_some, mbits_5 j (by omega)]
      by_cases hp : pc5 j < 2
      · rw [if_pos hp] at a1
        rw [if_neg (show ¬ (2 : Int32) ≤ nI (pc5 j) from nI_ge (b := 2) hp (by omega))]
        exact a1
      · rw [if_neg hp] at a1
        rw [if_pos (show (2 : Int32) ≤ nI (pc5 j) from nI_le (a := 2) (by omega) h5)]
        exact a1
    · by_cases e : u = j
      · rw [e, up_s]
      · rw [up_n _ _ (by omega)]
        exact hI.2 u (by omega)
  · refine ⟨g, ?_, fun t' h1 h2 u hu => ?_⟩
    · show f_X12_allTakes_b9 k3 (fu + 1) m (nI d) (nI t) (nI (2 ^ B 0)) (mem10 N m sc lg ar en g) = _
      rw [f_X12_allTakes_b9, m10_0, Option.bind_some, r00, Option.bind_some, n_sh1 (show B 0 < 32 by omega), if_pos (nI_le (Nat.le_refl _) (by omega)), zlet]
    · by_cases e : t' = t
      · rw [e]; exact hI.2 u hu
      · exact hI.1 t' (by omega) h2 u hu
theorem m_allTakes (hB : Bk (ar 0) B) (hW : WB B) {d : Nat} (hd : d < B 6) : ∃ g, f_X12_allTakes m (nI d) (mmk N m sc lg ar en) = some (mem10 N m sc lg ar en g) ∧ TkT (gog (B 1) (dg B d)) (B 0) (B 3) 0 g := by
  have hm : mem10 N m sc lg ar en (ar 10) = mmk N m sc lg ar en := by unfold mem10; rw [updA_id]
  rw [f_X12_allTakes, ← hm, show (8 : Int32) = nI (9 - 0) + (-1) from by decide]
  refine loopC (S := Nat → Int32) (S' := Nat → Int32) (R := Option zMe) (fun fuel j g => f_X12_allTakes_b3 fuel m (nI d) (nI (9 - j) + (-1)) (mem10 N m sc lg ar en g)) (fun g' => some (mem10 N m sc lg ar en g')) 9 (fun j g => TkT (gog (B 1) (dg B d)) (B 0) (B 3) (9 - j) g) (fun g' => TkT (gog (B 1) (dg B d)) (B 0) (B 3) 0 g') (by omega) (fun fu j g hj hI => ?_) (fun fu g hI => ?_) (ar 10) (fun t' h1 h2 => by omega)
  · obtain ⟨t, ht⟩ : ∃ t, t = 8 - j := ⟨_, rfl⟩
    have e1 : nI (9 - j) + (-1) = nI t := by rw [show 9 - j = t + 1 by omega, pk_m1]
    have e2 : 9 - j = t + 1 := by omega
    have e3 : 9 - (j + 1) = t := by omega
    have hI : TkT (gog (B 1) (dg B d)) (B 0) (B 3) (9 - j) g := hI
    rw [e2] at hI
    obtain ⟨g', g1, g2⟩ := m_at2 (N := N) (m := m) (sc := sc) (lg := lg) (en := en) (f_X12_allTakes_b3 fu) hB hW hd (t := t) (by omega) hI
    refine ⟨g', ?_, by rw [e3]; exact g2⟩
    show f_X12_allTakes_b3 (fu + 1) m (nI d) (nI (9 - j) + (-1)) (mem10 N m sc lg ar en g) = f_X12_allTakes_b3 fu m (nI d) (nI (9 - (j + 1)) + (-1)) (mem10 N m sc lg ar en g')
    rw [e1, e3, f_X12_allTakes_b3, if_neg (nI_pos (by omega))]
    exact g1
  · refine ⟨g, ?_, hI⟩
    show f_X12_allTakes_b3 (fu + 1) m (nI d) (nI (9 - 9) + (-1)) (mem10 N m sc lg ar en g) = _
    rw [f_X12_allTakes_b3, if_pos (show nI (9 - 9) + (-1) < 0 by decide)]
end MTE
