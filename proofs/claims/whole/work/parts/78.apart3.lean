theorem vnz1 : vp_nar .boolean 1 = 1 := rfl
theorem vnz0 : vp_nar .boolean 0 = 0 := rfl
def bI (b : Bool) : Int32 := if b then 1 else 0
theorem bI_0 (b : Bool) : (bI b = 0) = (b = false) := by cases b <;> simp [bI]
section MAP
variable {N : zMe} {m : Nat} {sc : Nat → Int32} {lg : Nat → Int64} {ar : Nat → Nat → Int32} {en : Nat → Int64} {B : Nat → Nat}
/-- the reference's memory with its table of meetings -/
def mem9 (N : zMe) (m : Nat) (sc : Nat → Int32) (lg : Nat → Int64) (ar : Nat → Nat → Int32) (en : Nat → Int64) (f : Nat → Int32) : zMe := mmk N m sc lg (updA ar 9 f) en
theorem m9_r (f : Nat → Int32) {k : Nat} (hk : k < 125) : zrZ (mem9 N m sc lg ar en f) (m + 10) (nI k) = some (f k) := by
  unfold mem9
  rw [mm_rN10 hk, updA_s]
theorem m9_w (f : Nat → Int32) {k : Nat} (hk : k < 125) (v : Int32) : zwZ (mem9 N m sc lg ar en f) (m + 10) (nI k) v = some (mem9 N m sc lg ar en (upd f k (vp_nar .boolean v))) := by
  unfold mem9
  rw [mm_wN10 hk, updA_s, updA_A]
theorem m9_18 (f : Nat → Int32) : zgN (mem9 N m sc lg ar en f) m [12] 18 = some (m + 10) := mm_gN18
theorem m9_ob (f : Nat → Int32) : zob (mem9 N m sc lg ar en f) m 12 = some () := mm_ob
theorem m9_go (hB : Bk (ar 0) B) (hW : WB B) (f : Nat → Int32) {d p w t : Nat} (hd : d < B 6) (hp : p < 8) (hw : w < 2) (ht : t < 2 ^ 31) : f_X12_go m (nI d) (nI p) (nI w) (nI t) (mem9 N m sc lg ar en f) = some (nI (gog (B 1) (dg B d) w t p), mem9 N m sc lg ar en f) := by
  unfold mem9
  exact m_goN (by rw [updA_n _ _ (by decide)]; exact hB) hW hd hp hw ht
/-- the end of one pair's step -/
theorem m_pairE (k59 : Nat → Int32 → Int32 → Int32 → zMe → Option (Int32 × zMe)) (k68 : Nat → Int32 → Int32 → Int32 → Int32 → zMe → Option (Int32 × zMe)) (k92 : Nat → Int32 → Int32 → Int32 → Int32 → Int32 → Int32 → zMe → Option (Int32 × zMe)) (x1 x2 x4 x5 x6 : Int32) {f : Nat → Int32} {k : Nat} (hk : k < 125) {t mo can : Bool} (hf : f k = bI t) : f_X12_apart_b206 k59 k68 k92 m x1 x2 (bI mo) x4 x5 x6 (nI k) (bI can) (mem9 N m sc lg ar en f) = k92 m x1 x2 (bI (mo || (can && !t))) x4 x5 (x6 + 1) (mem9 N m sc lg ar en (upd f k (bI (t || can)))) := by
  have w1 : ∀ v, zwZ (mem9 N m sc lg ar en f) (m + 10) (nI k) v = some (mem9 N m sc lg ar en (upd f k (vp_nar .boolean v))) := fun v => m9_w f hk v
  have r1 : zrZ (mem9 N m sc lg ar en f) (m + 10) (nI k) = some (bI t) := by rw [m9_r f hk, hf]
  have e232 : ∀ y : Int32, f_X12_apart_b232 k59 k68 k92 m x1 x2 x4 x5 x6 (nI k) (bI can) y (mem9 N m sc lg ar en f) = k92 m x1 x2 y x4 x5 (x6 + 1) (mem9 N m sc lg ar en (upd f k (bI (t || can)))) := by
    intro y
    rw [f_X12_apart_b232, m9_18, Option.bind_some, Option.bind_some, r1, Option.bind_some]
    simp only [bI_0]
    cases t with
    | true => rw [if_neg (by decide), f_X12_apart_b254, f_X12_apart_b259, w1, Option.bind_some, zlet, vnz1]; rfl
    | false =>
      cases can with
      | true => rw [if_pos rfl, if_neg (by decide), f_X12_apart_b254, f_X12_apart_b259, w1, Option.bind_some, zlet, vnz1]; rfl
      | false => rw [if_pos rfl, if_pos rfl, f_X12_apart_b259, w1, Option.bind_some, zlet, vnz0]; rfl
  rw [f_X12_apart_b206, f_X12_apart_b231, f_X12_apart_b227, e232, e232, m9_18, Option.bind_some, r1, Option.bind_some]
  simp only [bI_0]
  cases mo <;> cases can <;> cases t <;> simp [bI]
/-- sound, and closed at t -/
def SdR (go : Nat → Nat → Nat → Nat) (n : Nat) (tb : Nat → Bool) : Prop := ∀ t a b, t < 5 → a < n → b < n → tb (25 * t + 5 * a + b) = true → Mee go t a b
def ClR (go : Nat → Nat → Nat → Nat) (n : Nat) (tb : Nat → Bool) (t : Nat) : Prop := ∀ a b, a < n → b < n → (tb (25 * npz t + 5 * go 0 t a + go 0 t b) = true ∨ tb (25 * npz t + 5 * go 1 t a + go 1 t b) = true) → tb (25 * t + 5 * a + b) = true
/-- one phase's pairs -/
theorem m_pairs (k59 : Nat → Int32 → Int32 → Int32 → zMe → Option (Int32 × zMe)) (k68 : Nat → Int32 → Int32 → Int32 → Int32 → zMe → Option (Int32 × zMe)) (hB : Bk (ar 0) B) (hW : WB B) {d t : Nat} (hd : d < B 6) (ht : t < 5) {mo : Bool} {tb : Nat → Bool} {f : Nat → Int32} (hf : ∀ k, k < 125 → f k = bI (tb k)) (hS : SdR (gog (B 1) (dg B d)) (B 0) tb) : ∃ mo' tb' f', f_X12_apart_b92 k59 k68 zfu m (nI d) (nI (B 0)) (bI mo) (nI t) (nI (npz t)) (nI 0) (mem9 N m sc lg ar en f) = k68 m (nI d) (nI (B 0)) (bI mo') (nI t + (-1)) (mem9 N m sc lg ar en f') ∧ (∀ k, k < 125 → f' k = bI (tb' k)) ∧ SdR (gog (B 1) (dg B d)) (B 0) tb' ∧ (∀ k, k < 125 → tb k = true → tb' k = true) ∧ ((mo' = mo ∧ (∀ k, k < 125 → tb' k = tb k) ∧ ClR (gog (B 1) (dg B d)) (B 0) tb t) ∨ (mo' = true ∧ ∃ k, k < 125 ∧ tb' k ≠ tb k)) := by
  have hn5 := hW.n5
  have hn2 := hW.n2
  have hD := hW.dw d hd
  obtain ⟨go, hgo⟩ : ∃ go, go = gog (B 1) (dg B d) := ⟨_, rfl⟩
  have gl : ∀ w, w < 2 → ∀ a, a < B 0 → go w t a < B 0 := fun w hw a ha => by rw [hgo]; exact gog_lt hD hw ha
  have hnp := npz5 ht
  obtain ⟨n, hn⟩ : ∃ n, n = B 0 := ⟨_, rfl⟩
  rw [← hgo] at hS ⊢
  rw [← hn] at gl hS ⊢
  have hn5' : n ≤ 5 := by omega
  have hnn : n * n ≤ 25 := Nat.mul_le_mul (show n ≤ 5 by omega) (show n ≤ 5 by omega)
  have lp := loopC (S := Bool × (Nat → Bool) × (Nat → Int32)) (S' := Bool × (Nat → Bool) × (Nat → Int32)) (R := Option (Int32 × zMe)) (fun fuel j s => f_X12_apart_b92 k59 k68 fuel m (nI d) (nI n) (bI s.1) (nI t) (nI (npz t)) (nI j) (mem9 N m sc lg ar en s.2.2)) (fun s => k68 m (nI d) (nI n) (bI s.1) (nI t + (-1)) (mem9 N m sc lg ar en s.2.2)) (n * n)
    (fun j s => (∀ k, k < 125 → s.2.2 k = bI (s.2.1 k)) ∧ SdR go n s.2.1 ∧ (∀ k, k < 125 → tb k = true → s.2.1 k = true) ∧ (∀ k, k < 25 * t ∨ 25 * t + 25 ≤ k → s.2.1 k = tb k) ∧ ((s.1 = mo ∧ (∀ k, k < 125 → s.2.1 k = tb k)) ∨ (s.1 = true ∧ ∃ k, k < 125 ∧ s.2.1 k ≠ tb k)) ∧ (∀ a b, a < n → b < n → n * a + b < j → (tb (25 * npz t + 5 * go 0 t a + go 0 t b) = true ∨ tb (25 * npz t + 5 * go 1 t a + go 1 t b) = true) → s.2.1 (25 * t + 5 * a + b) = true))
    (fun s => (∀ k, k < 125 → s.2.2 k = bI (s.2.1 k)) ∧ SdR go n s.2.1 ∧ (∀ k, k < 125 → tb k = true → s.2.1 k = true) ∧ ((s.1 = mo ∧ (∀ k, k < 125 → s.2.1 k = tb k) ∧ ClR go n tb t) ∨ (s.1 = true ∧ ∃ k, k < 125 ∧ s.2.1 k ≠ tb k)))
    (by omega) (fun fu j s hj hI => ?_) (fun fu s hI => ?_) (mo, tb, f) ⟨hf, hS, fun _ _ h => h, fun _ _ => rfl, Or.inl ⟨rfl, fun _ _ => rfl⟩, fun a b _ _ h => by omega⟩
  · obtain ⟨⟨mo', tb', f'⟩, e, y⟩ := lp
    exact ⟨mo', tb', f', e, y⟩
  · obtain ⟨mo1, t1, f1⟩ := s
    obtain ⟨i1, i2, i3, i4, i5, i6⟩ := hI
    have i1 : ∀ k, k < 125 → f1 k = bI (t1 k) := i1
    have i4 : ∀ k, k < 25 * t ∨ 25 * t + 25 ≤ k → t1 k = tb k := i4
    obtain ⟨a, ha⟩ : ∃ a, a = j / n := ⟨_, rfl⟩
    obtain ⟨b, hb⟩ : ∃ b, b = j % n := ⟨_, rfl⟩
    have hb5 : b < n := by rw [hb]; exact Nat.mod_lt _ (by omega)
    have hdm : n * a + b = j := by rw [ha, hb]; exact Nat.div_add_mod j n
    have ha5 : a < n := by rw [ha]; exact Nat.div_lt_of_lt_mul hj
    have g0a := gl 0 (by omega) a ha5
    have g0b := gl 0 (by omega) b hb5
    have g1a := gl 1 (by omega) a ha5
    have g1b := gl 1 (by omega) b hb5
    have hk : 25 * t + 5 * a + b < 125 := by omega
    have c0 : 25 * npz t + 5 * go 0 t a + go 0 t b < 125 := by omega
    have c1 : 25 * npz t + 5 * go 1 t a + go 1 t b < 125 := by omega
    have o0 : t1 (25 * npz t + 5 * go 0 t a + go 0 t b) = tb (25 * npz t + 5 * go 0 t a + go 0 t b) := i4 _ (by omega)
    have o1 : t1 (25 * npz t + 5 * go 1 t a + go 1 t b) = tb (25 * npz t + 5 * go 1 t a + go 1 t b) := i4 _ (by omega)
    obtain ⟨can, hcan⟩ : ∃ can, can = (t1 (25 * npz t + 5 * go 0 t a + go 0 t b) || t1 (25 * npz t + 5 * go 1 t a + go 1 t b)) := ⟨_, rfl⟩
    have hsnd : can = true → Mee go t a b := fun hc => by
      rw [hcan, Bool.or_eq_true] at hc
      rcases hc with z | z
      · exact Mee.step (w := 0) (by omega) (i2 _ _ _ hnp.1 g0a g0b z)
      · exact Mee.step (w := 1) (by omega) (i2 _ _ _ hnp.1 g1a g1b z)
    refine ⟨(mo1 || (can && !t1 (25 * t + 5 * a + b)), (fun k => if k = 25 * t + 5 * a + b then t1 k || can else t1 k), upd f1 (25 * t + 5 * a + b) (bI (t1 (25 * t + 5 * a + b) || can))), ?_, fun k hk' => ?_, fun t' a' b' ht' ha' hb' hz => ?_, fun k hk' hz => ?_, fun k hk' => ?_, ?_, fun a' b' ha' hb' hlt hz => ?_⟩
    · show f_X12_apart_b92 k59 k68 (fu + 1) m (nI d) (nI n) (bI mo1) (nI t) (nI (npz t)) (nI j) (mem9 N m sc lg ar en f1) = f_X12_apart_b92 k59 k68 fu m (nI d) (nI n) (bI (mo1 || (can && !t1 (25 * t + 5 * a + b)))) (nI t) (nI (npz t)) (nI (j + 1)) (mem9 N m sc lg ar en (upd f1 (25 * t + 5 * a + b) (bI (t1 (25 * t + 5 * a + b) || can))))
      have hnz : ¬ nI n = 0 := nI_ne0 (by omega) (by omega)
      have ed : nI j / nI n = nI a := by rw [pk_div (by omega) (by omega) (by omega), ha]
      have er : nI j - nI j / nI n * nI n = nI b := by rw [pk_rem (by omega) (by omega) (by omega), hb]
      have ek : (25 : Int32) * nI t + 5 * nI a + nI b = nI (25 * t + 5 * a + b) := by rw [show (25 : Int32) * nI t = nI (25 * t) from pk_mul 25 t, show (5 : Int32) * nI a = nI (5 * a) from pk_mul 5 a, nI_add, nI_add]
      have ei : ∀ p q, (25 : Int32) * nI (npz t) + 5 * nI p + nI q = nI (25 * npz t + 5 * p + q) := fun p q => by rw [show (25 : Int32) * nI (npz t) = nI (25 * npz t) from pk_mul 25 _, show (5 : Int32) * nI p = nI (5 * p) from pk_mul 5 p, nI_add, nI_add]
      have gm : ∀ w p, w < 2 → p < 5 → f_X12_go m (nI d) (nI p) (nI w) (nI t) (mem9 N m sc lg ar en f1) = some (nI (go w t p), mem9 N m sc lg ar en f1) := fun w p hw hp => by rw [hgo]; exact m9_go hB hW f1 hd (by omega) hw (by omega)
      have gm0 : ∀ p, p < 5 → f_X12_go m (nI d) (nI p) 0 (nI t) (mem9 N m sc lg ar en f1) = some (nI (go 0 t p), mem9 N m sc lg ar en f1) := fun p hp => gm 0 p (by omega) hp
      have gm1 : ∀ p, p < 5 → f_X12_go m (nI d) (nI p) 1 (nI t) (mem9 N m sc lg ar en f1) = some (nI (go 1 t p), mem9 N m sc lg ar en f1) := fun p hp => gm 1 p (by omega) hp
      have pe := m_pairE (N := N) (m := m) (sc := sc) (lg := lg) (ar := ar) (en := en) k59 k68 (f_X12_apart_b92 k59 k68 fu) (nI d) (nI n) (nI t) (nI (npz t)) (nI j) hk (mo := mo1) (can := can) (i1 _ hk)
      rw [nI_1] at pe
      rw [f_X12_apart_b92, pk_mul, if_neg (nI_ge hj (by omega)), if_neg hnz, zlet, if_neg hnz, zlet, zlet, er, ed, ek, m9_18, Option.bind_some, m9_ob, Option.bind_some, gm0 a (by omega), Option.bind_some, m9_ob, Option.bind_some, gm0 b (by omega), Option.bind_some, ei, m9_r f1 c0, Option.bind_some, i1 _ c0]
      simp only [bI_0]
      cases e0 : t1 (25 * npz t + 5 * go 0 t a + go 0 t b) with
      | true =>
        have : can = true := by rw [hcan, e0]; rfl
        rw [if_neg (by decide), f_X12_apart_b201, ← pe, this]
        rfl
      | false =>
        rw [if_pos rfl, m9_18, Option.bind_some, m9_ob, Option.bind_some, gm1 a (by omega), Option.bind_some, m9_ob, Option.bind_some, gm1 b (by omega), Option.bind_some, ei, m9_r f1 c1, Option.bind_some, i1 _ c1]
        simp only [bI_0]
        cases e1 : t1 (25 * npz t + 5 * go 1 t a + go 1 t b) with
        | true =>
          have : can = true := by rw [hcan, e0, e1]; rfl
          rw [if_neg (by decide), f_X12_apart_b201, ← pe, this]
          rfl
        | false =>
          have : can = false := by rw [hcan, e0, e1]; rfl
          rw [if_pos rfl, ← pe, this]
          rfl
    · show upd f1 _ _ k = bI (if k = 25 * t + 5 * a + b then t1 k || can else t1 k)
      by_cases e : k = 25 * t + 5 * a + b
      · rw [e, up_s, if_pos rfl]
      · rw [up_n _ _ e, if_neg e]; exact i1 k hk'
    · have hz' : (if 25 * t' + 5 * a' + b' = 25 * t + 5 * a + b then t1 (25 * t' + 5 * a' + b') || can else t1 (25 * t' + 5 * a' + b')) = true := hz
      by_cases e : 25 * t' + 5 * a' + b' = 25 * t + 5 * a + b
      · rw [if_pos e, Bool.or_eq_true] at hz'
        rcases hz' with z | z
        · exact i2 t' a' b' ht' ha' hb' z
        · have et : t' = t := by omega
          have ea : a' = a := by omega
          have eb : b' = b := by omega
          rw [et, ea, eb]
          exact hsnd z
      · rw [if_neg e] at hz'
        exact i2 t' a' b' ht' ha' hb' hz'
    · show (if k = 25 * t + 5 * a + b then t1 k || can else t1 k) = true
      have := i3 k hk' hz
      have this : t1 k = true := this
      rw [this]
      simp
    · show (if k = 25 * t + 5 * a + b then t1 k || can else t1 k) = tb k
      rw [if_neg (by omega)]
      exact i4 k hk'
    · by_cases hch : can = true ∧ t1 (25 * t + 5 * a + b) = false
      · refine Or.inr ⟨by show (mo1 || (can && !t1 (25 * t + 5 * a + b))) = true; rw [hch.1, hch.2]; simp, 25 * t + 5 * a + b, hk, ?_⟩
        show (if 25 * t + 5 * a + b = 25 * t + 5 * a + b then t1 (25 * t + 5 * a + b) || can else t1 (25 * t + 5 * a + b)) ≠ tb (25 * t + 5 * a + b)
        rw [if_pos rfl, hch.1, hch.2]
        intro z
        have := i3 _ hk z.symm
        have this : t1 (25 * t + 5 * a + b) = true := this
        rw [hch.2] at this
        cases this
      · have esame : ∀ k, (if k = 25 * t + 5 * a + b then t1 k || can else t1 k) = t1 k := fun k => by
          by_cases e : k = 25 * t + 5 * a + b
          · rw [if_pos e]
            cases hcc : can with
            | false => rw [Bool.or_false]
            | true =>
              cases htt : t1 (25 * t + 5 * a + b) with
              | true => rw [e, htt]; rfl
              | false => exact absurd ⟨hcc, htt⟩ hch
          · rw [if_neg e]
        have emo : (mo1 || (can && !t1 (25 * t + 5 * a + b))) = mo1 := by
          cases hcc : can with
          | false => simp
          | true =>
            cases htt : t1 (25 * t + 5 * a + b) with
            | true => simp
            | false => exact absurd ⟨hcc, htt⟩ hch
        rcases i5 with ⟨q1, q2⟩ | ⟨q1, k, q2, q3⟩
        · exact Or.inl ⟨emo.trans q1, fun k hk' => (esame k).trans (q2 k hk')⟩
        · exact Or.inr ⟨emo.trans q1, k, q2, fun z => q3 ((esame k).symm.trans z)⟩
    · show (if 25 * t + 5 * a' + b' = 25 * t + 5 * a + b then t1 (25 * t + 5 * a' + b') || can else t1 (25 * t + 5 * a' + b')) = true
      by_cases e : n * a' + b' = j
      · have ea : a' = a := by rw [ha, ← e, Nat.mul_add_div (by omega), Nat.div_eq_of_lt hb', Nat.add_zero]
        have eb : b' = b := by rw [hb, ← e, Nat.mul_add_mod, Nat.mod_eq_of_lt hb']
        rw [if_pos (by rw [ea, eb]), ea, eb]
        have : can = true := by
          rw [hcan, o0, o1, Bool.or_eq_true]
          rw [ea, eb] at hz
          exact hz
        rw [this, Bool.or_true]
      · have := i6 a' b' ha' hb' (by omega) hz
        have this : t1 (25 * t + 5 * a' + b') = true := this
        rw [this]
        simp
  · obtain ⟨mo1, t1, f1⟩ := s
    obtain ⟨i1, i2, i3, i4, i5, i6⟩ := hI
    refine ⟨(mo1, t1, f1), ?_, i1, i2, i3, ?_⟩
    · show f_X12_apart_b92 k59 k68 (fu + 1) m (nI d) (nI n) (bI mo1) (nI t) (nI (npz t)) (nI (n * n)) (mem9 N m sc lg ar en f1) = _
      rw [f_X12_apart_b92, pk_mul, if_pos (nI_le (Nat.le_refl _) (by omega)), zlet]
    · rcases i5 with ⟨q1, q2⟩ | z
      · refine Or.inl ⟨q1, q2, fun a b ha hb hz => ?_⟩
        have hlt : n * a + b < n * n := by
          have : n * a + n ≤ n * n := by rw [← Nat.mul_succ]; exact Nat.mul_le_mul_left n (by omega)
          omega
        have := i6 a b ha hb hlt hz
        have q2' : ∀ k, k < 125 → t1 k = tb k := q2
        have this : t1 (25 * t + 5 * a + b) = true := this
        rw [q2' _ (by omega)] at this
        exact this
      · exact Or.inr z
end MAP
