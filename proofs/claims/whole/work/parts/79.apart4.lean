section MAP2
variable {N : zMe} {m : Nat} {sc : Nat → Int32} {lg : Nat → Int64} {ar : Nat → Nat → Int32} {en : Nat → Int64} {B : Nat → Nat}
/-- a round -/
theorem m_round (k59 : Nat → Int32 → Int32 → Int32 → zMe → Option (Int32 × zMe)) (hB : Bk (ar 0) B) (hW : WB B) {d : Nat} (hd : d < B 6) {tb : Nat → Bool} {f : Nat → Int32} (hf : ∀ k, k < 125 → f k = bI (tb k)) (hS : SdR (gog (B 1) (dg B d)) (B 0) tb) : ∃ mo' tb' f', f_X12_apart_b68 k59 zfu m (nI d) (nI (B 0)) 0 (nI (5 - 0) + (-1)) (mem9 N m sc lg ar en f) = k59 m (nI d) (nI (B 0)) (bI mo') (mem9 N m sc lg ar en f') ∧ (∀ k, k < 125 → f' k = bI (tb' k)) ∧ SdR (gog (B 1) (dg B d)) (B 0) tb' ∧ (∀ k, k < 125 → tb k = true → tb' k = true) ∧ ((mo' = false ∧ (∀ k, k < 125 → tb' k = tb k) ∧ ∀ t, t < 5 → ClR (gog (B 1) (dg B d)) (B 0) tb t) ∨ (mo' = true ∧ ∃ k, k < 125 ∧ tb' k ≠ tb k)) := by
  have hD := hW.dw d hd
  have hn5 := hW.n5
  have lp := loopC (S := Bool × (Nat → Bool) × (Nat → Int32)) (S' := Bool × (Nat → Bool) × (Nat → Int32)) (R := Option (Int32 × zMe)) (fun fuel j s => f_X12_apart_b68 k59 fuel m (nI d) (nI (B 0)) (bI s.1) (nI (5 - j) + (-1)) (mem9 N m sc lg ar en s.2.2)) (fun s => k59 m (nI d) (nI (B 0)) (bI s.1) (mem9 N m sc lg ar en s.2.2)) 5
    (fun j s => (∀ k, k < 125 → s.2.2 k = bI (s.2.1 k)) ∧ SdR (gog (B 1) (dg B d)) (B 0) s.2.1 ∧ (∀ k, k < 125 → tb k = true → s.2.1 k = true) ∧ ((s.1 = false ∧ (∀ k, k < 125 → s.2.1 k = tb k) ∧ ∀ t, t < 5 → 5 - j ≤ t → ClR (gog (B 1) (dg B d)) (B 0) tb t) ∨ (s.1 = true ∧ ∃ k, k < 125 ∧ s.2.1 k ≠ tb k)))
    (fun s => (∀ k, k < 125 → s.2.2 k = bI (s.2.1 k)) ∧ SdR (gog (B 1) (dg B d)) (B 0) s.2.1 ∧ (∀ k, k < 125 → tb k = true → s.2.1 k = true) ∧ ((s.1 = false ∧ (∀ k, k < 125 → s.2.1 k = tb k) ∧ ∀ t, t < 5 → ClR (gog (B 1) (dg B d)) (B 0) tb t) ∨ (s.1 = true ∧ ∃ k, k < 125 ∧ s.2.1 k ≠ tb k)))
    (by omega) (fun fu j s hj hI => ?_) (fun fu s hI => ?_) (false, tb, f) ⟨hf, hS, fun _ _ h => h, Or.inl ⟨rfl, fun _ _ => rfl, fun t h1 h2 => by omega⟩⟩
  · obtain ⟨⟨mo', tb', f'⟩, e, y⟩ := lp
    exact ⟨mo', tb', f', e, y⟩
  · obtain ⟨mo1, t1, f1⟩ := s
    obtain ⟨i1, i2, i3, i4⟩ := hI
    have i1 : ∀ k, k < 125 → f1 k = bI (t1 k) := i1
    have i2 : SdR (gog (B 1) (dg B d)) (B 0) t1 := i2
    obtain ⟨t, ht⟩ : ∃ t, t = 4 - j := ⟨_, rfl⟩
    have ht5 : t < 5 := by omega
    have e2 : nI (5 - j) + (-1) = nI t := by rw [show 5 - j = t + 1 by omega, pk_m1]
    have e3 : nI t + (-1) = nI (5 - (j + 1)) + (-1) := by congr 2; omega
    have hnp := npz5 ht5
    obtain ⟨mo2, t2, f2, g1, g2, g3, g4, g5⟩ := m_pairs (N := N) (m := m) (sc := sc) (lg := lg) (ar := ar) (en := en) k59 (f_X12_apart_b68 k59 fu) hB hW hd ht5 (mo := mo1) i1 i2
    refine ⟨(mo2, t2, f2), ?_, g2, g3, fun k hk hz => g4 k hk (i3 k hk hz), ?_⟩
    · show f_X12_apart_b68 k59 (fu + 1) m (nI d) (nI (B 0)) (bI mo1) (nI (5 - j) + (-1)) (mem9 N m sc lg ar en f1) = f_X12_apart_b68 k59 fu m (nI d) (nI (B 0)) (bI mo2) (nI (5 - (j + 1)) + (-1)) (mem9 N m sc lg ar en f2)
      rw [nI_0, e3] at g1
      rw [e2, f_X12_apart_b68, if_neg (nI_pos (by omega))]
      simp only [n_eq4 (show t < 2 ^ 31 by omega)]
      by_cases e4 : t = 4
      · rw [if_pos e4, f_X12_apart_b87]
        have : npz t = 3 := by rw [e4]; rfl
        rw [this] at g1
        exact g1
      · rw [if_neg e4, f_X12_apart_b87, nI_1]
        have : npz t = t + 1 := by unfold npz; rw [if_neg e4]
        rw [this] at g1
        exact g1
    · rcases i4 with ⟨a1, a2, a3⟩ | ⟨a1, k, a2, a3⟩
      · have a1' : mo1 = false := a1
        have a2' : ∀ k, k < 125 → t1 k = tb k := a2
        rcases g5 with ⟨b1, b2, b3⟩ | ⟨b1, k, b2, b3⟩
        · refine Or.inl ⟨b1.trans a1', fun k hk => (b2 k hk).trans (a2' k hk), fun t' h1 h2 => ?_⟩
          by_cases e : t' = t
          · subst e
            intro p q hp hq hz
            have l0 := gog_lt (sh := B 1) (t := t') hD (w := 0) (by omega) hp
            have l1 := gog_lt (sh := B 1) (t := t') hD (w := 0) (by omega) hq
            have l2 := gog_lt (sh := B 1) (t := t') hD (w := 1) (by omega) hp
            have l3 := gog_lt (sh := B 1) (t := t') hD (w := 1) (by omega) hq
            have := b3 p q hp hq (by rw [a2' _ (by omega), a2' _ (by omega)]; exact hz)
            rw [a2' (25 * t' + 5 * p + q) (by omega)] at this
            exact this
          · exact a3 t' h1 (by omega)
        · exact Or.inr ⟨b1, k, b2, fun z => b3 (z.trans (a2' k b2).symm)⟩
      · have a3' : t1 k ≠ tb k := a3
        refine Or.inr ⟨?_, k, a2, fun z => ?_⟩
        · rcases g5 with ⟨b1, _⟩ | ⟨b1, _⟩
          · exact b1.trans a1
          · exact b1
        · have z' : t2 k = tb k := z
          have h1 : tb k = false := by
            cases hh : tb k with
            | false => rfl
            | true =>
              have := i3 k a2 hh
              have this : t1 k = true := this
              rw [this, hh] at a3'
              exact absurd rfl a3'
          have h2 : t1 k = true := by
            cases hh : t1 k with
            | true => rfl
            | false => rw [hh, h1] at a3'; exact absurd rfl a3'
          have := g4 k a2 h2
          rw [z', h1] at this
          cases this
  · obtain ⟨mo1, t1, f1⟩ := s
    obtain ⟨i1, i2, i3, i4⟩ := hI
    refine ⟨(mo1, t1, f1), ?_, i1, i2, i3, ?_⟩
    · show f_X12_apart_b68 k59 (fu + 1) m (nI d) (nI (B 0)) (bI mo1) (nI (5 - 5) + (-1)) (mem9 N m sc lg ar en f1) = _
      rw [f_X12_apart_b68, if_pos (show nI (5 - 5) + (-1) < 0 by decide)]
    · rcases i4 with ⟨a1, a2, a3⟩ | z
      · exact Or.inl ⟨a1, a2, fun t h => a3 t h (by omega)⟩
      · exact Or.inr z
/-- the first pair of which S holds -/
def ChA (n : Nat) (S : Nat → Nat → Prop) (r : Int32) : Prop := (r = -1 ∧ ∀ a b, a < b → b < n → ¬ S a b) ∨ ∃ a b, a < b ∧ b < n ∧ r = nI (10 * a + b) ∧ S a b ∧ (∀ a' b', a' < a → a' < b' → b' < n → ¬ S a' b') ∧ (∀ b', a < b' → b' < b → ¬ S a b')
theorem ChA.uniq {n : Nat} {S : Nat → Nat → Prop} {r r' : Int32} (h : ChA n S r) (k : ChA n S r') : r = r' := by
  rcases h with ⟨h1, h2⟩ | ⟨s, q, h1, h2, h3, h4, h5, h6⟩
  · rcases k with ⟨k1, k2⟩ | ⟨s', q', k1, k2, k3, k4, k5, k6⟩
    · rw [h1, k1]
    · exact absurd k4 (h2 s' q' k1 k2)
  · rcases k with ⟨k1, k2⟩ | ⟨s', q', k1, k2, k3, k4, k5, k6⟩
    · exact absurd h4 (k2 s q h1 h2)
    · have es : s = s' := by
        rcases Nat.lt_trichotomy s s' with z | z | z
        · exact absurd h4 (k5 s q z h1 h2)
        · exact z
        · exact absurd k4 (h5 s' q' z k1 k2)
      subst es
      have eq : q = q' := by
        rcases Nat.lt_trichotomy q q' with z | z | z
        · exact absurd h4 (k6 q h1 z)
        · exact z
        · exact absurd k4 (h6 q' k1 z)
      rw [h3, k3, eq]
/-- two loops that look for the first pair -/
theorem pairLoop {R : Type} (O : Nat → Nat → Option (Int32 × R)) (I : Nat → Nat → Nat → Nat → Option (Int32 × R)) (n : Nat) (hn : n ≤ 5) (S : Nat → Nat → Prop) (r : R) (ho : ∀ f a, a < n → O (f + 1) a = I f zfu a (a + 1)) (hoe : ∀ f, O (f + 1) n = some (-1, r)) (hi : ∀ k f a b, a < b → b < n → (S a b → I k (f + 1) a b = some (nI (10 * a + b), r)) ∧ (¬ S a b → I k (f + 1) a b = I k f a (b + 1))) (hie : ∀ k f a, a < n → I k (f + 1) a n = O k (a + 1)) : ∃ v, O zfu 0 = some (v, r) ∧ ChA n S v := by
  have inner : ∀ k a, a < n → (∃ b, a < b ∧ b < n ∧ S a b ∧ (∀ b', a < b' → b' < b → ¬ S a b') ∧ I k zfu a (a + 1) = some (nI (10 * a + b), r)) ∨ ((∀ b, a < b → b < n → ¬ S a b) ∧ I k zfu a (a + 1) = O k (a + 1)) := by
    intro k a ha
    exact loopX (S := Unit) (R := Option (Int32 × R)) (fun fuel j _ => I k fuel a (a + 1 + j)) (n - (a + 1)) (fun j _ => ∀ b, a < b → b < a + 1 + j → ¬ S a b) (fun Q => (∃ b, a < b ∧ b < n ∧ S a b ∧ (∀ b', a < b' → b' < b → ¬ S a b') ∧ Q = some (nI (10 * a + b), r)) ∨ ((∀ b, a < b → b < n → ¬ S a b) ∧ Q = O k (a + 1))) (by omega) (fun fu j _ hj hI => by
      obtain ⟨h1, h2⟩ := hi k fu a (a + 1 + j) (by omega) (by omega)
      by_cases hs : S a (a + 1 + j)
      · exact Or.inr (Or.inl ⟨a + 1 + j, by omega, by omega, hs, fun b' x1 x2 => hI b' x1 x2, h1 hs⟩)
      · refine Or.inl ⟨(), h2 hs, fun b x1 x2 => ?_⟩
        by_cases e : b = a + 1 + j
        · rw [e]; exact hs
        · exact hI b x1 (by omega)) (fun fu _ hI => Or.inr ⟨fun b x1 x2 => hI b x1 (by omega), by
      show I k (fu + 1) a (a + 1 + (n - (a + 1))) = O k (a + 1)
      rw [show a + 1 + (n - (a + 1)) = n by omega]
      exact hie k fu a ha⟩) () (fun b x1 x2 => by omega)
  refine loopX (S := Unit) (R := Option (Int32 × R)) (fun fuel j _ => O fuel j) n (fun j _ => ∀ a b, a < j → a < b → b < n → ¬ S a b) (fun Q => ∃ v, Q = some (v, r) ∧ ChA n S v) (by omega) (fun fu j _ hj hI => ?_) (fun fu _ hI => ?_) () (fun a b x1 => by omega)
  · show (∃ s' : Unit, O (fu + 1) j = O fu (j + 1) ∧ _) ∨ ∃ v, O (fu + 1) j = some (v, r) ∧ _
    rw [ho fu j hj]
    rcases inner fu j hj with ⟨b, b1, b2, b3, b4, b5⟩ | ⟨b1, b2⟩
    · exact Or.inr ⟨_, b5, Or.inr ⟨j, b, b1, b2, rfl, b3, fun a' b' x1 x2 x3 => hI a' b' x1 x2 x3, b4⟩⟩
    · refine Or.inl ⟨(), b2, fun a b x1 x2 x3 => ?_⟩
      by_cases e : a = j
      · rw [e] at x2 ⊢; exact b1 b x2 x3
      · exact hI a b (by omega) x2 x3
  · exact ⟨-1, hoe fu, Or.inl ⟨rfl, fun a b x1 x2 => hI a b (by omega) x1 x2⟩⟩
theorem m_apart (hB : Bk (ar 0) B) (hW : WB B) {d : Nat} (hd : d < B 6) : ∃ v f', f_X12_apart m (nI d) (mmk N m sc lg ar en) = some (v, mem9 N m sc lg ar en f') ∧ ChA (B 0) (fun a b => ¬ Mee (gog (B 1) (dg B d)) 0 a b) v := by
  have hn5 := hW.n5
  have hn2 := hW.n2
  have hnd := hW.nd
  have hD := hW.dw d hd
  have e0 : ar 0 0 = nI (B 0) := hB 0 (by omega)
  -- the last loops
  have fin : ∀ (f1 : Nat → Int32) (t1 : Nat → Bool), (∀ k, k < 125 → f1 k = bI (t1 k)) → (∀ a b, a < B 0 → b < B 0 → (t1 (5 * a + b) = true ↔ Mee (gog (B 1) (dg B d)) 0 a b)) → ∃ v, f_X12_apart_b278 zfu m (nI (B 0)) (nI 0) (mem9 N m sc lg ar en f1) = some (v, mem9 N m sc lg ar en f1) ∧ ChA (B 0) (fun a b => ¬ Mee (gog (B 1) (dg B d)) 0 a b) v := by
    intro f1 t1 h1 h2
    refine pairLoop (R := zMe) (fun fuel a => f_X12_apart_b278 fuel m (nI (B 0)) (nI a) (mem9 N m sc lg ar en f1)) (fun k fuel a b => f_X12_apart_b290 (f_X12_apart_b278 k) fuel m (nI (B 0)) (nI a) (nI b) (mem9 N m sc lg ar en f1)) (B 0) hn5 (fun a b => ¬ Mee (gog (B 1) (dg B d)) 0 a b) (mem9 N m sc lg ar en f1) (fun fu a ha => ?_) (fun fu => ?_) (fun k fu a b hab hb => ?_) (fun k fu a ha => ?_)
    · show f_X12_apart_b278 (fu + 1) m (nI (B 0)) (nI a) (mem9 N m sc lg ar en f1) = f_X12_apart_b290 (f_X12_apart_b278 fu) zfu m (nI (B 0)) (nI a) (nI (a + 1)) (mem9 N m sc lg ar en f1)
      rw [f_X12_apart_b278, if_neg (nI_ge ha (by omega)), zlet, nI_1]
    · show f_X12_apart_b278 (fu + 1) m (nI (B 0)) (nI (B 0)) (mem9 N m sc lg ar en f1) = _
      rw [f_X12_apart_b278, if_pos (nI_le (Nat.le_refl _) (by omega))]
    · have er : (5 : Int32) * nI a + nI b = nI (5 * a + b) := by rw [show (5 : Int32) * nI a = nI (5 * a) from pk_mul 5 a, nI_add]
      have er2 : (10 : Int32) * nI a + nI b = nI (10 * a + b) := by rw [show (10 : Int32) * nI a = nI (10 * a) from pk_mul 10 a, nI_add]
      have st : f_X12_apart_b290 (f_X12_apart_b278 k) (fu + 1) m (nI (B 0)) (nI a) (nI b) (mem9 N m sc lg ar en f1) = if t1 (5 * a + b) = false then some (nI (10 * a + b), mem9 N m sc lg ar en f1) else f_X12_apart_b290 (f_X12_apart_b278 k) fu m (nI (B 0)) (nI a) (nI (b + 1)) (mem9 N m sc lg ar en f1) := by
        rw [f_X12_apart_b290, if_neg (nI_ge hb (by omega)), m9_18, Option.bind_some, er, m9_r f1 (by omega), Option.bind_some, h1 _ (by omega), er2, zlet, nI_1]
        simp only [bI_0]
      have h12 := h2 a b (by omega) hb
      refine ⟨fun hs => ?_, fun hs => ?_⟩
      · show f_X12_apart_b290 (f_X12_apart_b278 k) (fu + 1) m (nI (B 0)) (nI a) (nI b) (mem9 N m sc lg ar en f1) = _
        rw [st, if_pos]
        cases hh : t1 (5 * a + b) with
        | false => rfl
        | true => exact absurd (h12.mp hh) hs
      · show f_X12_apart_b290 (f_X12_apart_b278 k) (fu + 1) m (nI (B 0)) (nI a) (nI b) (mem9 N m sc lg ar en f1) = _
        rw [st, if_neg]
        have := h12.mpr (Classical.byContradiction hs)
        rw [this]
        decide
    · show f_X12_apart_b290 (f_X12_apart_b278 k) (fu + 1) m (nI (B 0)) (nI a) (nI (B 0)) (mem9 N m sc lg ar en f1) = f_X12_apart_b278 k m (nI (B 0)) (nI (a + 1)) (mem9 N m sc lg ar en f1)
      rw [f_X12_apart_b290, if_pos (nI_le (Nat.le_refl _) (by omega)), zlet, nI_1]
  have fin2 : ∀ (f1 : Nat → Int32) (t1 : Nat → Bool), (∀ k, k < 125 → f1 k = bI (t1 k)) → SdR (gog (B 1) (dg B d)) (B 0) t1 → (∀ t a, t < 5 → a < 5 → t1 (25 * t + 5 * a + a) = true) → (∀ t, t < 5 → ClR (gog (B 1) (dg B d)) (B 0) t1 t) → ∃ v f', f_X12_apart_b278 zfu m (nI (B 0)) 0 (mem9 N m sc lg ar en f1) = some (v, mem9 N m sc lg ar en f') ∧ ChA (B 0) (fun a b => ¬ Mee (gog (B 1) (dg B d)) 0 a b) v := by
    intro f1 t1 g1 g2 g3 g4
    obtain ⟨v, k1, k2⟩ := fin f1 t1 g1 (fun a b ha hb => ⟨fun hz => g2 0 a b (by omega) ha hb (by rw [show 25 * 0 + 5 * a + b = 5 * a + b by omega]; exact hz), fun ⟨k, hk⟩ => by
      have := Mee.sub (go := gog (B 1) (dg B d)) (n := B 0) (T := fun t a b => t1 (25 * t + 5 * a + b) = true) (fun w hw ph p hp => gog_lt hD hw hp) (fun t a ht ha => g3 t a ht (by omega)) (fun t a b w ht ha hb hw hz => g4 t ht a b ha hb (by
        rcases (show w = 0 ∨ w = 1 by omega) with rfl | rfl
        · exact Or.inl hz
        · exact Or.inr hz)) k 0 a b (by omega) ha hb hk
      have this : t1 (25 * 0 + 5 * a + b) = true := this
      rw [show 25 * 0 + 5 * a + b = 5 * a + b by omega] at this
      exact this⟩)
    rw [nI_0] at k1
    exact ⟨v, f1, k1, k2⟩
  -- the rounds
  have rounds : ∀ (f1 : Nat → Int32) (t1 : Nat → Bool), (∀ k, k < 125 → f1 k = bI (t1 k)) → SdR (gog (B 1) (dg B d)) (B 0) t1 → (∀ t a, t < 5 → a < 5 → t1 (25 * t + 5 * a + a) = true) → ∃ v f', f_X12_apart_b59 zfu m (nI d) (nI (B 0)) 1 (mem9 N m sc lg ar en f1) = some (v, mem9 N m sc lg ar en f') ∧ ChA (B 0) (fun a b => ¬ Mee (gog (B 1) (dg B d)) 0 a b) v := by
    intro f1 t1 g1 g2 g3
    refine loopX (S := Bool × (Nat → Bool) × (Nat → Int32)) (R := Option (Int32 × zMe)) (fun fuel r s => f_X12_apart_b59 fuel m (nI d) (nI (B 0)) (bI s.1) (mem9 N m sc lg ar en s.2.2)) 126 (fun r s => (∀ k, k < 125 → s.2.2 k = bI (s.2.1 k)) ∧ SdR (gog (B 1) (dg B d)) (B 0) s.2.1 ∧ (∀ t a, t < 5 → a < 5 → s.2.1 (25 * t + 5 * a + a) = true) ∧ ((s.1 = true ∧ r ≤ cbB s.2.1 125) ∨ (s.1 = false ∧ ∀ t, t < 5 → ClR (gog (B 1) (dg B d)) (B 0) s.2.1 t))) (fun Q => ∃ v f', Q = some (v, mem9 N m sc lg ar en f') ∧ ChA (B 0) (fun a b => ¬ Mee (gog (B 1) (dg B d)) 0 a b) v) (by omega) (fun fu r s hr hI => ?_) (fun fu s hI => ?_) (true, t1, f1) ⟨g1, g2, g3, Or.inl ⟨rfl, Nat.zero_le _⟩⟩
    · obtain ⟨mo1, t2, f2⟩ := s
      obtain ⟨i1, i2, i3, i4⟩ := hI
      rcases i4 with ⟨a1, a2⟩ | ⟨a1, a2⟩
      · have a1' : mo1 = true := a1
        subst a1'
        obtain ⟨mo', t3, f3, k1, k2, k3, k4, k5⟩ := m_round (N := N) (m := m) (sc := sc) (lg := lg) (ar := ar) (en := en) (f_X12_apart_b59 fu) hB hW hd i1 i2
        refine Or.inl ⟨(mo', t3, f3), ?_, k2, k3, fun t a ht ha => k4 _ (by omega) (i3 t a ht ha), ?_⟩
        · show f_X12_apart_b59 (fu + 1) m (nI d) (nI (B 0)) (bI true) (mem9 N m sc lg ar en f2) = f_X12_apart_b59 fu m (nI d) (nI (B 0)) (bI mo') (mem9 N m sc lg ar en f3)
          rw [f_X12_apart_b59, if_neg (show ¬ bI true = 0 by decide), show (4 : Int32) = nI (5 - 0) + (-1) from by decide]
          exact k1
        · rcases k5 with ⟨b1, b2, b3⟩ | ⟨b1, b2⟩
          · refine Or.inr ⟨b1, fun t ht a b ha hb hz => ?_⟩
            have b2' : ∀ k, k < 125 → t3 k = t2 k := b2
            have l0 := gog_lt (sh := B 1) (t := t) hD (w := 0) (by omega) ha
            have l1 := gog_lt (sh := B 1) (t := t) hD (w := 0) (by omega) hb
            have l2 := gog_lt (sh := B 1) (t := t) hD (w := 1) (by omega) ha
            have l3 := gog_lt (sh := B 1) (t := t) hD (w := 1) (by omega) hb
            have hnp := npz5 ht
            show t3 (25 * t + 5 * a + b) = true
            rw [b2' _ (by omega)]
            refine b3 t ht a b ha hb ?_
            have hz' : t3 (25 * npz t + 5 * gog (B 1) (dg B d) 0 t a + gog (B 1) (dg B d) 0 t b) = true ∨ t3 (25 * npz t + 5 * gog (B 1) (dg B d) 1 t a + gog (B 1) (dg B d) 1 t b) = true := hz
            rw [b2' _ (by omega), b2' _ (by omega)] at hz'
            exact hz'
          · have := (cbB_mono 125 k4).2 (by obtain ⟨k, q1, q2⟩ := b2; exact ⟨k, q1, fun z => q2 z.symm⟩)
            have a2' : r ≤ cbB t2 125 := a2
            exact Or.inl ⟨b1, by show r + 1 ≤ cbB t3 125; omega⟩
      · have a1' : mo1 = false := a1
        subst a1'
        refine Or.inr ?_
        show ∃ v f', f_X12_apart_b59 (fu + 1) m (nI d) (nI (B 0)) (bI false) (mem9 N m sc lg ar en f2) = some (v, mem9 N m sc lg ar en f') ∧ _
        rw [f_X12_apart_b59, if_pos (show bI false = 0 from rfl)]
        exact fin2 f2 t2 i1 i2 i3 a2
    · obtain ⟨mo1, t2, f2⟩ := s
      obtain ⟨i1, i2, i3, i4⟩ := hI
      rcases i4 with ⟨_, a2⟩ | ⟨a1, a2⟩
      · exfalso
        have := cbB_le t2 125
        have a2' : 126 ≤ cbB t2 125 := a2
        omega
      · have a1' : mo1 = false := a1
        subst a1'
        show ∃ v f', f_X12_apart_b59 (fu + 1) m (nI d) (nI (B 0)) (bI false) (mem9 N m sc lg ar en f2) = some (v, mem9 N m sc lg ar en f') ∧ _
        rw [f_X12_apart_b59, if_pos (show bI false = 0 from rfl)]
        exact fin2 f2 t2 i1 i2 i3 a2
  -- the beginning
  obtain ⟨tb0, htb0⟩ : ∃ tb0 : Nat → Bool, tb0 = fun k => decide (k % 25 / 5 = k % 5) := ⟨_, rfl⟩
  have init : ∃ v f', f_X12_apart_b22 zfu m (nI d) (nI (B 0)) (nI 0) (mem9 N m sc lg ar en (ar 9)) = some (v, mem9 N m sc lg ar en f') ∧ ChA (B 0) (fun a b => ¬ Mee (gog (B 1) (dg B d)) 0 a b) v := by
    refine loopX (S := Nat → Int32) (R := Option (Int32 × zMe)) (fun fuel j s => f_X12_apart_b22 fuel m (nI d) (nI (B 0)) (nI j) (mem9 N m sc lg ar en s)) 125 (fun j s => ∀ k, k < j → s k = bI (tb0 k)) (fun Q => ∃ v f', Q = some (v, mem9 N m sc lg ar en f') ∧ ChA (B 0) (fun a b => ¬ Mee (gog (B 1) (dg B d)) 0 a b) v) (by omega) (fun fu j s hj hI => Or.inl ?_) (fun fu s hI => ?_) (ar 9) (fun k hk => by omega)
    · refine ⟨upd s j (bI (tb0 j)), ?_, fun k hk => ?_⟩
      · show f_X12_apart_b22 (fu + 1) m (nI d) (nI (B 0)) (nI j) (mem9 N m sc lg ar en s) = f_X12_apart_b22 fu m (nI d) (nI (B 0)) (nI (j + 1)) (mem9 N m sc lg ar en (upd s j (bI (tb0 j))))
        have r25 : nI j - nI j / 25 * 25 = nI (j % 25) := pk_rem (d := 25) (by omega) (by omega) (by omega)
        have r5 : nI j - nI j / 5 * 5 = nI (j % 5) := pk_rem (d := 5) (by omega) (by omega) (by omega)
        have d5 : nI (j % 25) / 5 = nI (j % 25 / 5) := pk_div (d := 5) (by omega) (by omega) (by omega)
        rw [f_X12_apart_b22, if_neg (show ¬ (125 : Int32) ≤ nI j from nI_ge (b := 125) hj (by omega)), m9_18, Option.bind_some, r25, zlet, r5, zlet, d5]
        simp only [nI_eq (show j % 25 / 5 < 2 ^ 31 by omega) (show j % 5 < 2 ^ 31 by omega)]
        by_cases hc : j % 25 / 5 = j % 5
        · rw [if_pos hc, f_X12_apart_b50, m9_w s hj, Option.bind_some, vnz1, zlet, nI_1, htb0]
          simp [hc, bI]
        · rw [if_neg hc, f_X12_apart_b50, m9_w s hj, Option.bind_some, vnz0, zlet, nI_1, htb0]
          simp [hc, bI]
      · by_cases e : k = j
        · rw [e, up_s]
        · rw [up_n _ _ e]; exact hI k (by omega)
    · show ∃ v f', f_X12_apart_b22 (fu + 1) m (nI d) (nI (B 0)) (nI 125) (mem9 N m sc lg ar en s) = some (v, mem9 N m sc lg ar en f') ∧ _
      rw [f_X12_apart_b22, if_pos (show (125 : Int32) ≤ nI 125 by decide)]
      refine rounds s tb0 hI (fun t a b ht ha hb hz => ?_) (fun t a ht ha => ?_)
      · rw [htb0] at hz
        simp only [decide_eq_true_iff] at hz
        have q1 : (25 * t + 5 * a + b) % 25 = 5 * a + b := by omega
        have q2 : (25 * t + 5 * a + b) % 5 = b := by omega
        have : a = b := by rw [q1, q2] at hz; omega
        rw [this]
        exact Mee.refl _ _ _
      · rw [htb0]
        simp only [decide_eq_true_iff]
        have q1 : (25 * t + 5 * a + a) % 25 = 5 * a + a := by omega
        have q2 : (25 * t + 5 * a + a) % 5 = a := by omega
        rw [q1, q2]
        omega
  obtain ⟨v, f', k1, k2⟩ := init
  refine ⟨v, f', ?_, k2⟩
  have hm9 : mem9 N m sc lg ar en (ar 9) = mmk N m sc lg ar en := by unfold mem9; rw [updA_id]
  rw [nI_0, hm9] at k1
  have r0 : zrI (mmk N m sc lg ar en) (m + 1) 0 = some (nI (B 0)) := by rw [show (0 : Int32) = nI 0 from rfl, mm_rN1 (by omega), e0]
  rw [f_X12_apart, mm_ob, Option.bind_some, m_isDog, Option.bind_some, hB 6 (by omega), zin_n (by omega) hd, if_neg one0, mm_gN0, Option.bind_some, r0, Option.bind_some]
  exact k1
end MAP2
section ST8
variable {M : zMe} {x : Nat} {A Z : Nat → Nat} {sr h d : Nat} {P : PS} {f : Nat → Option Nat} {tx : Nat → Int32} {fi : Nat → Option Nat}
theorem CJ.g10 (hc : CJ M x P A Z sr h d f tx fi) : zgN M x [11] 10 = some (x + 23) := by simp [zgN, zg, hc.1, xo]
theorem CJ.g11 (hc : CJ M x P A Z sr h d f tx fi) : zgN M x [11] 11 = some (x + 27) := by simp [zgN, zg, hc.1, xo]
/-- the lane x + 23 is written -/
theorem CJ.lane (hc : CJ M x P A Z sr h d f tx fi) {nn : Int32} {st en me : Nat → Int32} (hst : ∀ k, k < 10 → st (32 * k) = 0) : CJ (lmk M (x + 23) nn st en me) x P A Z sr h d f tx fi ∧ Mk M (lmk M (x + 23) nn st en me) x := by
  have hw := hc.wk
  have hm := hc.m44
  have ho : ∀ q, (q < x + 23 ∨ x + 26 < q) → (lmk M (x + 23) nn st en me).1 q = M.1 q := fun q hq => lm_out (by omega)
  have hf : WFr M (lmk M (x + 23) nn st en me) x A := ⟨Nat.le_refl _, fun q q1 q2 q3 q4 => ho q (by omega), fun hf q hq => by
    have hq' : M.2.1 ≤ q := hq
    rw [ho q (by omega)]
    exact hf q hq'⟩
  refine ⟨hc.work hf ?_, hf.mk hw hm⟩
  obtain ⟨⟨J, I, fe, fl, fs, v, r0, r1, r2, r3, r4, r5⟩, w2, w3, w4, w5, w6, w7, w8⟩ := hw
  have a0 := w8 0 (by omega)
  have a1 := w8 1 (by omega)
  have a2 := w8 2 (by omega)
  refine ⟨⟨J, I, fe, fl, fs, v, ?_, ?_, ?_, ?_, ?_, r5⟩, w2.kept (fun q a b => ho q (by omega)), ⟨nn, st, en, me, lm_0, lm_1, lm_2, lm_3, hst⟩, ?_, ?_, ?_, ?_, w8⟩
  · rw [ho _ (by omega)]; exact r0
  · rw [ho _ (by omega)]; exact r1
  · rw [ho _ (by omega)]; exact r2
  · rw [ho _ (by omega)]; exact r3
  · rw [ho _ (by omega)]; exact r4
  · rw [ho _ (by omega)]; exact w4
  · rw [ho _ (by omega)]; exact w5
  · rw [ho _ (by omega)]; exact w6
  · rw [ho _ (by omega)]; exact w7
theorem S_apart (hc : CJ M x P A Z sr h d f tx fi) (v : Int32) : St M x P A Z sr (f_X11_apart x v) (f_X12_apart (x + 31) v) := by
  have hl := hc.hl
  have hW := hl.2.1
  have hnd := hW.nd
  have hn5 := hW.n5
  have hn2 := hW.n2
  have hs32 := hW.sh32
  have hg := c_g hl.1
  rcases zin_case (n := P.1 6) (by omega) v with ⟨z1, z2⟩ | ⟨k, k1, rfl⟩
  · refine St.bad hc (r := -2) ?_ (fun N sc lg ar en hm => ?_)
    · rw [f_X11_apart, c_h hc.1, Option.bind_some, c_obh hl.1, Option.bind_some, c_dogAt_no hl.1 z2, Option.bind_some, zcase, c_obx hc.1, Option.bind_some, c_bad hc.1, Option.bind_some]
    · rw [f_X12_apart, mm_ob, Option.bind_some, m_isDog, Option.bind_some, hm.1 6 (by omega), z1, if_pos rfl, mm_ob, Option.bind_some, m_bad, Option.bind_some]
  · obtain ⟨a, a1, a2⟩ := hc.dogs k k1
    obtain ⟨st, en, me, q1, q2⟩ := (hc.wk.2.2.1).learn a2 (hW.dw k k1) hn5 (show P.1 1 < 2 ^ 31 by omega)
    obtain ⟨c1, m1⟩ := hc.lane (nn := nI (2 ^ P.1 0)) (st := st) (en := en) (me := me) q2.zero
    obtain ⟨me', V, e1, e2, e3, e4⟩ := l_meet (M := M) (a := x + 23) (en := en) (me := me) q2 (hW.dw k k1) hn5 (by omega)
    obtain ⟨c2, m2⟩ := hc.lane (nn := nI (2 ^ P.1 0)) (st := st) (en := en) (me := me') q2.zero
    obtain ⟨M2, hM2⟩ : ∃ M2, M2 = lmk M (x + 23) (nI (2 ^ P.1 0)) st en me' := ⟨_, rfl⟩
    have hg2 := c_g c2.hl.1
    have cm : ∀ p q, p < P.1 0 → q < P.1 0 → f_X4_canMeet (x + 23) (nI p) (nI q) M2 = some (if V.testBit (2 ^ p ||| 2 ^ q) then 1 else 0, M2) := fun p q hp hq => by
      rw [hM2, f_X4_canMeet, lm_g2, Option.bind_some]
      have r0 : zrI (lmk M (x + 23) (nI (2 ^ P.1 0)) st en me') (x + 23 + 3) 0 = some (nI V) := by rw [show (0 : Int32) = nI 0 from rfl, lm_r3 (by omega), e2]
      have h01 : (if V.testBit (2 ^ p ||| 2 ^ q) then (1 : Int32) else 0) = 0 ∨ (if V.testBit (2 ^ p ||| 2 ^ q) then (1 : Int32) else 0) = 1 := by split <;> simp
      rw [r0, Option.bind_some, n_sh1 (by omega), n_sh1 (by omega), n_or, c_holds, Option.bind_some, n_bitG e3 (or_lt32 (by omega) (by omega)), if_pos h01]
    have ob2 : zob M2 (x + 23) 4 = some () := by rw [hM2]; exact lm_ob
    rw [← hM2] at c2 hg2 e1
    have lp : ∃ v, f_X11_apart_b51 zfu x (nI 0) M2 = some (v, M2) ∧ ChA (P.1 0) (fun a b => ¬ Mee (gog (P.1 1) (dg P.1 k)) 0 a b) v := by
      refine pairLoop (R := zMe) (fun fuel a => f_X11_apart_b51 fuel x (nI a) M2) (fun ko fuel a b => f_X11_apart_b67 (f_X11_apart_b51 ko) fuel x (nI a) (nI b) M2) (P.1 0) hn5 (fun a b => ¬ Mee (gog (P.1 1) (dg P.1 k)) 0 a b) M2 (fun fu a ha => ?_) (fun fu => ?_) (fun ko fu a b hab hb => ?_) (fun ko fu a ha => ?_)
      · show f_X11_apart_b51 (fu + 1) x (nI a) M2 = f_X11_apart_b67 (f_X11_apart_b51 fu) zfu x (nI a) (nI (a + 1)) M2
        rw [f_X11_apart_b51, c_h c2.1, Option.bind_some, hg2.1, Option.bind_some, if_neg (nI_ge ha (by omega)), zlet, nI_1]
      · show f_X11_apart_b51 (fu + 1) x (nI (P.1 0)) M2 = _
        rw [f_X11_apart_b51, c_h c2.1, Option.bind_some, hg2.1, Option.bind_some, if_pos (nI_le (Nat.le_refl _) (by omega))]
      · have er2 : (10 : Int32) * nI a + nI b = nI (10 * a + b) := by rw [show (10 : Int32) * nI a = nI (10 * a) from pk_mul 10 a, nI_add]
        have st2 : f_X11_apart_b67 (f_X11_apart_b51 ko) (fu + 1) x (nI a) (nI b) M2 = if V.testBit (2 ^ a ||| 2 ^ b) = false then some (nI (10 * a + b), M2) else f_X11_apart_b67 (f_X11_apart_b51 ko) fu x (nI a) (nI (b + 1)) M2 := by
          rw [f_X11_apart_b67, c_h c2.1, Option.bind_some, hg2.1, Option.bind_some, if_neg (nI_ge hb (by omega)), c2.g10, Option.bind_some, ob2, Option.bind_some, cm a b (by omega) hb, Option.bind_some, er2, zlet, nI_1]
          cases V.testBit (2 ^ a ||| 2 ^ b) <;> rfl
        have h12 := e4 a b (by omega) hb
        refine ⟨fun hs => ?_, fun hs => ?_⟩
        · show f_X11_apart_b67 (f_X11_apart_b51 ko) (fu + 1) x (nI a) (nI b) M2 = _
          rw [st2, if_pos]
          cases hh : V.testBit (2 ^ a ||| 2 ^ b) with
          | false => rfl
          | true => exact absurd (h12.mp hh) hs
        · show f_X11_apart_b67 (f_X11_apart_b51 ko) (fu + 1) x (nI a) (nI b) M2 = _
          rw [st2, if_neg]
          have := h12.mpr (Classical.byContradiction hs)
          rw [this]
          decide
      · show f_X11_apart_b67 (f_X11_apart_b51 ko) (fu + 1) x (nI a) (nI (P.1 0)) M2 = f_X11_apart_b51 ko x (nI (a + 1)) M2
        rw [f_X11_apart_b67, c_h c2.1, Option.bind_some, hg2.1, Option.bind_some, if_pos (nI_le (Nat.le_refl _) (by omega)), zlet, nI_1]
    obtain ⟨r, l1, l2⟩ := lp
    rw [nI_0] at l1
    have ob0 : zob M (x + 23) 4 = some () := by
      obtain ⟨nn, _, _, _, k0, -⟩ := hc.wk.2.2.1
      simp [zob, k0]
    refine ⟨r, M2, P, A, Z, sr, ?_, c2.ci, by rw [hM2]; exact m2, by rw [hM2]; exact RmK.refl M Z sr, fun N sc lg ar en hm => ?_⟩
    · rw [f_X11_apart, c_h hc.1, Option.bind_some, c_obh hl.1, Option.bind_some, c_dogAt_ok hl.1 hl.2.2.1 hnd k1, Option.bind_some, a1, zcase, hc.g10, Option.bind_some, c_h hc.1, Option.bind_some, hg.1, Option.bind_some, Option.bind_some, hg.2.1, Option.bind_some, ob0, Option.bind_some, q1, Option.bind_some, c1.g10, Option.bind_some, lm_ob, Option.bind_some, e1, Option.bind_some]
      exact l1
    · obtain ⟨r', f', k2, k3⟩ := m_apart (N := N) (m := x + 31) (sc := sc) (lg := lg) (en := en) hm.1 hW k1
      refine ⟨sc, lg, updA ar 9 f', en, ?_, ?_⟩
      · rw [k2, l2.uniq k3]
        rfl
      · obtain ⟨h1, h2, h3, h4, h5, h6, h7, h8, h9, h10, h11, h12⟩ := hm
        have u : ∀ j, j ≠ 9 → updA ar 9 f' j = ar j := fun j hj => updA_n _ _ hj
        exact ⟨by rw [u 0 (by decide)]; exact h1, h2, h3, h4, h5, h6, by rw [u 5 (by decide)]; exact h7, by rw [u 4 (by decide)]; exact h8, by rw [u 3 (by decide)]; exact h9, by rw [u 2 (by decide)]; exact h10, by rw [u 6 (by decide), u 8 (by decide)]; exact h11, by rw [u 6 (by decide), u 8 (by decide)]; exact h12⟩
end ST8
