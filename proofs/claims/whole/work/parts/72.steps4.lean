section ST4
variable {M M' : zMe} {x : Nat} {A Z : Nat → Nat} {sr h d : Nat} {P : PS} {f : Nat → Option Nat} {tx : Nat → Int32} {fi : Nat → Option Nat}
/-- a copy of a hill, at the end -/
theorem Hl.copied {h d : Nat} {B : Nat → Nat} {f g : Nat → Option Nat} (hl : Hl M x h d B f) (c9 : x + 44 ≤ M.2.1) (m2 : M'.2 = (M.2.1 + 2, M.2.2 + 11)) (k1 : M'.1 M.2.1 = some (.inr (2, ho (nB B) (M.2.1 + 1)))) (k2 : M'.1 (M.2.1 + 1) = some (dgA g)) (hg : ∀ k, k < 3 → g k = f k) (hd : ∀ a D, Dg M x a D → M'.1 a = M.1 a) : Hl M' x M.2.1 (M.2.1 + 1) B g := by
  obtain ⟨l1, l2, l3, l4, l5, l6, l7, l8, l9⟩ := hl
  have m21 : M'.2.1 = M.2.1 + 2 := by rw [m2]
  have hnd := l2.nd
  refine ⟨k1, l2, k2, fun k hk => ?_, fun k hk a ha => ?_, Or.inr c9, Or.inr (by omega), by omega, by omega⟩
  · obtain ⟨a, a1, a2⟩ := l4 k hk
    exact ⟨a, by rw [hg k (by omega)]; exact a1, by rw [hd a _ a2]; exact a2.1, a2.2.1, by have := a2.2.2; omega⟩
  · rw [hg k hk] at ha
    obtain ⟨D, D1, D2⟩ := l5 k hk a ha
    exact ⟨D, D1, by rw [hd a _ D2]; exact D2.1, D2.2.1, by have := D2.2.2; omega⟩
theorem CJ.hok (hc : CJ M x P A Z sr h d f tx fi) : ∀ k, k < 3 → ∀ a, f k = some a → ∃ D : Nat → Nat, D 0 ≤ 4 ∧ M.1 a = some (dogCell D) := fun k hk a ha => by
  obtain ⟨D, D1, D2⟩ := hc.hl.2.2.2.2.1 k hk a ha
  exact ⟨D, D1, D2.1⟩
theorem CJ.alt (hc : CJ M x P A Z sr h d f tx fi) {i : Nat} (hi : i < 3) : A i < M.2.1 := by
  obtain ⟨⟨_, _, _, _, _, _, _, _, _, _, _, _, _, _, _, _, h, _⟩, _⟩ := hc.wk
  exact (h i hi).2
theorem S_image (hc : CJ M x P A Z sr h d f tx fi) (v : Int32) : St M x P A Z sr (f_X11_image x v) (f_X12_image (x + 31) v) := by
  have hl := hc.hl
  rcases zin_r (a := 0) (b := 1) (by omega) (by omega) v with ⟨z1, z2⟩ | ⟨i, -, i2, rfl⟩
  · exact St.bad hc (r := -2) (c_image_bad hc.1 z2) (fun N sc lg ar en hm => m_image_bad z1)
  · obtain ⟨M', g, e1, e2, e3, e4, e5, e6, e7⟩ := c_image_ok hc.1 hl.1 hl.2.2.1 hc.2.2.1 hc.hok hc.2.2.2.2.2.2.2.2.2 (show i < 2 by omega)
    have halt : ∀ i, i < 3 → A i < M.2.1 := fun i hi => hc.alt hi
    obtain ⟨c1, c2, c3, c4, c5, c6, c7, c8, c9, c10⟩ := hc
    have m21 : M'.2.1 = M.2.1 + 2 := by rw [e7]
    have hdk : ∀ a D, Dg M x a D → M'.1 a = M.1 a := fun a D hd => e6 a (by have := hd.2; omega) (by have := hd.2; omega) (by have := hd.2; omega)
    have hk : ∀ {h1 d1 : Nat} {B : Nat → Nat} {f : Nat → Option Nat}, Hl M x h1 d1 B f → Hl M' x h1 d1 B f := fun hl => by
      have := hl.2.2.2.2.2
      exact hl.keep (by omega) (e6 _ (by omega) (by omega) (by omega)) (e6 _ (by omega) (by omega) (by omega)) hdk
    have hnew := c2.copied c9 e7 e3 e4 e5 hdk
    have l8 := c2.2.2.2.2.2.2.2
    refine ⟨1, M', (P.1, P.2.1, P.2.2.1, P.2.2.2.1, P.2.2.2.2.1, (fun j => if j = i then true else P.2.2.2.2.2.1 j), (fun j => if j = i then P.1 else P.2.2.2.2.2.2 j)), A, Z, sr, e1, ⟨h, d, f, tx, va_up fi i (some M.2.1), by rw [e6 x (by omega) (by omega) (by omega)]; exact c1, hk c2, e2, fun j hj => ?_, by rw [e6 _ (by omega) (by omega) (by omega)]; exact c5, c6, c7, c8.kept (fun q a b => e6 q (by omega) (by omega) (by omega)) (fun i hi => e6 _ (by have := c8.2.2.2.2.2.2.2 i hi; omega) (by have := halt i hi; omega) (by have := halt i hi; omega)) (by omega), by omega, fun q hq => ?_⟩, fun q q1 q2 => e6 q (by omega) (by omega) (by omega), ⟨by omega, by rw [e7]; show M.2.2 + 11 + _ ≤ _; omega, by omega⟩, fun N sc lg ar en hm => ⟨sc, lg, _, en, m_image_ok (by omega), ?_⟩⟩
    · by_cases ej : j = i
      · refine Or.inr ⟨M.2.1, M.2.1 + 1, g, by rw [ej, va_up_self], (by show (if j = i then true else _) = true; rw [if_pos ej]), ?_, by omega, by omega⟩
        show Hl M' x M.2.1 (M.2.1 + 1) (if j = i then P.1 else P.2.2.2.2.2.2 j) g
        rw [if_pos ej]
        exact hnew
      · show (va_up fi i (some M.2.1) j = none ∧ (if j = i then true else P.2.2.2.2.2.1 j) = false) ∨ ∃ a e g, va_up fi i (some M.2.1) j = some a ∧ (if j = i then true else P.2.2.2.2.2.1 j) = true ∧ Hl M' x a e (if j = i then P.1 else P.2.2.2.2.2.2 j) g ∧ a ≠ h ∧ e ≠ d
        rw [va_up_ne _ _ ej, if_neg ej, if_neg ej]
        rcases c4 j hj with z | ⟨a, e, g, y1, y2, y3, y4⟩
        · exact Or.inl z
        · exact Or.inr ⟨a, e, g, y1, y2, hk y3, y4⟩
    · rw [e6 q (by omega) (by omega) (by omega)]; exact c10 q (by omega)
    · obtain ⟨h1, h2, h3, h4, h5, h6, h7, h8, h9, h10, h11, h12⟩ := hm
      have u : ∀ k, k ≠ 2 → k ≠ 3 → updA (updA ar 2 (imt (ar 2) (ar 0) i 25)) 3 (upd (ar 3) i 1) k = ar k := fun k k2 k3 => by rw [updA_n _ _ k3, updA_n _ _ k2]
      refine ⟨by rw [u 0 (by decide) (by decide)]; exact h1, h2, h3, h4, h5, h6, by rw [u 5 (by decide) (by decide)]; exact h7, by rw [u 4 (by decide) (by decide)]; exact h8, fun j hj => ?_, fun j hj hkj k hk25 => ?_, by rw [u 6 (by decide) (by decide), u 8 (by decide) (by decide)]; exact h11, by rw [u 6 (by decide) (by decide), u 8 (by decide) (by decide)]; exact h12⟩
      · rw [updA_s]
        show _ = if (if j = i then true else P.2.2.2.2.2.1 j) then (1 : Int32) else 0
        by_cases ej : j = i
        · rw [ej, up_s, if_pos rfl]; rfl
        · rw [up_n _ _ ej, if_neg ej]; exact h9 j hj
      · show updA (updA ar 2 (imt (ar 2) (ar 0) i 25)) 3 (upd (ar 3) i 1) 2 (25 * j + k) = nI ((if j = i then P.1 else P.2.2.2.2.2.2 j) k)
        rw [updA_n _ _ (by decide), updA_s, imt_at]
        by_cases ej : j = i
        · rw [if_pos (by omega), if_pos ej, show 25 * j + k - 25 * i = k by omega]
          exact h1 k hk25
        · rw [if_neg (by omega), if_neg ej]
          have hkj' : (if j = i then true else P.2.2.2.2.2.1 j) = true := hkj
          rw [if_neg ej] at hkj'
          exact h10 j hj hkj' k hk25
theorem S_from (hc : CJ M x P A Z sr h d f tx fi) (v : Int32) : St M x P A Z sr (f_X11_from x v) (f_X12_from (x + 31) v) := by
  rcases zin_r (a := 0) (b := 1) (by omega) (by omega) v with ⟨z1, z2⟩ | ⟨i, -, i2, rfl⟩
  · exact St.bad hc (r := -2) (c_from_bad hc.1 z2) (fun N sc lg ar en hm => m_from_bad z1)
  · rcases hc.2.2.2.1 i (by omega) with ⟨z1, z2⟩ | ⟨a, e, g, y1, y2, y3, y4, y5⟩
    · refine St.no hc (r := -3) (c_from_no hc.1 hc.2.2.1 (by omega) z1) (fun N sc lg ar en hm => m_from_no (by omega) ?_)
      rw [hm.2.2.2.2.2.2.2.2.1 i (by omega), z2]
      rfl
    · obtain ⟨M', g', e1, e2, e3, e4, e5, e6, e7⟩ := c_from_ok hc.1 hc.2.2.1 (show i < 2 by omega) y1 y3.1 y3.2.2.1 (fun k hk a ha => by
        obtain ⟨D, D1, D2⟩ := y3.2.2.2.2.1 k hk a ha
        exact ⟨D, D1, D2.1⟩) hc.2.2.2.2.2.2.2.2.2
      have halt : ∀ i, i < 3 → A i < M.2.1 := fun i hi => hc.alt hi
      obtain ⟨c1, c2, c3, c4, c5, c6, c7, c8, c9, c10⟩ := hc
      have m21 : M'.2.1 = M.2.1 + 2 := by rw [e7]
      have hdk : ∀ a D, Dg M x a D → M'.1 a = M.1 a := fun a D hd => e6 a (by have := hd.2; omega) (by have := hd.2; omega) (by have := hd.2; omega)
      have hk : ∀ {h1 d1 : Nat} {B : Nat → Nat} {f : Nat → Option Nat}, Hl M x h1 d1 B f → Hl M' x h1 d1 B f := fun hl => by
        have := hl.2.2.2.2.2
        exact hl.keep (by omega) (e6 _ (by omega) (by omega) (by omega)) (e6 _ (by omega) (by omega) (by omega)) hdk
      have hnew := y3.copied c9 e7 e3 e4 e5 hdk
      refine ⟨1, M', (P.2.2.2.2.2.2 i, P.2), A, Z, sr, e1, ⟨M.2.1, M.2.1 + 1, g', tx, fi, e2, hnew, by rw [e6 _ (by omega) (by omega) (by omega)]; exact c3, fun j hj => ?_, by rw [e6 _ (by omega) (by omega) (by omega)]; exact c5, c6, c7, c8.kept (fun q a b => e6 q (by omega) (by omega) (by omega)) (fun i hi => e6 _ (by have := c8.2.2.2.2.2.2.2 i hi; omega) (by have := halt i hi; omega) (by have := halt i hi; omega)) (by omega), by omega, fun q hq => ?_⟩, fun q q1 q2 => e6 q (by omega) (by omega) (by omega), ⟨by omega, by rw [e7]; show M.2.2 + 11 + _ ≤ _; omega, by omega⟩, fun N sc lg ar en hm => ⟨sc, lg, _, en, m_from_ok (by omega) ?_, hm.book (fun k hk25 => ?_) y3.2.1⟩⟩
      · rcases c4 j hj with z | ⟨a, e, g, w1, w2, w3, w4⟩
        · exact Or.inl z
        · have := w3.2.2.2.2.2.2.2
          exact Or.inr ⟨a, e, g, w1, w2, hk w3, by omega, by omega⟩
      · rw [e6 q (by omega) (by omega) (by omega)]; exact c10 q (by omega)
      · rw [hm.2.2.2.2.2.2.2.2.1 i (by omega), y2]; decide
      · rw [fmt_at, if_pos hk25]
        exact hm.2.2.2.2.2.2.2.2.2.1 i (by omega) y2 k hk25
end ST4
