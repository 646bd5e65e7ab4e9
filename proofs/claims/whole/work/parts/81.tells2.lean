/-- what the first whistle is -/
def fwz (go : Nat → Nat → Nat → Nat) (n bk u : Nat) : Int32 := if pc5 u < 2 then -1 else if tkz go n bk 8 u = 99 then -5 else if nbz (tkz go n bk 7) (go 1 0) n bk u < nbz (tkz go n bk 7) (go 0 0) n bk u then 1 else 0
theorem pc5_lt (s : Nat) : pc5 s ≤ 5 := by unfold pc5; omega
theorem pc5_31 (s : Nat) : pc5 s < 2 ^ 31 := by have := pc5_lt s; omega
section MTF
variable {N : zMe} {m : Nat} {sc : Nat → Int32} {lg : Nat → Int64} {ar : Nat → Nat → Int32} {en : Nat → Int64} {B : Nat → Nat}
theorem m_first (hB : Bk (ar 0) B) (hW : WB B) {d : Nat} (hd : d < B 6) {u : Nat} (hu : u < 2 ^ B 0) {g : Nat → Int32} (hg : TkT (gog (B 1) (dg B d)) (B 0) (B 3) 0 g) : f_X12_tells_b136 m (nI d) (nI u) (mem10 N m sc lg ar en g) = some (fwz (gog (B 1) (dg B d)) (B 0) (B 3) u, mem10 N m sc lg ar en g) := by
  have hn5 := hW.n5
  have h32 := p2_32 hn5
  have gu := hg 0 (Nat.le_refl _) (by omega) u hu
  rw [show 32 * 0 + u = u by omega, show 8 - 0 = 8 from rfl] at gu
  have tk := m10_tk (N := N) (m := m) (sc := sc) (lg := lg) (en := en) hB hW hd (t := 0) (w := 0) (s := u) (by omega) (by omega) hu (T := tkz (gog (B 1) (dg B d)) (B 0) (B 3) 7) (g := g) (fun v hv => hg (0 + 1) (by omega) (by omega) v hv) (fun v => tkz_le _ _ _ _ _)
  rw [nI_0] at tk
  unfold fwz
  by_cases hp : pc5 u < 2
  · rw [if_pos hp, f_X12_tells_b136, m_bits, Option.bind_some, mbits_5 u (by omega), if_neg (show ¬ (2 : Int32) ≤ nI (pc5 u) from nI_ge (b := 2) hp (by omega))]
  · have l8 := tkz_le (gog (B 1) (dg B d)) (B 0) (B 3) 8 u
    have k8 : tkz (gog (B 1) (dg B d)) (B 0) (B 3) 8 u = mnz (nbz (tkz (gog (B 1) (dg B d)) (B 0) (B 3) 7) (gog (B 1) (dg B d) 0 0) (B 0) (B 3) u) (nbz (tkz (gog (B 1) (dg B d)) (B 0) (B 3) 7) (gog (B 1) (dg B d) 1 0) (B 0) (B 3) u) := tkz_8 _ _ _ (t := 0) (by omega) hp
    have n0 := nbz_le (tkz_le (gog (B 1) (dg B d)) (B 0) (B 3) 7) (gog (B 1) (dg B d) 0 0) (B 0) (B 3) u
    have e99 : (nI (tkz (gog (B 1) (dg B d)) (B 0) (B 3) 8 u) = 99) = (tkz (gog (B 1) (dg B d)) (B 0) (B 3) 8 u = 99) := propext (nI_eq (b := 99) (by omega) (by omega))
    rw [if_neg hp, f_X12_tells_b136, m_bits, Option.bind_some, mbits_5 u (by omega), if_pos (show (2 : Int32) ≤ nI (pc5 u) from nI_le (a := 2) (by omega) (pc5_31 u)), m10_19, Option.bind_some, m10_r g (by omega), Option.bind_some, m10_ob, Option.bind_some, tk, Option.bind_some, m10_19, Option.bind_some, m10_r g (by omega), Option.bind_some, gu, f_X12_tells_b190, f_X12_tells_b190, f_X12_tells_b190]
    simp only [e99, nI_eq (show nbz (tkz (gog (B 1) (dg B d)) (B 0) (B 3) 7) (gog (B 1) (dg B d) 0 0) (B 0) (B 3) u < 2 ^ 31 by omega) (show tkz (gog (B 1) (dg B d)) (B 0) (B 3) 8 u < 2 ^ 31 by omega)]
    by_cases h9 : tkz (gog (B 1) (dg B d)) (B 0) (B 3) 8 u = 99
    · rw [if_pos h9, if_pos h9]
    · rw [if_neg h9, if_neg h9]
      by_cases hz : nbz (tkz (gog (B 1) (dg B d)) (B 0) (B 3) 7) (gog (B 1) (dg B d) 1 0) (B 0) (B 3) u < nbz (tkz (gog (B 1) (dg B d)) (B 0) (B 3) 7) (gog (B 1) (dg B d) 0 0) (B 0) (B 3) u
      · rw [if_pos hz, if_neg (by rw [k8, mnz, if_pos hz]; omega)]
      · rw [if_neg hz, if_pos (by rw [k8, mnz, if_neg hz])]
end MTF
/-! the class's teller: its object at a, its array at a + 1 -/
def tmk (L : zMe) (a : Nat) (v : Int32) (g : Nat → Int32) : zMe := (fun q => if q = a then some (.inr (10, [.ref (a + 1), .int v])) else if q = a + 1 then some (.inl (.int, 288, .inl g)) else L.1 q, L.2)
/-- a lane that has learnt -/
def LnK (L : zMe) (la n sh : Nat) (D : Nat → Nat) : Prop := ∃ nn st en me, L.1 la = some (.inr (4, lnF la nn)) ∧ L.1 (la + 1) = some (.inl (.int, 320, .inl st)) ∧ L.1 (la + 2) = some (.inl (.int, 672, .inl en)) ∧ L.1 (la + 3) = some (.inl (.int, 5, .inl me)) ∧ Lrn st sh D n
theorem LnK.behind {L : zMe} {la n sh : Nat} {D : Nat → Nat} (h : LnK L la n sh D) (hD : DW n D) (hn : n ≤ 5) {t w s : Nat} (ht : t < 2 ^ 31) (hw : w < 2) (hs : s < 2 ^ n) : f_X4_behind la (nI t) (nI w) (nI s) L = some (nI (img (gog sh D w t) n s), L) := by
  obtain ⟨nn, st, en, me, h0, h1, h2, h3, h4⟩ := h
  have e := lm_self h0 h1 h2 h3
  have := l_behind (M := L) (a := la) (nn := nn) (en := en) (me := me) h4 hD hn ht hw hs
  rw [e] at this
  exact this
theorem LnK.ob {L : zMe} {la n sh : Nat} {D : Nat → Nat} (h : LnK L la n sh D) : zob L la 4 = some () := by
  obtain ⟨nn, st, en, me, h0, -⟩ := h
  simp [zob, h0]
section TM
variable {L : zMe} {a : Nat} {v : Int32} {g : Nat → Int32}
theorem tm_0 : (tmk L a v g).1 a = some (.inr (10, [.ref (a + 1), .int v])) := by simp [tmk]
theorem tm_1 : (tmk L a v g).1 (a + 1) = some (.inl (.int, 288, .inl g)) := by simp [tmk]
theorem tm_out {q : Nat} (h : q < a ∨ a + 1 < q) : (tmk L a v g).1 q = L.1 q := by simp [tmk, show ¬ q = a by omega, show ¬ q = a + 1 by omega]
theorem tm_ob : zob (tmk L a v g) a 10 = some () := by simp [zob, tm_0]
theorem tm_g0 : zgN (tmk L a v g) a [10] 0 = some (a + 1) := by simp [zgN, zg, tm_0]
theorem tm_g1 : zgI (tmk L a v g) a [10] 1 = some v := by simp [zgI, zg, tm_0]
theorem tm_p1 {u : Int32} : zpI (tmk L a v g) a [10] 1 u = some (tmk L a u g) := by
  simp only [zpI, zp, tm_0]
  rw [if_pos (by decide)]
  congr 1
  refine zMe_ext (fun q => ?_) rfl
  by_cases h : q = a
  · subst h; simp [zSet, tmk]
  · simp [zSet, tmk, h]
theorem tm_r {k : Nat} (h : k < 288) : zrI (tmk L a v g) (a + 1) (nI k) = some (g k) := by
  simp only [zrI, tm_1]
  rw [if_neg (nI_in h (by omega)), nI_clamp (by omega)]
theorem tm_l : zln (tmk L a v g) (a + 1) = some 288 := by simp [zln, tm_1]
theorem tm_w {k : Nat} {u : Int32} (h : k < 288) : zwI (tmk L a v g) (a + 1) (nI k) u = some (tmk L a v (upd g k u)) := by
  simp only [zwI, tm_1]
  rw [if_neg (nI_in h (by omega)), nI_clamp (by omega)]
  congr 1
  refine zMe_ext (fun q => ?_) rfl
  by_cases h : q = a + 1
  · subst h; simp [zSet, tmk]
  · simp [zSet, tmk, h]
theorem tm_self (h0 : L.1 a = some (.inr (10, [.ref (a + 1), .int v]))) (h1 : L.1 (a + 1) = some (.inl (.int, 288, .inl g))) : tmk L a v g = L := by
  refine zMe_ext (fun q => ?_) rfl
  by_cases e0 : q = a
  · subst e0; rw [h0]; exact tm_0
  · by_cases e1 : q = a + 1
    · subst e1; rw [h1]; exact tm_1
    · exact tm_out (by omega)
theorem tm_ln {la n sh : Nat} {D : Nat → Nat} (h : LnK L la n sh D) (hla : la + 3 < a) : LnK (tmk L a v g) la n sh D := by
  obtain ⟨nn, st, en, me, h0, h1, h2, h3, h4⟩ := h
  exact ⟨nn, st, en, me, by rw [tm_out (by omega)]; exact h0, by rw [tm_out (by omega)]; exact h1, by rw [tm_out (by omega)]; exact h2, by rw [tm_out (by omega)]; exact h3, h4⟩
theorem t_few {t u : Nat} (h : 32 * t + u < 288) : f_X10_fewestFor a (nI t) (nI u) (tmk L a v g) = some (g (32 * t + u), tmk L a v g) := by
  have ei : nI t * 32 + nI u = nI (32 * t + u) := by rw [show nI t * 32 = nI (t * 32) from pk_mul t 32, nI_add, Nat.mul_comm t 32]
  rw [f_X10_fewestFor, ei, zlet, if_neg (nI_pos (by omega)), tm_g0, Option.bind_some, tm_l, Option.bind_some, if_neg (show ¬ (288 : Int32) ≤ nI (32 * t + u) from nI_ge (b := 288) h (by omega)), Option.bind_some, tm_r h, Option.bind_some, f_X10_fewestFor_b31]
variable {la n sh bk : Nat} {D : Nat → Nat}
theorem t_need (hK : LnK L la n sh D) (hla : la + 3 < a) (hD : DW n D) (hn : n ≤ 5) (hbk : bk < 2 ^ n) {t w s : Nat} (ht : t < 8) (hw : w < 2) (hs : s < 2 ^ n) {T : Nat → Nat} (hT : ∀ u, u < 2 ^ n → g (32 * (t + 1) + u) = nI (T u)) (hT9 : ∀ u, T u ≤ 99) : f_X10_neededBy a la (nI t) (nI w) (nI s) (tmk L a (nI bk) g) = some (nI (nbz T (gog sh D w t) n bk s), tmk L a (nI bk) g) := by
  have h32 := p2_32 hn
  have hK' := tm_ln (v := nI bk) (g := g) hK hla
  have bh := hK'.behind hD hn (t := t) (w := w) (s := s) (by omega) hw hs
  have hl := img_lt (fun p hp => gog_lt hD hw hp (sh := sh) (t := t)) s
  unfold nbz
  obtain ⟨u, hu⟩ : ∃ u, u = img (gog sh D w t) n s := ⟨_, rfl⟩
  rw [← hu] at bh hl ⊢
  have l1 : u &&& bk ≤ u := Nat.and_le_left
  have l2 : u &&& (31 ^^^ bk) ≤ u := Nat.and_le_left
  have q1 := hT9 (u &&& bk)
  have q2 := hT9 (u &&& (31 ^^^ bk))
  have p1 := pc5_31 u
  have p2 := pc5_31 s
  rw [f_X10_neededBy, hK'.ob, Option.bind_some, bh, Option.bind_some, c_bits (by omega), Option.bind_some, c_bits (by omega), Option.bind_some]
  by_cases hc : pc5 u < pc5 s
  · rw [if_neg (nI_ge hc (by omega)), if_pos hc]
    rfl
  · have f1 : f_X10_fewestFor a (nI (t + 1)) (nI (u &&& bk)) (tmk L a (nI bk) g) = some (nI (T (u &&& bk)), tmk L a (nI bk) g) := by rw [t_few (by omega), hT _ (by omega)]
    have f2 : f_X10_fewestFor a (nI (t + 1)) (nI (u &&& (31 ^^^ bk))) (tmk L a (nI bk) g) = some (nI (T (u &&& (31 ^^^ bk))), tmk L a (nI bk) g) := by rw [t_few (by omega), hT _ (by omega)]
    rw [if_pos (nI_le (by omega) (by omega)), if_neg hc, tm_g1, Option.bind_some, tm_ob, Option.bind_some, n_and, nI_1, f1, Option.bind_some, tm_g1, Option.bind_some, tm_ob, Option.bind_some, n_andn (by omega) (by omega), f2, Option.bind_some]
    have ev : (if nI (T (u &&& bk)) < nI (T (u &&& (31 ^^^ bk))) then nI (T (u &&& (31 ^^^ bk))) else nI (T (u &&& bk))) = nI (mxz (T (u &&& bk)) (T (u &&& (31 ^^^ bk)))) := by
      unfold mxz
      by_cases hz : T (u &&& bk) < T (u &&& (31 ^^^ bk))
      · rw [if_pos (nI_lt hz (by omega)), if_pos hz]
      · rw [if_neg (nI_nlt (by omega) (by omega)), if_neg hz]
    have hm := mxz_le q1 q2
    have e99 : (nI (mxz (T (u &&& bk)) (T (u &&& (31 ^^^ bk)))) = 99) = (mxz (T (u &&& bk)) (T (u &&& (31 ^^^ bk))) = 99) := propext (nI_eq (b := 99) (by omega) (by omega))
    rw [ev, zlet, f_X10_neededBy_b77, f_X10_neededBy_b77, nI_1]
    simp only [e99]
    split <;> rfl
/-- one set -/
theorem t_one (k9 : Nat → Nat → Int32 → Int32 → zMe → Option zMe) (k17 : Nat → Nat → Int32 → Int32 → Int32 → zMe → Option zMe) (x2 : Int32) (hK : LnK L la n sh D) (hla : la + 3 < a) (hD : DW n D) (hn : n ≤ 5) (hbk : bk < 2 ^ n) {t s : Nat} (ht : t ≤ 8) (hs : s < 2 ^ n) (hT : t < 8 → ∀ u, u < 2 ^ n → g (32 * (t + 1) + u) = nI (tkz (gog sh D) n bk (8 - (t + 1)) u)) : f_X10_weigh_b38 k9 k17 a la x2 (nI t) (nI s) (nI (if pc5 s < 2 then 0 else 99)) (tmk L a (nI bk) g) = k17 a la x2 (nI t) (nI (s + 1)) (tmk L a (nI bk) (upd g (32 * t + s) (nI (tkz (gog sh D) n bk (8 - t) s)))) := by
  have h32 := p2_32 hn
  have e79 : ∀ v, f_X10_weigh_b79 k9 k17 a la x2 (nI t) (nI s) v (tmk L a (nI bk) g) = k17 a la x2 (nI t) (nI (s + 1)) (tmk L a (nI bk) (upd g (32 * t + s) v)) := fun v => by
    have ei : nI t * 32 + nI s = nI (32 * t + s) := by rw [show nI t * 32 = nI (t * 32) from pk_mul t 32, nI_add, Nat.mul_comm t 32]
    rw [f_X10_weigh_b79, tm_g0, Option.bind_some, ei, tm_w (by omega), Option.bind_some, zlet, nI_1]
  by_cases hp : pc5 s < 2
  · rw [if_pos hp, tkz_s _ _ _ _ hp, f_X10_weigh_b38, if_neg (show ¬ nI 0 = 99 by decide), e79]
  · rw [if_neg hp, f_X10_weigh_b38, if_pos (show nI 99 = 99 from rfl)]
    by_cases h8 : t < 8
    · have n0 := t_need hK hla hD hn hbk h8 (w := 0) (by omega) hs (hT h8) (fun u => tkz_le _ _ _ _ _)
      have n1 := t_need hK hla hD hn hbk h8 (w := 1) (by omega) hs (hT h8) (fun u => tkz_le _ _ _ _ _)
      have l0 := nbz_le (tkz_le (gog sh D) n bk (8 - (t + 1))) (gog sh D 0 t) n bk s
      have l1 := nbz_le (tkz_le (gog sh D) n bk (8 - (t + 1))) (gog sh D 1 t) n bk s
      rw [nI_0] at n0
      have n1 : f_X10_neededBy a la (nI t) 1 (nI s) (tmk L a (nI bk) g) = _ := n1
      rw [if_neg (show ¬ (8 : Int32) ≤ nI t from nI_ge (b := 8) h8 (by omega)), tm_ob, Option.bind_some, n0, Option.bind_some, tm_ob, Option.bind_some, n1, Option.bind_some]
      have ev : (if nI (nbz (tkz (gog sh D) n bk (8 - (t + 1))) (gog sh D 1 t) n bk s) < nI (nbz (tkz (gog sh D) n bk (8 - (t + 1))) (gog sh D 0 t) n bk s) then nI (nbz (tkz (gog sh D) n bk (8 - (t + 1))) (gog sh D 1 t) n bk s) else nI (nbz (tkz (gog sh D) n bk (8 - (t + 1))) (gog sh D 0 t) n bk s)) = nI (tkz (gog sh D) n bk (8 - t) s) := by
        rw [tkz_8 _ _ _ h8 hp]
        unfold mnz
        by_cases hz : nbz (tkz (gog sh D) n bk (8 - (t + 1))) (gog sh D 1 t) n bk s < nbz (tkz (gog sh D) n bk (8 - (t + 1))) (gog sh D 0 t) n bk s
        · rw [if_pos (nI_lt hz (by omega)), if_pos hz]
        · rw [if_neg (nI_nlt (by omega) (by omega)), if_neg hz]
      rw [ev, zlet, e79]
    · have e8 : t = 8 := by omega
      rw [if_pos (show (8 : Int32) ≤ nI t from nI_le (a := 8) (by omega) (by omega)), e79, e8, show 8 - 8 = 0 from rfl, tkz, if_neg hp]
theorem t_row (k9 : Nat → Nat → Int32 → Int32 → zMe → Option zMe) (hK : LnK L la n sh D) (hla : la + 3 < a) (hD : DW n D) (hn : n ≤ 5) (hbk : bk < 2 ^ n) {t : Nat} (ht : t ≤ 8) (hT : TkT (gog sh D) n bk (t + 1) g) : ∃ g', f_X10_weigh_b17 k9 zfu a la (nI (2 ^ n - 1)) (nI t) (nI 0) (tmk L a (nI bk) g) = k9 a la (nI (2 ^ n - 1)) (nI t + (-1)) (tmk L a (nI bk) g') ∧ TkT (gog sh D) n bk t g' := by
  have h32 := p2_32 hn
  have hpos := Nat.two_pow_pos n
  refine loopC (S := Nat → Int32) (S' := Nat → Int32) (R := Option zMe) (fun fuel j g => f_X10_weigh_b17 k9 fuel a la (nI (2 ^ n - 1)) (nI t) (nI j) (tmk L a (nI bk) g)) (fun g' => k9 a la (nI (2 ^ n - 1)) (nI t + (-1)) (tmk L a (nI bk) g')) (2 ^ n) (fun j g => TkT (gog sh D) n bk (t + 1) g ∧ ∀ u, u < j → g (32 * t + u) = nI (tkz (gog sh D) n bk (8 - t) u)) (fun g' => TkT (gog sh D) n bk t g') (by omega) (fun fu j g hj hI => ?_) (fun fu g hI => ?_) g ⟨hT, fun u hu => by omega⟩
  · refine ⟨upd g (32 * t + j) (nI (tkz (gog sh D) n bk (8 - t) j)), ?_, hI.1.up h32 hj _, fun u hu => ?_⟩
    · show f_X10_weigh_b17 k9 (fu + 1) a la (nI (2 ^ n - 1)) (nI t) (nI j) (tmk L a (nI bk) g) = f_X10_weigh_b17 k9 fu a la (nI (2 ^ n - 1)) (nI t) (nI (j + 1)) (tmk L a (nI bk) (upd g (32 * t + j) (nI (tkz (gog sh D) n bk (8 - t) j))))
      have a1 := t_one (g := g) k9 (f_X10_weigh_b17 k9 fu) (nI (2 ^ n - 1)) hK hla hD hn hbk ht hj (fun h8 u hu => hI.1 (t + 1) (Nat.le_refl _) (by omega) u hu)
      rw [f_X10_weigh_b17, if_neg (nI_nlt (by omega) (by omega)), c_bits (by omega), Option.bind_some]
      by_cases hp : pc5 j < 2
      · rw [if_pos hp] at a1
        rw [if_neg (show ¬ (1 : Int32) < nI (pc5 j) from nI_nlt (a := 1) (by omega) (by omega))]
        exact a1
      · rw [if_neg hp] at a1
        rw [if_pos (show (1 : Int32) < nI (pc5 j) from nI_lt (a := 1) (by omega) (pc5_31 j))]
        exact a1
    · by_cases e : u = j
      · rw [e, up_s]
      · rw [up_n _ _ (by omega)]
        exact hI.2 u (by omega)
  · refine ⟨g, ?_, fun t' h1 h2 u hu => ?_⟩
    · show f_X10_weigh_b17 k9 (fu + 1) a la (nI (2 ^ n - 1)) (nI t) (nI (2 ^ n)) (tmk L a (nI bk) g) = _
      rw [f_X10_weigh_b17, if_pos (nI_lt (by omega) (by omega)), zlet]
    · by_cases e : t' = t
      · rw [e]; exact hI.2 u hu
      · exact hI.1 t' (by omega) h2 u hu
theorem t_weigh (hK : LnK L la n sh D) (hla : la + 3 < a) (hD : DW n D) (hn : n ≤ 5) (hbk : bk < 2 ^ n) : ∃ g', f_X10_weigh a la (nI (2 ^ n - 1)) (nI bk) (tmk L a v g) = some (tmk L a (nI bk) g') ∧ TkT (gog sh D) n bk 0 g' := by
  rw [f_X10_weigh, tm_p1, Option.bind_some, show (8 : Int32) = nI (9 - 0) + (-1) from by decide]
  refine loopC (S := Nat → Int32) (S' := Nat → Int32) (R := Option zMe) (fun fuel j g => f_X10_weigh_b9 fuel a la (nI (2 ^ n - 1)) (nI (9 - j) + (-1)) (tmk L a (nI bk) g)) (fun g' => some (tmk L a (nI bk) g')) 9 (fun j g => TkT (gog sh D) n bk (9 - j) g) (fun g' => TkT (gog sh D) n bk 0 g') (by omega) (fun fu j g hj hI => ?_) (fun fu g hI => ?_) g (fun t' h1 h2 => by omega)
  · obtain ⟨t, ht⟩ : ∃ t, t = 8 - j := ⟨_, rfl⟩
    have e1 : nI (9 - j) + (-1) = nI t := by rw [show 9 - j = t + 1 by omega, pk_m1]
    have e2 : 9 - j = t + 1 := by omega
    have e3 : 9 - (j + 1) = t := by omega
    have hI : TkT (gog sh D) n bk (9 - j) g := hI
    rw [e2] at hI
    obtain ⟨g', g1, g2⟩ := t_row (f_X10_weigh_b9 fu) hK hla hD hn hbk (t := t) (by omega) hI
    refine ⟨g', ?_, by rw [e3]; exact g2⟩
    show f_X10_weigh_b9 (fu + 1) a la (nI (2 ^ n - 1)) (nI (9 - j) + (-1)) (tmk L a (nI bk) g) = f_X10_weigh_b9 fu a la (nI (2 ^ n - 1)) (nI (9 - (j + 1)) + (-1)) (tmk L a (nI bk) g')
    rw [e1, e3, f_X10_weigh_b9, if_neg (nI_pos (by omega))]
    exact g1
  · refine ⟨g, ?_, hI⟩
    show f_X10_weigh_b9 (fu + 1) a la (nI (2 ^ n - 1)) (nI (9 - 9) + (-1)) (tmk L a (nI bk) g) = _
    rw [f_X10_weigh_b9, if_pos (show nI (9 - 9) + (-1) < 0 by decide)]
theorem t_first (hK : LnK L la n sh D) (hla : la + 3 < a) (hD : DW n D) (hn : n ≤ 5) (hbk : bk < 2 ^ n) (hg : TkT (gog sh D) n bk 0 g) {u : Nat} (hu : u < 2 ^ n) : f_X10_firstWhistle a la (nI u) (tmk L a (nI bk) g) = some (fwz (gog sh D) n bk u, tmk L a (nI bk) g) := by
  have h32 := p2_32 hn
  have gu := hg 0 (Nat.le_refl _) (by omega) u hu
  have fe := t_few (L := L) (a := a) (v := nI bk) (g := g) (t := 0) (u := u) (by omega)
  rw [gu, show 8 - 0 = 8 from rfl, nI_0] at fe
  unfold fwz
  by_cases hp : pc5 u < 2
  · rw [if_pos hp, f_X10_firstWhistle, c_bits (by omega), Option.bind_some, if_neg (show ¬ (1 : Int32) < nI (pc5 u) from nI_nlt (a := 1) (by omega) (by omega))]
  · have n0 := t_need hK hla hD hn hbk (t := 0) (w := 0) (by omega) (by omega) hu (T := tkz (gog sh D) n bk 7) (fun v hv => hg (0 + 1) (by omega) (by omega) v hv) (fun u => tkz_le _ _ _ _ _)
    have n1 := t_need hK hla hD hn hbk (t := 0) (w := 1) (by omega) (by omega) hu (T := tkz (gog sh D) n bk 7) (fun v hv => hg (0 + 1) (by omega) (by omega) v hv) (fun u => tkz_le _ _ _ _ _)
    rw [nI_0] at n0 n1
    have n1 : f_X10_neededBy a la 0 1 (nI u) (tmk L a (nI bk) g) = _ := n1
    have l0 := nbz_le (tkz_le (gog sh D) n bk 7) (gog sh D 0 0) n bk u
    have l1 := nbz_le (tkz_le (gog sh D) n bk 7) (gog sh D 1 0) n bk u
    have l8 := tkz_le (gog sh D) n bk 8 u
    have e99 : (nI (tkz (gog sh D) n bk 8 u) = 99) = (tkz (gog sh D) n bk 8 u = 99) := propext (nI_eq (b := 99) (by omega) (by omega))
    rw [if_neg hp, f_X10_firstWhistle, c_bits (by omega), Option.bind_some, if_pos (show (1 : Int32) < nI (pc5 u) from nI_lt (a := 1) (by omega) (pc5_31 u)), tm_ob, Option.bind_some, fe, Option.bind_some, tm_ob, Option.bind_some, n0, Option.bind_some, tm_ob, Option.bind_some, n1, Option.bind_some, f_X10_firstWhistle_b48, f_X10_firstWhistle_b48]
    simp only [e99]
    by_cases h9 : tkz (gog sh D) n bk 8 u = 99
    · rw [if_pos h9, if_pos h9]
    · rw [if_neg h9, if_neg h9]
      by_cases hz : nbz (tkz (gog sh D) n bk 7) (gog sh D 1 0) n bk u < nbz (tkz (gog sh D) n bk 7) (gog sh D 0 0) n bk u
      · rw [if_pos (nI_lt hz (by omega)), if_pos hz]
      · rw [if_neg (nI_nlt (by omega) (by omega)), if_neg hz]
end TM
