/-! the class draws: its weights at a, the next weights at a + 1 -/
def dmk (M : zMe) (a : Nat) (f g : Nat → Int64) : zMe := (fun q => if q = a then some (lgA 5 f) else if q = a + 1 then some (lgA 5 g) else M.1 q, M.2)
section DM
variable {M : zMe} {a : Nat} {f g : Nat → Int64}
theorem dm_0 : (dmk M a f g).1 a = some (lgA 5 f) := by simp [dmk]
theorem dm_1 : (dmk M a f g).1 (a + 1) = some (lgA 5 g) := by simp [dmk]
theorem dm_out {q : Nat} (h : q < a ∨ a + 1 < q) : (dmk M a f g).1 q = M.1 q := by simp [dmk, show ¬ q = a by omega, show ¬ q = a + 1 by omega]
theorem dm_s0 (f' : Nat → Int64) : zSet (dmk M a f g) a (lgA 5 f') = dmk M a f' g := by
  refine zMe_ext (fun q => ?_) rfl
  by_cases h : q = a
  · subst h; simp [zSet, dmk]
  · simp [zSet, dmk, h]
theorem dm_s1 (g' : Nat → Int64) : zSet (dmk M a f g) (a + 1) (lgA 5 g') = dmk M a f g' := by
  refine zMe_ext (fun q => ?_) rfl
  by_cases h : q = a + 1
  · subst h; simp [zSet, dmk]
  · simp [zSet, dmk, h]
theorem dm_r0 {k : Nat} (h : k < 5) : zrL (dmk M a f g) a (nI k) = some (f k) := rL_at dm_0 h (by omega)
theorem dm_r1 {k : Nat} (h : k < 5) : zrL (dmk M a f g) (a + 1) (nI k) = some (g k) := rL_at dm_1 h (by omega)
theorem dm_w0 {k : Nat} {v : Int64} (h : k < 5) : zwL (dmk M a f g) a (nI k) v = some (dmk M a (vp_updL f k v) g) := by rw [wL_at dm_0 h (by omega), dm_s0]
theorem dm_w1 {k : Nat} {v : Int64} (h : k < 5) : zwL (dmk M a f g) (a + 1) (nI k) v = some (dmk M a f (vp_updL g k v)) := by rw [wL_at dm_1 h (by omega), dm_s1]
theorem dm_self (h0 : M.1 a = some (lgA 5 f)) (h1 : M.1 (a + 1) = some (lgA 5 g)) : dmk M a f g = M := by
  refine zMe_ext (fun q => ?_) rfl
  by_cases e0 : q = a
  · subst e0; rw [h0]; exact dm_0
  · by_cases e1 : q = a + 1
    · subst e1; rw [h1]; exact dm_1
    · exact dm_out (by omega)
theorem dm_cp : zcp (dmk M a f g) (a + 1) 0 a 0 5 = some (dmk M a (va_cpy g f 0 0 5) g) := by
  unfold zcp
  rw [dm_0, dm_1]
  simp only [lgA]
  rw [if_neg (by decide)]
  congr 1
  exact dm_s0 _
theorem dm_fill0 (v : Int64) : ∃ f', f_J7_fill_d0a16 a v (dmk M a f g) = some (dmk M a f' g) ∧ ∀ k, k < 5 → f' k = v := by
  have lp := loopC (S := Nat → Int64) (S' := Nat → Int64) (R := Option zMe) (fun fuel j s => f_J7_fill_d0a16_b6 fuel a v (nI j) (nI 5) (dmk M a s g)) (fun s => some (dmk M a s g)) 5 (fun j s => ∀ k, k < j → s k = v) (fun s => ∀ k, k < 5 → s k = v) (by omega) (fun fu j s hj hI => ?_) (fun fu s hI => ?_) f (fun k hk => by omega)
  · obtain ⟨f', e, y⟩ := lp
    refine ⟨f', ?_, y⟩
    rw [f_J7_fill_d0a16, ln_at dm_0, Option.bind_some]
    exact e
  · refine ⟨vp_updL s j v, ?_, fun k hk => ?_⟩
    · show f_J7_fill_d0a16_b6 (fu + 1) a v (nI j) (nI 5) (dmk M a s g) = f_J7_fill_d0a16_b6 fu a v (nI (j + 1)) (nI 5) (dmk M a (vp_updL s j v) g)
      rw [f_J7_fill_d0a16_b6, if_neg (nI_ge hj (by omega)), dm_w0 hj, Option.bind_some, zlet, nI_1]
    · by_cases z : k = j
      · rw [z, uL_s]
      · rw [uL_n _ _ z]; exact hI k (by omega)
  · refine ⟨s, ?_, hI⟩
    show f_J7_fill_d0a16_b6 (fu + 1) a v (nI 5) (nI 5) (dmk M a s g) = _
    rw [f_J7_fill_d0a16_b6, if_pos (nI_le (Nat.le_refl 5) (by omega))]
theorem dm_fill1 (v : Int64) : ∃ g', f_J7_fill_d0a16 (a + 1) v (dmk M a f g) = some (dmk M a f g') ∧ ∀ k, k < 5 → g' k = v := by
  have lp := loopC (S := Nat → Int64) (S' := Nat → Int64) (R := Option zMe) (fun fuel j s => f_J7_fill_d0a16_b6 fuel (a + 1) v (nI j) (nI 5) (dmk M a f s)) (fun s => some (dmk M a f s)) 5 (fun j s => ∀ k, k < j → s k = v) (fun s => ∀ k, k < 5 → s k = v) (by omega) (fun fu j s hj hI => ?_) (fun fu s hI => ?_) g (fun k hk => by omega)
  · obtain ⟨f', e, y⟩ := lp
    refine ⟨f', ?_, y⟩
    rw [f_J7_fill_d0a16, ln_at dm_1, Option.bind_some]
    exact e
  · refine ⟨vp_updL s j v, ?_, fun k hk => ?_⟩
    · show f_J7_fill_d0a16_b6 (fu + 1) (a + 1) v (nI j) (nI 5) (dmk M a f s) = f_J7_fill_d0a16_b6 fu (a + 1) v (nI (j + 1)) (nI 5) (dmk M a f (vp_updL s j v))
      rw [f_J7_fill_d0a16_b6, if_neg (nI_ge hj (by omega)), dm_w1 hj, Option.bind_some, zlet, nI_1]
    · by_cases z : k = j
      · rw [z, uL_s]
      · rw [uL_n _ _ z]; exact hI k (by omega)
  · refine ⟨s, ?_, hI⟩
    show f_J7_fill_d0a16_b6 (fu + 1) (a + 1) v (nI 5) (nI 5) (dmk M a f s) = _
    rw [f_J7_fill_d0a16_b6, if_pos (nI_le (Nat.le_refl 5) (by omega))]
end DM
section STA
variable {M : zMe} {x : Nat} {A Z : Nat → Nat} {sr h d : Nat} {P : PS} {f : Nat → Option Nat} {tx : Nat → Int32} {fi : Nat → Option Nat}
theorem CJ.draws (hc : CJ M x P A Z sr h d f tx fi) (u v : Nat → Int64) : CJ (dmk M (x + 29) u v) x P A Z sr h d f tx fi ∧ Mk M (dmk M (x + 29) u v) x := by
  have hw := hc.wk
  have hm := hc.m44
  have ho : ∀ q, (q < x + 29 ∨ x + 30 < q) → (dmk M (x + 29) u v).1 q = M.1 q := fun q hq => dm_out (by omega)
  have hf : WFr M (dmk M (x + 29) u v) x A := ⟨Nat.le_refl _, fun q q1 q2 q3 q4 => ho q (by omega), fun hf q hq => by
    have hq' : M.2.1 ≤ q := hq
    rw [ho q (by omega)]
    exact hf q hq'⟩
  refine ⟨hc.work hf ?_, hf.mk hw hm⟩
  obtain ⟨⟨J, I, fe, fl, fs, w, r0, r1, r2, r3, r4, r5⟩, w2, w3, w4, w5, w6, w7, w8⟩ := hw
  have a0 := w8 0 (by omega)
  have a1 := w8 1 (by omega)
  have a2 := w8 2 (by omega)
  refine ⟨⟨J, I, fe, fl, fs, w, ?_, ?_, ?_, ?_, ?_, r5⟩, w2.kept (fun q a b => ho q (by omega)), w3.kept (fun q a b => ho q (by omega)), ?_, ?_, ⟨u, dm_0⟩, ⟨v, dm_1⟩, w8⟩
  · rw [ho _ (by omega)]; exact r0
  · rw [ho _ (by omega)]; exact r1
  · rw [ho _ (by omega)]; exact r2
  · rw [ho _ (by omega)]; exact r3
  · rw [ho _ (by omega)]; exact r4
  · rw [ho _ (by omega)]; exact w4
  · rw [ho _ (by omega)]; exact w5
theorem CJ.g12 (hc : CJ M x P A Z sr h d f tx fi) : zgN M x [11] 12 = some (x + 29) := by simp [zgN, zg, hc.1, xo]
theorem CJ.g13 (hc : CJ M x P A Z sr h d f tx fi) : zgN M x [11] 13 = some (x + 30) := by simp [zgN, zg, hc.1, xo]
/-- one whistle -/
theorem c_drawOne (hc : CJ M x P A Z sr h d f tx fi) {k a t r : Nat} (hk : k < P.1 6) (ha : f k = some a) (ht : t < 12) (hr : r ≤ 10) {u v : Nat → Int64} {wf : Nat → Nat} (hu : ∀ p, p < 5 → u p = lN (wf p)) : ∃ u' v' wf', f_X11_drawOne x a (nI t) (nI r) (dmk M (x + 29) u v) = some (dmk M (x + 29) u' v') ∧ (∀ p, p < 5 → u' p = lN (wf' p)) ∧ ∀ e, sE wf' e (P.1 0) = sE wf (fun p => (10 - r) * e (gog (P.1 1) (dg P.1 k) 0 t p) + r * e (gog (P.1 1) (dg P.1 k) 1 t p)) (P.1 0) := by
  have hW := hc.wb
  have hD := hW.dw k hk
  have hn5 := hW.n5
  have hs32 := hW.sh32
  have hdl : ∀ j, j < 6 → dg P.1 k j < 2 ^ 31 := fun j hj => Nat.lt_trans (hD.lt hn5 j hj) (by decide)
  have cj : ∀ v', CJ (dmk M (x + 29) u v') x P A Z sr h d f tx fi := fun v' => (hc.draws u v').1
  have dgc : ∀ v', (dmk M (x + 29) u v').1 a = some (dogCell (dg P.1 k)) := fun v' => by
    obtain ⟨a', b1, b2⟩ := (cj v').dogs k hk
    rw [ha] at b1
    injection b1 with b1
    rw [b1]; exact b2
  have nx : ∀ v' w p, w < 2 → p < 5 → fv_X5_next a (nI p) (nI w) (nI t) (nI (P.1 1)) (dmk M (x + 29) u v') = some (nI (gog (P.1 1) (dg P.1 k) w t p), dmk M (x + 29) u v') := fun v' w p hw hp => c_next (dgc v') hD.1 hdl (by omega) (by omega) hw (by omega)
  have e29 : x + 30 = x + 29 + 1 := rfl
  obtain ⟨v0, f1, f2⟩ := dm_fill1 (M := M) (a := x + 29) (f := u) (g := v) (0 : Int64)
  have lp := loopC (S := (Nat → Nat) × (Nat → Int64)) (S' := (Nat → Nat) × (Nat → Int64)) (R := Option zMe) (fun fuel j s => f_X11_drawOne_b11 fuel x a (nI t) (nI r) (nI j) (dmk M (x + 29) u s.2)) (fun s => some (dmk M (x + 29) (va_cpy s.2 u 0 0 5) s.2)) (P.1 0) (fun j s => (∀ p, p < 5 → s.2 p = lN (s.1 p)) ∧ ∀ e, sE s.1 e (P.1 0) = sE wf (fun p => (10 - r) * e (gog (P.1 1) (dg P.1 k) 0 t p) + r * e (gog (P.1 1) (dg P.1 k) 1 t p)) j) (fun s => (∀ p, p < 5 → s.2 p = lN (s.1 p)) ∧ ∀ e, sE s.1 e (P.1 0) = sE wf (fun p => (10 - r) * e (gog (P.1 1) (dg P.1 k) 0 t p) + r * e (gog (P.1 1) (dg P.1 k) 1 t p)) (P.1 0)) (by omega) (fun fu j s hj hI => ?_) (fun fu s hI => ?_) (fun _ => 0, v0) ⟨fun p hp => f2 p hp, fun e => by
    show sE (fun _ => 0) e (P.1 0) = 0
    have := sE_le (w := fun _ => 0) (e := e) (c := 0) (P.1 0) (fun p hp => by simp)
    omega⟩
  · obtain ⟨⟨wf', v'⟩, e, y1, y2⟩ := lp
    refine ⟨va_cpy v' u 0 0 5, v', wf', ?_, fun p hp => ?_, y2⟩
    · rw [f_X11_drawOne, (cj v).g13, Option.bind_some, e29, f1, Option.bind_some]
      exact e
    · unfold va_cpy
      rw [if_pos (by omega), show 0 + (p - 0) = p by omega]
      exact y1 p hp
  · obtain ⟨nw, g⟩ := s
    obtain ⟨i1, i2⟩ := hI
    have i1 : ∀ p, p < 5 → g p = lN (nw p) := i1
    have i2 : ∀ e, sE nw e (P.1 0) = sE wf (fun p => (10 - r) * e (gog (P.1 1) (dg P.1 k) 0 t p) + r * e (gog (P.1 1) (dg P.1 k) 1 t p)) j := i2
    have l0 := gog_lt (sh := P.1 1) (t := t) hD (w := 0) (by omega) hj
    have l1 := gog_lt (sh := P.1 1) (t := t) hD (w := 1) (by omega) hj
    have n0 := nx g 0 j (by omega) (by omega)
    have n1 := nx g 1 j (by omega) (by omega)
    obtain ⟨a0, ha0⟩ : ∃ a0, a0 = gog (P.1 1) (dg P.1 k) 0 t j := ⟨_, rfl⟩
    obtain ⟨b0, hb0⟩ : ∃ b0, b0 = gog (P.1 1) (dg P.1 k) 1 t j := ⟨_, rfl⟩
    rw [← ha0] at l0 n0
    rw [← hb0] at l1 n1
    have n0 : fv_X5_next a (nI j) 0 (nI t) (nI (P.1 1)) (dmk M (x + 29) u g) = _ := n0
    have n1 : fv_X5_next a (nI j) 1 (nI t) (nI (P.1 1)) (dmk M (x + 29) u g) = _ := n1
    obtain ⟨w1, hw1⟩ : ∃ w1, w1 = upN nw a0 (nw a0 + (10 - r) * wf j) := ⟨_, rfl⟩
    obtain ⟨g1, hg1⟩ : ∃ g1, g1 = vp_updL g a0 (lN (nw a0 + (10 - r) * wf j)) := ⟨_, rfl⟩
    have v1 : ∀ p, p < 5 → g1 p = lN (w1 p) := fun p hp => by rw [hg1, hw1]; exact updL_v i1 p hp
    obtain ⟨w2, hw2⟩ : ∃ w2, w2 = upN w1 b0 (w1 b0 + r * wf j) := ⟨_, rfl⟩
    obtain ⟨g2, hg2⟩ : ∃ g2, g2 = vp_updL g1 b0 (lN (w1 b0 + r * wf j)) := ⟨_, rfl⟩
    have v2 : ∀ p, p < 5 → g2 p = lN (w2 p) := fun p hp => by rw [hg2, hw2]; exact updL_v v1 p hp
    refine ⟨(w2, g2), ?_, v2, fun e => ?_⟩
    · show f_X11_drawOne_b11 (fu + 1) x a (nI t) (nI r) (nI j) (dmk M (x + 29) u g) = f_X11_drawOne_b11 fu x a (nI t) (nI r) (nI (j + 1)) (dmk M (x + 29) u g2)
      have cg := cj g
      have cg1 := cj g1
      have hg := c_g cg.hl.1
      have pl : ∀ p, p < P.1 0 → f_X2_isPlace h (nI p) (dmk M (x + 29) u g) = some (1, dmk M (x + 29) u g) := fun p hp => by
        rw [c_isPlace cg.hl.1]
        show some (cpl (nI (P.1 0)) (nI p), dmk M (x + 29) u g) = _
        rw [cpl_ok hp (by omega)]
      have x1 : lN (nw a0) + (10 - nI r).toInt64 * lN (wf j) = lN (nw a0 + (10 - r) * wf j) := by rw [n_toL10 r (by omega), lN_mul, lN_add]
      have x2 : lN (w1 b0) + (nI r).toInt64 * lN (wf j) = lN (w1 b0 + r * wf j) := by rw [n_toL r (by omega), lN_mul, lN_add]
      rw [f_X11_drawOne_b11, c_h cg.1, Option.bind_some, hg.1, Option.bind_some, if_neg (nI_ge hj (by omega)), Option.bind_some, hg.2.1, Option.bind_some, n0, Option.bind_some, c_h cg.1, Option.bind_some, hg.2.1, Option.bind_some, n1, Option.bind_some, c_h cg.1, Option.bind_some, c_obh cg.hl.1, Option.bind_some, pl a0 l0, Option.bind_some, if_neg one0, c_h cg.1, Option.bind_some, c_obh cg.hl.1, Option.bind_some, pl b0 l1, Option.bind_some, if_neg one0, cg.g13, Option.bind_some, e29, dm_r1 (by omega), Option.bind_some, cg.g12, Option.bind_some, dm_r0 (by omega), Option.bind_some, i1 a0 (by omega), hu j (by omega), x1, dm_w1 (by omega), Option.bind_some, ← hg1, cg1.g13, Option.bind_some, e29, dm_r1 (by omega), Option.bind_some, cg1.g12, Option.bind_some, dm_r0 (by omega), Option.bind_some, v1 b0 (by omega), hu j (by omega), x2, dm_w1 (by omega), Option.bind_some, ← hg2, f_X11_drawOne_b124, zlet, nI_1]
    · show sE w2 e (P.1 0) = _
      rw [sE, hw2, sE_up w1 e b0 _ _ l1, hw1, sE_up nw e a0 _ _ l0, i2 e, ← ha0, ← hb0, Nat.mul_add]
      have y1 : (10 - r) * wf j * e a0 = wf j * ((10 - r) * e a0) := by rw [Nat.mul_comm (10 - r) (wf j), Nat.mul_assoc]
      have y2 : r * wf j * e b0 = wf j * (r * e b0) := by rw [Nat.mul_comm r (wf j), Nat.mul_assoc]
      omega
  · obtain ⟨nw, g⟩ := s
    refine ⟨(nw, g), ?_, hI⟩
    show f_X11_drawOne_b11 (fu + 1) x a (nI t) (nI r) (nI (P.1 0)) (dmk M (x + 29) u g) = some (dmk M (x + 29) (va_cpy g u 0 0 5) g)
    have cg := cj g
    have hg := c_g cg.hl.1
    rw [f_X11_drawOne_b11, c_h cg.1, Option.bind_some, hg.1, Option.bind_some, if_pos (nI_le (Nat.le_refl _) (by omega)), cg.g13, Option.bind_some, cg.g12, Option.bind_some, e29, dm_cp, Option.bind_some]
end STA
