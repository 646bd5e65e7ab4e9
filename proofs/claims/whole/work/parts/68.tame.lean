def CJ (M : zMe) (x : Nat) (P : PS) (A Z : Nat → Nat) (sr h d : Nat) (f : Nat → Option Nat) (tx : Nat → Int32) (fi : Nat → Option Nat) : Prop :=
  M.1 x = some (.inr (11, xo x h (nI P.2.1) P.2.2.1.1 P.2.2.1.2 (P.2.2.2.1 0) (P.2.2.2.1 1) (P.2.2.2.1 2))) ∧ Hl M x h d P.1 f ∧ M.1 (x + 3) = some (hlA fi) ∧
  (∀ i, i < 2 → (fi i = none ∧ P.2.2.2.2.2.1 i = false) ∨ ∃ a e g, fi i = some a ∧ P.2.2.2.2.2.1 i = true ∧ Hl M x a e (P.2.2.2.2.2.2 i) g ∧ a ≠ h ∧ e ≠ d) ∧
  M.1 (x + 4) = some (.inl (.byte, 200, .inl tx)) ∧ (∀ k, k < 200 → tx k &&& 255 = P.2.2.2.2.1 k) ∧ P.2.1 ≤ 200 ∧ WK M x A Z sr ∧ x + 44 ≤ M.2.1 ∧ (∀ q, M.2.1 ≤ q → M.1 q = none)
section CJS
variable {M M' : zMe} {x : Nat} {A A' Z Z' : Nat → Nat} {sr sr' h d : Nat} {P : PS} {f : Nat → Option Nat} {tx : Nat → Int32} {fi : Nat → Option Nat}
theorem CJ.ci (hc : CJ M x P A Z sr h d f tx fi) : CI M x P A Z sr := ⟨h, d, f, tx, fi, hc⟩
theorem CJ.work (hc : CJ M x P A Z sr h d f tx fi) (hf : WFr M M' x A) (hw : WK M' x A' Z' sr') : CJ M' x P A' Z' sr' h d f tx fi := by
  obtain ⟨c1, c2, c3, c4, c5, c6, c7, c8, c9, c10⟩ := hc
  refine ⟨?_, c2.work c8 hf, ?_, fun i hi => ?_, ?_, c6, c7, hw, by have := hf.1; omega, hf.2.2 c10⟩
  · rw [hf.2.1 x (by omega) (by omega) (by omega) (c8.ne2 (by omega))]; exact c1
  · rw [hf.2.1 _ (by omega) (by omega) (by omega) (c8.ne2 (by omega))]; exact c3
  · rcases c4 i hi with z | ⟨a, e, g, y1, y2, y3, y4⟩
    · exact Or.inl z
    · exact Or.inr ⟨a, e, g, y1, y2, y3.work c8 hf, y4⟩
  · rw [hf.2.1 _ (by omega) (by omega) (by omega) (c8.ne2 (by omega))]; exact c5
theorem CJ.wk (hc : CJ M x P A Z sr h d f tx fi) : WK M x A Z sr := hc.2.2.2.2.2.2.2.1
theorem CJ.hl (hc : CJ M x P A Z sr h d f tx fi) : Hl M x h d P.1 f := hc.2.1
theorem CJ.m44 (hc : CJ M x P A Z sr h d f tx fi) : x + 44 ≤ M.2.1 := hc.2.2.2.2.2.2.2.2.1
theorem CJ.wb (hc : CJ M x P A Z sr h d f tx fi) : WB P.1 := hc.2.1.2.1
/-- a cell beside the object x of which nothing else is told is written: the work's cells stay -/
theorem WK.kept (hw : WK M x A Z sr) (hq : ∀ q, x + 5 ≤ q → q ≤ x + 30 → M'.1 q = M.1 q) (ha : ∀ i, i < 3 → M'.1 (A i) = M.1 (A i)) (hm : M.2.1 ≤ M'.2.1) : WK M' x A Z sr := by
  obtain ⟨⟨J, I, fe, fl, fs, v, r0, r1, r2, r3, r4, r5, r6, r7, r8, r9, r10, r11⟩, w2, w3, w4, w5, w6, w7, w8⟩ := hw
  refine ⟨⟨J, I, fe, fl, fs, v, ?_, ?_, ?_, ?_, ?_, r5, r6, r7, r8, r9, fun i hi => ⟨(r10 i hi).1, by have := (r10 i hi).2; omega⟩, by omega⟩, w2.kept (fun q a b => hq q (by omega) (by omega)), w3.kept (fun q a b => hq q (by omega) (by omega)), ?_, ?_, ?_, ?_, w8⟩
  · rw [hq _ (by omega) (by omega)]; exact r0
  · rw [ha 1 (by omega)]; exact r1
  · rw [ha 2 (by omega)]; exact r2
  · rw [hq _ (by omega) (by omega)]; exact r3
  · rw [ha 0 (by omega)]; exact r4
  · rw [hq _ (by omega) (by omega)]; exact w4
  · rw [hq _ (by omega) (by omega)]; exact w5
  · rw [hq _ (by omega) (by omega)]; exact w6
  · rw [hq _ (by omega) (by omega)]; exact w7
/-- the object x is written, with the same hill -/
theorem CJ.setx (hc : CJ M x P A Z sr h d f tx fi) {L' : Nat} (hL : L' ≤ 200) (fr : Int64 × Int64) (rf : Nat → Int32) : CJ (zSet M x (.inr (11, xo x h (nI L') fr.1 fr.2 (rf 0) (rf 1) (rf 2)))) x (P.1, L', fr, rf, P.2.2.2.2) A Z sr h d f tx fi := by
  obtain ⟨c1, c2, c3, c4, c5, c6, c7, c8, c9, c10⟩ := hc
  have hk : ∀ {h d : Nat} {B : Nat → Nat} {f : Nat → Option Nat}, Hl M x h d B f → Hl (zSet M x (.inr (11, xo x h (nI L') fr.1 fr.2 (rf 0) (rf 1) (rf 2)))) x h d B f := fun hl => by
    have := hl.2.2.2.2.2
    exact hl.keep (Nat.le_refl _) (zS_n _ _ (by omega)) (zS_n _ _ (by omega)) (fun a D hd => zS_n _ _ (by have := hd.2.1; omega))
  have hk2 : ∀ {h1 d1 : Nat} {B : Nat → Nat} {f : Nat → Option Nat}, Hl M x h1 d1 B f → Hl (zSet M x (.inr (11, xo x h (nI L') fr.1 fr.2 (rf 0) (rf 1) (rf 2)))) x h1 d1 B f := fun hl => by
    have := hl.2.2.2.2.2
    exact hl.keep (Nat.le_refl _) (zS_n _ _ (by omega)) (zS_n _ _ (by omega)) (fun a D hd => zS_n _ _ (by have := hd.2.1; omega))
  refine ⟨zS_s _ _ _, hk2 c2, by rw [zS_n _ _ (by omega)]; exact c3, fun i hi => ?_, by rw [zS_n _ _ (by omega)]; exact c5, c6, hL, c8.kept (fun q a b => zS_n _ _ (by omega)) (fun i hi => zS_n _ _ (by have := c8.2.2.2.2.2.2.2 i hi; omega)) (Nat.le_refl _), c9, fun q hq => ?_⟩
  · rcases c4 i hi with z | ⟨a, e, g, y1, y2, y3, y4⟩
    · exact Or.inl z
    · exact Or.inr ⟨a, e, g, y1, y2, hk2 y3, y4⟩
  · have hq' : M.2.1 ≤ q := hq
    rw [zS_n _ _ (by omega)]; exact c10 q hq'
/-- what the reference's cells are -/
def Mk (M M' : zMe) (x : Nat) : Prop := ∀ q, x + 31 ≤ q → q ≤ x + 43 → M'.1 q = M.1 q
theorem WFr.mk (hf : WFr M M' x A) (hw : WK M x A Z sr) (hm : x + 44 ≤ M.2.1) : Mk M M' x := fun q q1 q2 => hf.2.1 q (by omega) (by omega) (by omega) (hw.ne2 (by omega))
theorem Mk.setx (M : zMe) (x : Nat) (e : zEn) : Mk M (zSet M x e) x := fun q q1 q2 => zS_n _ _ (by omega)
theorem Mk.trans {M2 : zMe} (h1 : Mk M M' x) (h2 : Mk M' M2 x) : Mk M M2 x := fun q q1 q2 => (h2 q q1 q2).trans (h1 q q1 q2)
theorem Rm.of (hf : KFr M M' (x + 5) A A' Z Z') : Rm M M' Z Z' := ⟨hf.2.2.2.1, hf.2.2.2.2.1⟩
theorem cj_hunt (hc : CJ M x P A Z sr h d f tx fi) (hsr : sr + 1 < 2 ^ 20) {ds sv b0 b1 : Nat} (hds : ds < 2 ^ 31) (hsv : sv < 2 ^ 31) (hb0 : 1 ≤ b0 ∧ b0 ≤ 9) (hb1 : 1 ≤ b1 ∧ b1 ≤ 9) : ∃ M1 M2 fl fb ft A' Z', f_X0_follow (x + 5) h (nI ds) (nI sv) M = some M1 ∧ CJ M1 x P A Z sr h d f tx fi ∧ f_X0_seek (x + 5) (nI b0) (nI b1) M1 = some (fl, M2) ∧ CJ M2 x P A' Z' (sr + 1) h d f tx fi ∧ WFr M M2 x A ∧ Rm M M2 Z Z' ∧ AnsG b0 b1 (GDs P.1 sv ds) fl fb ft ∧ zgI M2 (x + 5) [0] 9 = some (nI fb) ∧ zgI M2 (x + 5) [0] 10 = some (nI ft) ∧ zob M2 (x + 5) 0 = some () := by
  have hw := hc.wk
  have hl := hc.hl
  have hm := hc.m44
  obtain ⟨J, hR⟩ := hw.1
  have hW := hl.2.1
  have hn5 := hW.n5
  have h32 := p2_32 hn5
  have hpos := Nat.two_pow_pos (P.1 0)
  obtain ⟨l1, l2, l3, l4, l5, l6, l7, l8, l9⟩ := hl
  have hn2 := hW.n2
  have hg2 : 2 ^ P.1 2 < 32 := Nat.lt_of_lt_of_le (Nat.pow_lt_pow_right (by decide) hW.go) h32
  have hp1 : 1 ≤ 2 ^ P.1 0 - 1 := by
    have : 2 ^ 2 ≤ 2 ^ P.1 0 := p2b hn2
    omega
  obtain ⟨M1, lc, fn, sp, od, tg, D, X, g1, g2, g3, g4, g5, g6, g7, g8, g9, g10⟩ := k_follow hR hw.2.1 l1 l3 hW (fun k hk => by
    obtain ⟨a, a1, a2⟩ := l4 k hk
    exact ⟨a, a1, a2.1, by have := a2.2.1; omega⟩) (by omega) (by omega) hds hsv
  have hnd := hW.nd
  have hc1 := hc.work (g2.wfr (c := 0) A hm) (g2.wk hw hm)
  obtain ⟨fl, M2, J2, A2, Z2, fb, ft, k1, k2, k3, k4, k5, k6, k7, k8⟩ := k_hunt (s0 := fun _ => 2 ^ P.1 0 - 1) (b0 := b0) (b1 := b1) g2 hR hsr hn5 (by omega) (fun i hi => by rw [(g3 i hi).2]; exact hW.dw _ (g8 i hi).1) (fun i hi => ⟨hp1, by show 2 ^ P.1 0 - 1 < 2 ^ P.1 0; omega⟩) (fun i hi => by rw [(g3 i hi).1]; exact hg2) g5 ⟨g6, g7⟩ hb0 hb1
  have hm2 : M1.2 = M.2 := g2.2.2.2.1
  have hm1 : x + 44 ≤ M1.2.1 := by rw [hm2]; exact hm
  obtain ⟨y1, y2⟩ := (hc1.wk).chase k3 k2 k4 hm1
  refine ⟨M1, M2, fl, fb, ft, A2, Z2, g1, hc1, k1, hc1.work y2 y1, (g2.wfr (c := 0) A hm).trans y2 (fun i hi => Or.inl ⟨i, hi, rfl⟩), ?_, ?_, k6, k7, k8⟩
  · have := Rm.of (x := x) k3
    unfold Rm at this ⊢
    rw [hm2] at this
    exact this
  · refine AnsG.iff (fun u t => ⟨fun hg dd hdd hb => ?_, fun hg i hi => ?_⟩) k5
    · obtain ⟨i, i1, i2⟩ := g9 dd hdd hb
      have := hg i i1
      rw [(g3 i i1).1, (g3 i i1).2, i2] at this
      exact this
    · rw [(g3 i hi).1, (g3 i hi).2]
      exact hg _ (g8 i hi).1 (g8 i hi).2
/-- with one lane more: dog k from one place to the same -/
theorem cj_hunt2 (hc : CJ M x P A Z sr h d f tx fi) (hsr : sr + 1 < 2 ^ 20) {ds dn pl a : Nat} (hds : ds < 2 ^ P.1 6) (hdn : dn < P.1 6) (hnb : ds.testBit dn = false) (hpl : pl < P.1 0) (ha : f dn = some a) : ∃ M1 M2 M3 fl fb ft A' Z', f_X0_follow (x + 5) h (nI ds) (nI (P.1 1)) M = some M1 ∧ CJ M1 x P A Z sr h d f tx fi ∧ f_X0_addLane (x + 5) a h (nI (P.1 1)) (nI (2 ^ pl)) (nI (2 ^ pl)) M1 = some M2 ∧ CJ M2 x P A Z sr h d f tx fi ∧ f_X0_seek (x + 5) (nI 1) (nI 1) M2 = some (fl, M3) ∧ CJ M3 x P A' Z' (sr + 1) h d f tx fi ∧ WFr M M3 x A ∧ Rm M M3 Z Z' ∧ AnsG 1 1 (fun u t => GDs P.1 (P.1 1) ds u t ∧ sru (stg (P.1 1) (dg P.1 dn) (P.1 0)) (2 ^ pl) u t = 2 ^ pl) fl fb ft ∧ zgI M3 (x + 5) [0] 9 = some (nI fb) ∧ zgI M3 (x + 5) [0] 10 = some (nI ft) ∧ zob M3 (x + 5) 0 = some () ∧ zob M1 (x + 5) 0 = some () ∧ zob M2 (x + 5) 0 = some () := by
  have hw := hc.wk
  have hl := hc.hl
  have hm := hc.m44
  obtain ⟨J, hR⟩ := hw.1
  have hW := hl.2.1
  have hn5 := hW.n5
  have hs32 := hW.sh32
  have h32 := p2_32 hn5
  have hpos := Nat.two_pow_pos (P.1 0)
  obtain ⟨l1, l2, l3, l4, l5, l6, l7, l8, l9⟩ := hl
  have hn2 := hW.n2
  have hg2 : 2 ^ P.1 2 < 32 := Nat.lt_of_lt_of_le (Nat.pow_lt_pow_right (by decide) hW.go) h32
  have hpl2 : 2 ^ pl < 2 ^ P.1 0 := Nat.pow_lt_pow_right (by decide) hpl
  have hp1 : 1 ≤ 2 ^ P.1 0 - 1 := by
    have : 2 ^ 2 ≤ 2 ^ P.1 0 := p2b hn2
    omega
  have hnd := hW.nd
  have hds31 : ds < 2 ^ 31 := Nat.lt_of_lt_of_le hds (p2b (by omega))
  obtain ⟨M1, lc, fn, sp, od, tg, D, X, g1, g2, g3, g4, g5, g6, g7, g8, g9, g10⟩ := k_follow hR hw.2.1 l1 l3 hW (fun k hk => by
    obtain ⟨a, a1, a2⟩ := l4 k hk
    exact ⟨a, a1, a2.1, by have := a2.2.1; omega⟩) (by omega) (by omega) hds31 (show P.1 1 < 2 ^ 31 by omega)
  have hc1 := hc.work (g2.wfr (c := 0) A hm) (g2.wk hw hm)
  have hlc : lc < 3 := by
    have hp := pigeon (P.1 6) (lc + 1) (fun i => if i < lc then fn i else dn) (fun k hk => by
      show (if k < lc then fn k else dn) < P.1 6
      split
      next h => exact (g8 k h).1
      next => exact hdn) (fun i j hij hj => by
      show (if i < lc then fn i else dn) ≠ (if j < lc then fn j else dn)
      rw [if_pos (show i < lc by omega)]
      split
      next h => exact g10 i j hij h
      next h =>
        intro z
        have := (g8 i (by omega)).2
        rw [z, hnb] at this
        cases this)
    omega
  have hhl1 := hc1.hl
  obtain ⟨a', a1, a2⟩ := hhl1.2.2.2.1 dn hdn
  have hr31 : f dn = some a' := a1
  rw [ha] at hr31
  cases hr31
  have hpl32 : 2 ^ pl < 32 := by omega
  have hspl : sp < 32768 := by
    rw [g5]
    exact mkp_lt (fun i _ => by show 2 ^ P.1 0 - 1 < 32; omega) (by omega)
  obtain ⟨M2, q1, q2⟩ := f_add g2 hlc (start := 2 ^ pl) (target := 2 ^ pl) a2.1 (hW.dw dn hdn) hhl1.1 rfl hn5 (show P.1 1 < 2 ^ 31 by omega) hpl32 hpl32 g6 hspl
  have hc2 := hc.work (q2.wfr (c := 0) A hm) (q2.wk hw hm)
  obtain ⟨s0, hs0⟩ : ∃ s0 : Nat → Nat, s0 = upN (fun _ => 2 ^ P.1 0 - 1) lc (2 ^ pl) := ⟨_, rfl⟩
  have hpp := Nat.two_pow_pos pl
  obtain ⟨fl, M3, J2, A2, Z2, fb, ft, k1, k2, k3, k4, k5, k6, k7, k8⟩ := k_hunt (s0 := s0) (b0 := 1) (b1 := 1) q2 hR hsr hn5 (by omega) (fun i hi => by
      show DW (P.1 0) (if i = lc then dg P.1 dn else D i)
      by_cases e : i = lc
      · rw [if_pos e]; exact hW.dw _ hdn
      · rw [if_neg e, (g3 i (by omega)).2]; exact hW.dw _ (g8 i (by omega)).1) (fun i hi => by
      rw [hs0]
      by_cases e : i = lc
      · rw [e, upN_s]; omega
      · rw [upN_n _ _ e]
        show 1 ≤ 2 ^ P.1 0 - 1 ∧ 2 ^ P.1 0 - 1 < 2 ^ P.1 0
        omega) (fun i hi => by
      by_cases e : i = lc
      · rw [e, upN_s]; exact hpl32
      · rw [upN_n _ _ e, (g3 i (by omega)).1]; exact hg2) (by
      rw [hs0, g5]
      show mkp _ lc ||| 2 ^ pl * 2 ^ (5 * lc) = mkp _ lc ||| (upN (fun _ => 2 ^ P.1 0 - 1) lc (2 ^ pl) lc) * 2 ^ (5 * lc)
      rw [upN_s, mkp_congr (f := fun _ => 2 ^ P.1 0 - 1) (g := upN (fun _ => 2 ^ P.1 0 - 1) lc (2 ^ pl)) (fun i hi => (upN_n (fun _ => 2 ^ P.1 0 - 1) (2 ^ pl) (show i ≠ lc by omega)).symm)]) ⟨by split <;> omega, fun hz i hi => by
      show ¬ ((if i = lc then dg P.1 dn else D i) 0 = 1 ∨ (if i = lc then dg P.1 dn else D i) 0 = 4)
      by_cases e : i = lc
      · rw [if_pos e]
        intro o
        rw [if_pos (Or.inr o)] at hz
        cases hz
      · rw [if_neg e]
        refine g7 ?_ i (by omega)
        apply Classical.byContradiction
        intro z
        rw [if_pos (Or.inl (by omega))] at hz
        cases hz⟩ ⟨by omega, by omega⟩ ⟨by omega, by omega⟩
  have hm2 : M2.2 = M.2 := q2.2.2.2.1
  have hm1 : x + 44 ≤ M2.2.1 := by rw [hm2]; exact hm
  obtain ⟨y1, y2⟩ := (hc2.wk).chase k3 k2 k4 hm1
  refine ⟨M1, M2, M3, fl, fb, ft, A2, Z2, g1, hc1, q1, hc2, k1, hc2.work y2 y1, (q2.wfr (c := 0) A hm).trans y2 (fun i hi => Or.inl ⟨i, hi, rfl⟩), ?_, ?_, k6, k7, k8, ch_ob g2.1, ch_ob q2.1⟩
  · have := Rm.of (x := x) k3
    unfold Rm at this ⊢
    rw [hm2] at this
    exact this
  · refine AnsG.iff (fun u t => ⟨fun hg => ⟨fun dd hdd hb => ?_, ?_⟩, fun hg i hi => ?_⟩) k5
    · obtain ⟨i, i1, i2⟩ := g9 dd hdd hb
      have := hg i (by omega)
      have e : i ≠ lc := by omega
      rw [hs0, upN_n _ _ e, upN_n _ _ e, if_neg e, (g3 i i1).1, (g3 i i1).2, i2] at this
      exact this
    · have := hg lc (by omega)
      rw [hs0, upN_s, upN_s, if_pos rfl] at this
      exact this
    · by_cases e : i = lc
      · rw [e, hs0, upN_s, upN_s, if_pos rfl]; exact hg.2
      · rw [hs0, upN_n _ _ e, upN_n _ _ e, if_neg e, (g3 i (by omega)).1, (g3 i (by omega)).2]
        exact hg.1 _ (g8 i (by omega)).1 (g8 i (by omega)).2
end CJS
