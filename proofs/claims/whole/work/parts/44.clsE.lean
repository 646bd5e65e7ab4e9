/-! type's bytes -/
theorem b8_b (x : Int32) : x.toInt8.toInt32 &&& 255 = x &&& 255 := by
  apply Int32.toBitVec_inj.mp
  apply BitVec.eq_of_getLsbD_eq
  intro i hi
  rw [Int32.toBitVec_and, Int32.toBitVec_and, BitVec.getLsbD_and, BitVec.getLsbD_and]
  have h2 : Int32.toBitVec 255 = BitVec.ofNat 32 255 := rfl
  have h3 : (BitVec.ofNat 32 255).getLsbD i = decide (i < 8) := by
    have : ∀ i, i < 32 → (BitVec.ofNat 32 255).getLsbD i = decide (i < 8) := by decide +kernel
    exact this i hi
  rw [h2, h3]
  by_cases h8 : i < 8
  · have : (x.toInt8.toInt32).toBitVec.getLsbD i = x.toBitVec.getLsbD i := by
      show (BitVec.signExtend 32 (x.toBitVec.signExtend 8)).getLsbD i = _
      rw [BitVec.getLsbD_signExtend, if_pos h8, BitVec.getLsbD_signExtend]
      simp [hi, h8]
    rw [this]
  · simp [h8]
def tyc (v : Int64) (k : Nat) : Int32 := (((v.toUInt64 >>> ((nI (8 * k)).toInt64.toUInt64 &&& Int64.toUInt64 63)).toInt64).toInt32).toInt8.toInt32
theorem vnb (x : Int32) : vp_nar .byte x = x.toInt8.toInt32 := rfl
theorem ty_amt : ∀ k, k < 8 → ((nI (8 * k)).toInt64.toUInt64 &&& Int64.toUInt64 63).toNat = 8 * k := by decide +kernel
theorem ty_ams : ∀ k, k < 8 → (((nI (8 * k)).toInt64 &&& 63).toBitVec.smod 64).toNat = 8 * k := by decide +kernel
theorem ty_eq (v : Int64) {k : Nat} (hk : k < 8) : vp_nar .byte (tyc v k) &&& 255 = tyb v k := by
  rw [vnb, b8_b, tyc, b8_b]
  unfold tyb
  apply Int32.toBitVec_inj.mp
  apply BitVec.eq_of_getLsbD_eq
  intro i hi
  have h3 : (BitVec.ofNat 32 255).getLsbD i = decide (i < 8) := by
    have : ∀ i, i < 32 → (BitVec.ofNat 32 255).getLsbD i = decide (i < 8) := by decide +kernel
    exact this i hi
  have h4 : (BitVec.ofNat 64 255).getLsbD i = decide (i < 8) := by
    have : ∀ i, i < 32 → (BitVec.ofNat 64 255).getLsbD i = decide (i < 8) := by decide +kernel
    exact this i hi
  rw [Int32.toBitVec_and, BitVec.getLsbD_and, show Int32.toBitVec 255 = BitVec.ofNat 32 255 from rfl, h3]
  have e1 : ((v.toUInt64 >>> ((nI (8 * k)).toInt64.toUInt64 &&& Int64.toUInt64 63)).toInt64).toInt32.toBitVec.getLsbD i = v.toBitVec.getLsbD (8 * k + i) := by
    show (BitVec.signExtend 32 (v.toUInt64 >>> ((nI (8 * k)).toInt64.toUInt64 &&& Int64.toUInt64 63)).toBitVec).getLsbD i = _
    rw [BitVec.getLsbD_signExtend, if_pos (by omega), UInt64.toBitVec_shiftRight, BitVec.ushiftRight_eq', BitVec.getLsbD_ushiftRight]
    have : (((nI (8 * k)).toInt64.toUInt64 &&& Int64.toUInt64 63).toBitVec % 64).toNat = 8 * k := by
      have := ty_amt k hk
      rw [BitVec.toNat_umod]
      show ((nI (8 * k)).toInt64.toUInt64 &&& Int64.toUInt64 63).toNat % 64 = 8 * k
      omega
    rw [this]
    simp [hi]
  have e2 : ((v >>> ((nI (8 * k)).toInt64 &&& 63)) &&& (255 : Int64)).toInt32.toBitVec.getLsbD i = (v.toBitVec.getLsbD (8 * k + i) && decide (i < 8)) := by
    show (BitVec.signExtend 32 ((v >>> ((nI (8 * k)).toInt64 &&& 63)) &&& (255 : Int64)).toBitVec).getLsbD i = _
    rw [BitVec.getLsbD_signExtend, if_pos (by omega), Int64.toBitVec_and, BitVec.getLsbD_and, show Int64.toBitVec 255 = BitVec.ofNat 64 255 from rfl, h4, Int64.toBitVec_shiftRight, BitVec.sshiftRight', BitVec.getLsbD_sshiftRight, ty_ams k hk]
    by_cases h8 : i < 8
    · rw [if_pos (by omega)]
      simp [hi, h8, show ¬ 64 ≤ i by omega]
    · simp [h8]
  rw [e1, e2]
section CT
variable {M : zMe} {x h d : Nat} {tl : Int32} {ab be : Int64} {cb cn cf : Int32} {B : Nat → Nat} {f : Nat → Option Nat} {tx : Nat → Int32}
theorem c_type_bad (hx : M.1 x = some (.inr (11, xo x h tl ab be cb cn cf))) (v : Int64) {n : Int32} (hn : n < 1 ∨ 8 < n) : f_X11_type x v n M = some (-2, zSet M x (.inr (11, xo x h tl ab be (cb + 1) cn cf))) := by
  simp only [f_X11_type, f_X11_type_b11, c_obx hx, Option.bind_some, c_bad hx]
  by_cases h1 : n < 1
  · simp only [if_pos h1]
  · simp only [if_neg h1, if_neg (Int32.not_le.mpr (hn.resolve_left h1))]
theorem c_type_full {L : Nat} (hx : M.1 x = some (.inr (11, xo x h (nI L) ab be cb cn cf))) (hL : L ≤ 200) (v : Int64) {n : Nat} (h1 : 1 ≤ n) (h8 : n ≤ 8) (hf : 200 < L + n) : f_X11_type x v (nI n) M = some (-4, zSet M x (.inr (11, xo x h (nI L) ab be cb cn (cf + 1)))) := by
  have g3 : zgI M x [11] 3 = some (nI L) := by simp [zgI, zg, hx, xo]
  simp only [f_X11_type, c_obx hx, Option.bind_some, c_full hx, g3, nI_add]
  rw [if_neg (show ¬ nI n < 1 from nI_nlt (b := 1) h1 (by omega)), if_pos (show nI n ≤ 8 from nI_le (b := 8) h8 (by omega)), if_neg (show ¬ nI (L + n) ≤ 200 from nI_ge (b := L + n) (a := 200) hf (by omega))]
/-- the class's memory behind type -/
def tyM (M : zMe) (x h : Nat) (L : Nat) (ab be : Int64) (cb cn cf : Int32) (tx : Nat → Int32) : zMe := zSet (zSet M (x + 4) (.inl (.byte, 200, .inl tx))) x (.inr (11, xo x h (nI L) ab be cb cn cf))
theorem tyM_x (L : Nat) : (tyM M x h L ab be cb cn cf tx).1 x = some (.inr (11, xo x h (nI L) ab be cb cn cf)) := zS_s _ _ _
theorem tyM_4 (L : Nat) : (tyM M x h L ab be cb cn cf tx).1 (x + 4) = some (.inl (.byte, 200, .inl tx)) := by
  unfold tyM
  rw [zS_n _ _ (by omega)]
  exact zS_s _ _ _
theorem zSet_self {M : zMe} {a : Nat} {e : zEn} (h : M.1 a = some e) : zSet M a e = M := zMe_ext (fun q => by by_cases hq : q = a <;> simp [zSet, hq, h]) rfl
theorem zS_comm (M : zMe) {a b : Nat} (e f : zEn) (h : a ≠ b) : zSet (zSet M a e) b f = zSet (zSet M b f) a e := zMe_ext (fun q => by
  by_cases h1 : q = a
  · subst h1; simp [zSet, h]
  · by_cases h2 : q = b
    · subst h2; simp [zSet, h1]
    · simp [zSet, h1, h2]) rfl
theorem c_type_ok {L : Nat} (hx : M.1 x = some (.inr (11, xo x h (nI L) ab be cb cn cf))) (ht : M.1 (x + 4) = some (.inl (.byte, 200, .inl tx))) (v : Int64) {n : Nat} (h1 : 1 ≤ n) (h8 : n ≤ 8) (hL : L + n ≤ 200) : f_X11_type x v (nI n) M = some (nI (L + n), tyM M x h (L + n) ab be cb cn cf (tyt tx (fun k => vp_nar .byte (tyc v k)) L n n)) := by
  have g3 : zgI M x [11] 3 = some (nI L) := by simp [zgI, zg, hx, xo]
  simp only [f_X11_type, Option.bind_some, g3, nI_add, zlet]
  rw [if_neg (show ¬ nI n < 1 from nI_nlt (b := 1) h1 (by omega)), if_pos (show nI n ≤ 8 from nI_le (b := 8) h8 (by omega)), if_pos (show nI (L + n) ≤ 200 from nI_le (b := 200) hL (by omega))]
  have e1 : nI n - 1 = nI (n - 0) + (-1) := by
    obtain ⟨k, rfl⟩ : ∃ k, n = k + 1 := ⟨n - 1, by omega⟩
    exact n_pm k
  have e0 : tyM M x h (L + 0) ab be cb cn cf (tyt tx (fun k => vp_nar .byte (tyc v k)) L n 0) = M := by
    unfold tyM
    rw [show tyt tx (fun k => vp_nar .byte (tyc v k)) L n 0 = tx from rfl, zSet_self ht]
    exact zSet_self hx
  rw [e1]
  have key : f_X11_type_b40 zfu x v (nI (n - 0) + (-1)) (tyM M x h (L + 0) ab be cb cn cf (tyt tx (fun k => vp_nar .byte (tyc v k)) L n 0)) = some (nI (L + n), tyM M x h (L + n) ab be cb cn cf (tyt tx (fun k => vp_nar .byte (tyc v k)) L n n)) := by
    refine loopZ (fun fuel j => f_X11_type_b40 fuel x v (nI (n - j) + (-1)) (tyM M x h (L + j) ab be cb cn cf (tyt tx (fun k => vp_nar .byte (tyc v k)) L n j))) n _ (by omega) (fun g j hj => ?_) (fun g => ?_)
    · show f_X11_type_b40 (g + 1) x v (nI (n - j) + (-1)) (tyM M x h (L + j) ab be cb cn cf (tyt tx (fun k => vp_nar .byte (tyc v k)) L n j)) = _
      obtain ⟨T, hT⟩ : ∃ T, T = tyt tx (fun k => vp_nar .byte (tyc v k)) L n j := ⟨_, rfl⟩
      have e2 : nI (n - j) + (-1) = nI (n - 1 - j) := by
        obtain ⟨k, hk⟩ : ∃ k, n - j = k + 1 := ⟨n - j - 1, by omega⟩
        rw [hk, pk_m1]
        congr 1
        omega
      have e3 : nI (n - 1 - j) + (-1) = nI (n - (j + 1)) + (-1) := by congr 2; omega
      have e8 : (8 * nI (n - 1 - j) : Int32) = nI (8 * (n - 1 - j)) := pk_mul 8 _
      have a3 : zgI (tyM M x h (L + j) ab be cb cn cf T) x [11] 3 = some (nI (L + j)) := by simp [zgI, zg, tyM_x, xo]
      have a2 : zgN (tyM M x h (L + j) ab be cb cn cf T) x [11] 2 = some (x + 4) := by simp [zgN, zg, tyM_x, xo]
      have w : zwB (tyM M x h (L + j) ab be cb cn cf T) (x + 4) (nI (L + j)) (tyc v (n - 1 - j)) = some (tyM M x h (L + j) ab be cb cn cf (upd T (L + j) (vp_nar .byte (tyc v (n - 1 - j))))) := by
        simp only [zwB, tyM_4]
        rw [if_neg (nI_in (show L + j < 200 by omega) (by omega)), nI_clamp (by omega)]
        unfold tyM
        rw [zS_comm _ _ _ (show x ≠ x + 4 by omega), zSS]
      have a4 : zgI (tyM M x h (L + j) ab be cb cn cf (upd T (L + j) (vp_nar .byte (tyc v (n - 1 - j))))) x [11] 3 = some (nI (L + j)) := by simp [zgI, zg, tyM_x, xo]
      have p : zpI (tyM M x h (L + j) ab be cb cn cf (upd T (L + j) (vp_nar .byte (tyc v (n - 1 - j))))) x [11] 3 (nI (L + j + 1)) = some (tyM M x h (L + j + 1) ab be cb cn cf (upd T (L + j) (vp_nar .byte (tyc v (n - 1 - j))))) := by
        simp only [zpI, zp, tyM_x]
        rw [if_pos (by decide)]
        congr 1
        show zSet (zSet _ _ _) _ _ = _
        rw [zSS]
        rfl
      rw [← hT]
      simp only [f_X11_type_b40, e2, if_neg (nI_pos (show n - 1 - j < 2 ^ 31 by omega)), a2, a3, Option.bind_some, zlet, e8]
      rw [show (((v.toUInt64 >>> ((nI (8 * (n - 1 - j))).toInt64.toUInt64 &&& Int64.toUInt64 63)).toInt64).toInt32).toInt8.toInt32 = tyc v (n - 1 - j) from rfl, w, Option.bind_some, a4, Option.bind_some, nI_1, p, Option.bind_some, e3, hT]
      rfl
    · show f_X11_type_b40 (g + 1) x v (nI (n - n) + (-1)) (tyM M x h (L + n) ab be cb cn cf (tyt tx (fun k => vp_nar .byte (tyc v k)) L n n)) = _
      have a3 : zgI (tyM M x h (L + n) ab be cb cn cf (tyt tx (fun k => vp_nar .byte (tyc v k)) L n n)) x [11] 3 = some (nI (L + n)) := by simp [zgI, zg, tyM_x, xo]
      rw [Nat.sub_self, f_X11_type_b40, if_pos (by decide), a3, Option.bind_some]
  rw [e0] at key
  exact key
/-! a copy of a hill -/
theorem c_copy (hh : M.1 h = some (.inr (2, ho (nB B) d))) (hd : M.1 d = some (dgA f)) (hok : ∀ k, k < 3 → ∀ a, f k = some a → ∃ D : Nat → Nat, D 0 ≤ 4 ∧ M.1 a = some (dogCell D)) (hfr : ∀ q, M.2.1 ≤ q → M.1 q = none) : ∃ M' g, f_X2_copy h M = some (some M.2.1, M') ∧ M'.1 M.2.1 = some (.inr (2, ho (nB B) (M.2.1 + 1))) ∧ M'.1 (M.2.1 + 1) = some (dgA g) ∧ (∀ k, k < 3 → g k = f k) ∧ (∀ q, q ≠ M.2.1 → q ≠ M.2.1 + 1 → M'.1 q = M.1 q) ∧ M'.2 = (M.2.1 + 2, M.2.2 + 11) := by
  have nh : h ≠ M.2.1 := fun z => by rw [hfr h (by omega)] at hh; cases hh
  have nd : d ≠ M.2.1 := fun z => by rw [hfr d (by omega)] at hd; cases hd
  have nh1 : h ≠ M.2.1 + 1 := fun z => by rw [hfr h (by omega)] at hh; cases hh
  have nd1 : d ≠ M.2.1 + 1 := fun z => by rw [hfr d (by omega)] at hd; cases hd
  obtain ⟨N, n1, n2, n3, n4, n5⟩ := t_x2init M.2.1 (zAdd M (.inr (2, [.int 0, .int 0, .int 0, .int 0, .int 0, .int 0, .int 0, .null])) 8) (zA_s _ _ _) (by show M.2.1 < M.2.1 + 1; omega)
  have n5 : ∀ q, q ≠ M.2.1 → q ≠ M.2.1 + 1 → N.1 q = M.1 q := fun q h1 h2 => by rw [n5 q h1 h2, zA_n _ _ _ h1]
  have n4 : N.2 = (M.2.1 + 2, M.2.2 + 11) := n4
  have n3 : N.1 (M.2.1 + 1) = some (dgA (fun _ => none)) := n3
  have n2 : N.1 M.2.1 = some (.inr (2, [.int 5, .int 0, .int 0, .int 0, .int 1, .int 1, .int 0, .ref (M.2.1 + 1)])) := n2
  have st : ∀ (fs : List Value) (k : Nat) (b : Int32), zpI (zSet N M.2.1 (.inr (2, fs))) M.2.1 [2] k b = some (zSet N M.2.1 (.inr (2, fs.set k (.int b)))) := by
    intro fs k b
    simp only [zpI, zp, zS_s]
    rw [if_pos (by decide), zSS]
  have st0 : zpI N M.2.1 [2] 0 (nI (B 0)) = some (zSet N M.2.1 (.inr (2, [.int (nI (B 0)), .int 0, .int 0, .int 0, .int 1, .int 1, .int 0, .ref (M.2.1 + 1)]))) := by
    simp only [zpI, zp, n2]
    rw [if_pos (by decide)]
    rfl
  have gN := c_g (M := N) (h := h) (B := B) (d := d) (by rw [n5 h nh nh1]; exact hh)
  have gS : ∀ fs, (zSet N M.2.1 (.inr (2, fs))).1 h = some (.inr (2, ho (nB B) d)) := fun fs => by rw [zS_n _ _ nh, n5 h nh nh1]; exact hh
  obtain ⟨P, hP⟩ : ∃ P, P = zSet N M.2.1 (.inr (2, ho (nB B) (M.2.1 + 1))) := ⟨_, rfl⟩
  have key : f_X2_copy h M = f_X2_copy_b66 zfu h M.2.1 0 P := by
    simp only [f_X2_copy, zlet, n1, Option.bind_some, gN.1, st0, (c_g (gS _)).2.1, (c_g (gS _)).2.2.1, (c_g (gS _)).2.2.2.1, (c_g (gS _)).2.2.2.2.1, (c_g (gS _)).2.2.2.2.2.1, (c_g (gS _)).2.2.2.2.2.2.1, st, List.set]
    rw [hP]
    rfl
  have p1 : P.1 M.2.1 = some (.inr (2, ho (nB B) (M.2.1 + 1))) := by rw [hP]; exact zS_s _ _ _
  have p2 : P.1 (M.2.1 + 1) = some (dgA (fun _ => none)) := by rw [hP, zS_n _ _ (by omega)]; exact n3
  have p3 : ∀ q, q ≠ M.2.1 → q ≠ M.2.1 + 1 → P.1 q = M.1 q := fun q h1 h2 => by rw [hP, zS_n _ _ h1]; exact n5 q h1 h2
  have p4 : P.2 = (M.2.1 + 2, M.2.2 + 11) := by rw [hP]; exact n4
  rw [key]
  have lp := loopIZ (S := zMe) (R := Option Nat × zMe) (fun fuel j s => f_X2_copy_b66 fuel h M.2.1 (nI j) s) 3 (fun j s => ∃ g, s.1 M.2.1 = some (.inr (2, ho (nB B) (M.2.1 + 1))) ∧ s.1 (M.2.1 + 1) = some (dgA g) ∧ (∀ k, k < j → g k = f k) ∧ (∀ q, q ≠ M.2.1 → q ≠ M.2.1 + 1 → s.1 q = M.1 q) ∧ s.2 = (M.2.1 + 2, M.2.2 + 11)) (fun r => ∃ M' g, r = (some M.2.1, M') ∧ M'.1 M.2.1 = some (.inr (2, ho (nB B) (M.2.1 + 1))) ∧ M'.1 (M.2.1 + 1) = some (dgA g) ∧ (∀ k, k < 3 → g k = f k) ∧ (∀ q, q ≠ M.2.1 → q ≠ M.2.1 + 1 → M'.1 q = M.1 q) ∧ M'.2 = (M.2.1 + 2, M.2.2 + 11)) (by omega) (fun fu j s hj hI => ?_) (fun fu s hI => ?_) P ⟨_, p1, p2, fun k hk => absurd hk (by omega), p3, p4⟩
  · obtain ⟨r, k1, M', g, k2, k3⟩ := lp
    rw [k2] at k1
    exact ⟨M', g, k1, k3⟩
  · obtain ⟨g, i1, i2, i3, i4, i5⟩ := hI
    have q1 : zgN s M.2.1 [2] 7 = some (M.2.1 + 1) := (c_g i1).2.2.2.2.2.2.2
    have q2 : zgN s h [2] 7 = some d := (c_g (by rw [i4 h nh nh1]; exact hh)).2.2.2.2.2.2.2
    have q3 : zrR s d (nI j) = some (f j) := by
      simp only [zrR, i4 d nd nd1, hd, dgA]
      rw [if_neg (nI_in hj (by omega)), nI_clamp (by omega)]
    have q4 : zwR s (M.2.1 + 1) (nI j) (f j) "OneWhistle$Plain" [5, 1, 9, 6, 3] = some (zSet s (M.2.1 + 1) (dgA (va_up g j (f j)))) := by
      cases hfj : f j with
      | none =>
        simp only [zwR, i2, dgA]
        rw [if_neg (nI_in hj (by omega)), if_pos trivial, nI_clamp (by omega)]
      | some a =>
        obtain ⟨D, hD, ha⟩ := hok j hj a hfj
        have na : a ≠ M.2.1 := fun z => by rw [hfr a (by omega)] at ha; cases ha
        have na1 : a ≠ M.2.1 + 1 := fun z => by rw [hfr a (by omega)] at ha; cases ha
        simp only [zwR, i2, dgA, i4 a na na1, ha, dogCell]
        rw [if_neg (nI_in hj (by omega)), if_pos trivial, if_pos (dogCl_in hD), nI_clamp (by omega)]
    refine Or.inl ⟨zSet s (M.2.1 + 1) (dgA (va_up g j (f j))), ?_, va_up g j (f j), ?_, ?_, ?_, ?_, i5⟩
    · simp only [f_X2_copy_b66, if_neg (show ¬ (3 : Int32) ≤ nI j from nI_ge (b := 3) hj (by omega)), q1, q2, q3, q4, Option.bind_some, zlet, nI_1]
    · rw [zS_n _ _ (by omega)]; exact i1
    · exact zS_s _ _ _
    · intro k hk
      by_cases e : k = j
      · rw [e, va_up_self]
      · rw [va_up_ne _ _ e]; exact i3 k (by omega)
    · intro q h1 h2
      rw [zS_n _ _ h2]
      exact i4 q h1 h2
  · obtain ⟨g, i1, i2, i3, i4, i5⟩ := hI
    refine ⟨(some M.2.1, s), ?_, s, g, rfl, i1, i2, i3, i4, i5⟩
    simp only [f_X2_copy_b66, if_pos (show (3 : Int32) ≤ nI 3 by decide)]
end CT
