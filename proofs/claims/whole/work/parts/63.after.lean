/-! the reference's searches: states, by layers -/
theorem or_mul (a b k : Nat) : (a ||| b) * 2 ^ k = a * 2 ^ k ||| b * 2 ^ k := by
  apply Nat.eq_of_testBit_eq
  intro i
  rw [Nat.testBit_or, Nat.testBit_mul_two_pow, Nat.testBit_mul_two_pow, Nat.testBit_mul_two_pow, Nat.testBit_or]
  cases decide (k ≤ i) <;> simp
theorem orF_mul (f : Nat → Nat) (k : Nat) : ∀ n, orF (fun p => f p * 2 ^ k) n = orF f n * 2 ^ k
  | 0 => by simp [orF]
  | n + 1 => by rw [orF, orF, orF_mul f k n, or_mul]
theorem rvs_bit (u : Nat) : ∀ T j, j < T → (rvs u T).testBit j = u.testBit (T - 1 - j)
  | 0, j, h => by omega
  | T + 1, 0, _ => by
    rw [rvs, Nat.testBit_zero, show T + 1 - 1 - 0 = T by omega]
    cases u.testBit T <;> simp <;> omega
  | T + 1, j + 1, h => by
    rw [rvs, Nat.testBit_succ]
    have : (2 * rvs u T + (if u.testBit T then 1 else 0)) / 2 = rvs u T := by
      have := bw2 (u.testBit T)
      omega
    rw [this, rvs_bit u T j (by omega)]
    congr 1
    omega
theorem rvs_rvs {u T : Nat} (h : u < 2 ^ T) : rvs (rvs u T) T = u := by
  refine eq_bits (rvs_lt _ _) h (fun i hi => ?_)
  rw [rvs_bit _ T i hi, rvs_bit _ T _ (by omega)]
  congr 1
  omega
section MAF
variable {M : zMe} {m : Nat} {sc : Nat → Int32} {lg : Nat → Int64} {ar : Nat → Nat → Int32} {en : Nat → Int64} {B : Nat → Nat}
/-- where the state s goes -/
def nxB (B : Nat → Nat) : Nat → Nat → Nat → Nat := npk (fun d => stg (B 1) (dg B d) (B 0)) (B 6)
theorem m_after (hB : Bk (ar 0) B) (hW : WB B) {s w t : Nat} (hs : s < 32768) (hw : w < 2) (ht : t < 2 ^ 31) : f_X12_after m (nI s) (nI w) (nI t) (mmk M m sc lg ar en) = some (nI (nxB B w t s), mmk M m sc lg ar en) := by
  have hn5 := hW.n5
  have hnd := hW.nd
  have e0 : ar 0 0 = nI (B 0) := hB 0 (by omega)
  have e6 : ar 0 6 = nI (B 6) := hB 6 (by omega)
  have inner : ∀ (k6 : Nat → Int32 → Int32 → Int32 → Int32 → Int32 → zMe → Option (Int32 × zMe)) (d acc : Nat), d < B 6 → f_X12_after_b21 k6 zfu m (nI s) (nI w) (nI t) (nI acc) (nI d) (nI 0) (mmk M m sc lg ar en) = k6 m (nI s) (nI w) (nI t) (nI (acc ||| stg (B 1) (dg B d) (B 0) w t (pst s d) * 2 ^ (5 * d))) (nI (d + 1)) (mmk M m sc lg ar en) := by
    intro k6 d acc hd
    have e1 : stg (B 1) (dg B d) (B 0) w t (pst s d) * 2 ^ (5 * d) = orF (fun p => if (pst s d).testBit p then 2 ^ (5 * d + gog (B 1) (dg B d) w t p) else 0) (B 0) := by
      show orF _ (B 0) * _ = _
      rw [← orF_mul]
      refine orF_congr _ (fun p hp => ?_)
      cases (pst s d).testBit p
      · simp
      · simp only [if_true]
        rw [← Nat.pow_add, Nat.add_comm]
    rw [e1]
    have key := loopZ (fun fuel j => f_X12_after_b21 k6 fuel m (nI s) (nI w) (nI t) (nI (acc ||| orF (fun p => if (pst s d).testBit p then 2 ^ (5 * d + gog (B 1) (dg B d) w t p) else 0) j)) (nI d) (nI j) (mmk M m sc lg ar en)) (B 0) (k6 m (nI s) (nI w) (nI t) (nI (acc ||| orF (fun p => if (pst s d).testBit p then 2 ^ (5 * d + gog (B 1) (dg B d) w t p) else 0) (B 0))) (nI (d + 1)) (mmk M m sc lg ar en)) (by omega) (fun f j hj => ?_) (fun f => ?_)
    · have key' : f_X12_after_b21 k6 zfu m (nI s) (nI w) (nI t) (nI (acc ||| 0)) (nI d) (nI 0) (mmk M m sc lg ar en) = _ := key
      rw [Nat.or_zero] at key'
      exact key'
    · show f_X12_after_b21 k6 (f + 1) m (nI s) (nI w) (nI t) (nI (acc ||| orF (fun p => if (pst s d).testBit p then 2 ^ (5 * d + gog (B 1) (dg B d) w t p) else 0) j)) (nI d) (nI j) (mmk M m sc lg ar en) = f_X12_after_b21 k6 f m (nI s) (nI w) (nI t) (nI (acc ||| orF (fun p => if (pst s d).testBit p then 2 ^ (5 * d + gog (B 1) (dg B d) w t p) else 0) (j + 1))) (nI d) (nI (j + 1)) (mmk M m sc lg ar en)
      have g8 := gog8 (sh := B 1) (D := dg B d) (w := w) (t := t) (show j < 8 by omega)
      have r0 : zrI (mmk M m sc lg ar en) (m + 1) 0 = some (nI (B 0)) := by rw [show (0 : Int32) = nI 0 from rfl, mm_rN1 (by omega), e0]
      rw [f_X12_after_b21, mm_gN0, Option.bind_some, r0, Option.bind_some, if_neg (nI_ge hj (by omega)), show (5 : Int32) * nI d = nI (5 * d) from pk_mul 5 d, nI_add, orF, ← Nat.or_assoc]
      rw [pst_bit s d (show j < 5 by omega)]
      by_cases hb : s.testBit (5 * d + j) = true
      · rw [if_pos ((n_bit1 (by omega) (by omega)).mpr hb), mm_ob, Option.bind_some, m_goN hB hW hd (show j < 8 by omega) hw ht, Option.bind_some, nI_add, n_sh1 (by omega), f_X12_after_b70, n_or, zlet, zlet, nI_1, if_pos hb]
      · rw [if_neg (fun z => hb ((n_bit1 (by omega) (by omega)).mp z)), f_X12_after_b70, show (0 : Int32) = nI 0 from rfl, n_or, zlet, zlet, nI_1, if_neg hb]
    · show f_X12_after_b21 k6 (f + 1) m (nI s) (nI w) (nI t) _ (nI d) (nI (B 0)) (mmk M m sc lg ar en) = _
      have r0 : zrI (mmk M m sc lg ar en) (m + 1) 0 = some (nI (B 0)) := by rw [show (0 : Int32) = nI 0 from rfl, mm_rN1 (by omega), e0]
      rw [f_X12_after_b21, mm_gN0, Option.bind_some, r0, Option.bind_some, if_pos (nI_le (Nat.le_refl _) (by omega)), zlet, nI_1]
  have r6 : zrI (mmk M m sc lg ar en) (m + 1) 6 = some (nI (B 6)) := by rw [show (6 : Int32) = nI 6 from rfl, mm_rN1 (by omega), e6]
  have key : f_X12_after_b6 zfu m (nI s) (nI w) (nI t) (nI (mkp (fun d => stg (B 1) (dg B d) (B 0) w t (pst s d)) 0)) (nI 0) (mmk M m sc lg ar en) = some (nI (nxB B w t s), mmk M m sc lg ar en) := by
    refine loopZ (fun fuel d => f_X12_after_b6 fuel m (nI s) (nI w) (nI t) (nI (mkp (fun d => stg (B 1) (dg B d) (B 0) w t (pst s d)) d)) (nI d) (mmk M m sc lg ar en)) (B 6) _ (by omega) (fun f d hd => ?_) (fun f => ?_)
    · show f_X12_after_b6 (f + 1) m (nI s) (nI w) (nI t) _ (nI d) (mmk M m sc lg ar en) = _
      have i0 := inner (f_X12_after_b6 f) d (mkp (fun d => stg (B 1) (dg B d) (B 0) w t (pst s d)) d) hd
      rw [nI_0] at i0
      rw [f_X12_after_b6, mm_gN0, Option.bind_some, r6, Option.bind_some, if_neg (nI_ge hd (by omega))]
      exact i0
    · show f_X12_after_b6 (f + 1) m (nI s) (nI w) (nI t) _ (nI (B 6)) (mmk M m sc lg ar en) = _
      rw [f_X12_after_b6, mm_gN0, Option.bind_some, r6, Option.bind_some, if_pos (nI_le (Nat.le_refl _) (by omega))]
      rfl
  rw [f_X12_after]
  exact key
theorem m_all (hB : Bk (ar 0) B) (hnd : B 6 ≤ 3) {ds pl : Nat} (hds : ds < 2 ^ 31) (hpl : pl < 32) : f_X12_all m (nI ds) (nI pl) (mmk M m sc lg ar en) = some (nI (mkp (fun d => if ds.testBit d then pl else 0) (B 6)), mmk M m sc lg ar en) := by
  have e6 : ar 0 6 = nI (B 6) := hB 6 (by omega)
  have r6 : zrI (mmk M m sc lg ar en) (m + 1) 6 = some (nI (B 6)) := by rw [show (6 : Int32) = nI 6 from rfl, mm_rN1 (by omega), e6]
  have key : f_X12_all_b5 zfu m (nI ds) (nI pl) (nI (mkp (fun d => if ds.testBit d then pl else 0) 0)) (nI 0) (mmk M m sc lg ar en) = some (nI (mkp (fun d => if ds.testBit d then pl else 0) (B 6)), mmk M m sc lg ar en) := by
    refine loopZ (fun fuel d => f_X12_all_b5 fuel m (nI ds) (nI pl) (nI (mkp (fun d => if ds.testBit d then pl else 0) d)) (nI d) (mmk M m sc lg ar en)) (B 6) _ (by omega) (fun f d hd => ?_) (fun f => ?_)
    · show f_X12_all_b5 (f + 1) m (nI ds) (nI pl) (nI (mkp (fun d => if ds.testBit d then pl else 0) d)) (nI d) (mmk M m sc lg ar en) = f_X12_all_b5 f m (nI ds) (nI pl) (nI (mkp (fun d => if ds.testBit d then pl else 0) d ||| (if ds.testBit d then pl else 0) * 2 ^ (5 * d))) (nI (d + 1)) (mmk M m sc lg ar en)
      have hsl : pl * 2 ^ (5 * d) < 2 ^ 32 := by
        have : (2 : Nat) ^ (5 * d) ≤ 2 ^ 10 := p2b (by omega)
        calc _ ≤ 31 * 2 ^ 10 := Nat.mul_le_mul (by omega) this
          _ < 2 ^ 32 := by decide
      rw [f_X12_all_b5, mm_gN0, Option.bind_some, r6, Option.bind_some, if_neg (nI_ge hd (by omega)), show (5 : Int32) * nI d = nI (5 * d) from pk_mul 5 d, n_shl (by omega) hsl]
      by_cases hb : ds.testBit d = true
      · rw [if_pos ((n_bit1 hds (by omega)).mpr hb), f_X12_all_b38, n_or, zlet, zlet, nI_1, if_pos hb]
      · rw [if_neg (fun z => hb ((n_bit1 hds (by omega)).mp z)), f_X12_all_b38, show (0 : Int32) = nI 0 from rfl, n_or, zlet, zlet, nI_1, if_neg hb, Nat.zero_mul]
    · show f_X12_all_b5 (f + 1) m (nI ds) (nI pl) _ (nI (B 6)) (mmk M m sc lg ar en) = _
      rw [f_X12_all_b5, mm_gN0, Option.bind_some, r6, Option.bind_some, if_pos (nI_le (Nat.le_refl _) (by omega))]
  rw [f_X12_all]
  exact key
theorem m_tune {u T : Nat} (hu : u < 2 ^ T) (hT : T ≤ 20) (h5 : sc 5 = nI T) (h6 : sc 6 = nI (rvs u T)) : f_X12_tune m (mmk M m sc lg ar en) = some (nI u, mmk M m sc lg ar en) := by
  have hr := Nat.lt_of_lt_of_le (rvs_lt u T) (p2b hT)
  have e20 : (2 : Nat) ^ 20 = 1048576 := by decide
  have key : f_X12_tune_b4 zfu m (nI (rvs (rvs u T) 0)) (nI 0) (mmk M m sc lg ar en) = some (nI u, mmk M m sc lg ar en) := by
    refine loopZ (fun fuel j => f_X12_tune_b4 fuel m (nI (rvs (rvs u T) j)) (nI j) (mmk M m sc lg ar en)) T _ (by omega) (fun f j hj => ?_) (fun f => ?_)
    · show f_X12_tune_b4 (f + 1) m (nI (rvs (rvs u T) j)) (nI j) (mmk M m sc lg ar en) = f_X12_tune_b4 f m (nI (2 * rvs (rvs u T) j + (if (rvs u T).testBit j then 1 else 0))) (nI (j + 1)) (mmk M m sc lg ar en)
      rw [f_X12_tune_b4, mm_gI16, Option.bind_some, h5, if_neg (nI_ge hj (by omega)), mm_gI17, Option.bind_some, h6, n_bit (by omega) (by omega), show (2 : Int32) * nI (rvs (rvs u T) j) = nI (2 * rvs (rvs u T) j) from pk_mul 2 _, nI_add, zlet, zlet, nI_1]
    · show f_X12_tune_b4 (f + 1) m (nI (rvs (rvs u T) T)) (nI T) (mmk M m sc lg ar en) = _
      rw [f_X12_tune_b4, mm_gI16, Option.bind_some, h5, if_pos (nI_le (Nat.le_refl _) (by omega)), rvs_rvs hu]
  rw [f_X12_tune]
  exact key
end MAF
