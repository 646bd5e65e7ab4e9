/-! rows -/
/-- the row of the letters b -/
def rwz (b : Nat → Nat) : Nat → Nat
  | 0 => 0
  | n + 1 => rwz b n + b n * 2 ^ (3 * n)
theorem rwz_lt {b : Nat → Nat} : ∀ n, (∀ i, i < n → b i < 8) → rwz b n < 2 ^ (3 * n)
  | 0, _ => by rw [rwz]; decide
  | n + 1, h => by
    have h1 := rwz_lt n (fun i hi => h i (by omega))
    have h2 := h n (by omega)
    have e : 2 ^ (3 * (n + 1)) = 8 * 2 ^ (3 * n) := by rw [show 3 * (n + 1) = 3 * n + 3 by omega, Nat.pow_add, Nat.mul_comm]
    have h3 : b n * 2 ^ (3 * n) ≤ 7 * 2 ^ (3 * n) := Nat.mul_le_mul_right _ (by omega)
    rw [rwz, e]
    omega
theorem rwz_dig {b : Nat → Nat} : ∀ n k, k < n → (∀ i, i < n → b i < 8) → rwz b n / 2 ^ (3 * k) % 8 = b k
  | 0, k, hk, _ => by omega
  | n + 1, k, hk, h => by
    have h1 := rwz_lt n (fun i hi => h i (by omega))
    rw [rwz]
    by_cases z : k = n
    · subst z
      rw [Nat.add_mul_div_right _ _ (Nat.two_pow_pos _), Nat.div_eq_of_lt h1, Nat.zero_add, Nat.mod_eq_of_lt (h k (by omega))]
    · have ih := rwz_dig n k (by omega) (fun i hi => h i (by omega))
      have e : b n * 2 ^ (3 * n) = (b n * 2 ^ (3 * (n - k - 1)) * 8) * 2 ^ (3 * k) := by
        rw [Nat.mul_assoc, Nat.mul_assoc]
        congr 1
        rw [show (8 : Nat) = 2 ^ 3 from rfl, ← Nat.mul_assoc, ← Nat.pow_add, ← Nat.pow_add]
        congr 1
        omega
      rw [e, Nat.add_mul_div_right _ _ (Nat.two_pow_pos _), Nat.add_mul_mod_self_right]
      exact ih
theorem rwz_ok {b : Nat → Nat} {n : Nat} (hn : n ≤ 5) (h : ∀ i, i < n → b i < n) : RowOK n (rwz b n) := ⟨rwz_lt n (fun i hi => by have := h i hi; omega), fun k hk => by rw [rwz_dig n k hk (fun i hi => by have := h i hi; omega)]; exact h k hk⟩
/-- from the last place on -/
def rwy (b : Nat → Nat) (n : Nat) : Nat → Nat
  | 0 => 0
  | j + 1 => 8 * rwy b n j + b (n - (j + 1))
theorem rwy_s (b : Nat → Nat) (n : Nat) : ∀ j, j ≤ n → rwz b (n - j) + 2 ^ (3 * (n - j)) * rwy b n j = rwz b n
  | 0, _ => by rw [rwy, Nat.sub_zero, Nat.mul_zero, Nat.add_zero]
  | j + 1, h => by
    have ih := rwy_s b n j (by omega)
    obtain ⟨q, hq⟩ : ∃ q, q = n - (j + 1) := ⟨_, rfl⟩
    have e : n - j = q + 1 := by omega
    have p8 : 2 ^ (3 * (q + 1)) = 2 ^ (3 * q) * 8 := by rw [show 3 * (q + 1) = 3 * q + 3 by omega, Nat.pow_add]
    rw [e, rwz, p8, Nat.mul_assoc] at ih
    rw [rwy, ← hq, Nat.mul_add, Nat.mul_comm (2 ^ (3 * q)) (b q)]
    omega
theorem rwy_n (b : Nat → Nat) (n : Nat) : rwy b n n = rwz b n := by
  have := rwy_s b n n (Nat.le_refl _)
  rw [Nat.sub_self, rwz, Nat.mul_zero, Nat.pow_zero, Nat.one_mul, Nat.zero_add] at this
  exact this
/-- the token at p is the row of the letters b, all of them places -/
def RwA (T : Nat → Int32) (L n p : Nat) (b : Nat → Nat) : Prop := tkK T L p = 1 ∧ tkE T L p - tkS T L p = n ∧ ∀ i, i < n → b i < n ∧ btz T L (tkS T L p + i) = nI (97 + b i)
theorem RwA.uniq {T : Nat → Int32} {L n p : Nat} {b c : Nat → Nat} (hn : n ≤ 5) (h : RwA T L n p b) (k : RwA T L n p c) : ∀ i, i < n → b i = c i := fun i hi => by
  have h1 := h.2.2 i hi
  have k1 := k.2.2 i hi
  have := h1.2
  rw [k1.2] at this
  have := (nI_eq (by omega) (by omega)).mp this
  omega
section TR
variable {M : zMe} {r x4 to d : Nat} {ft : Int32} {L p : Nat} {T tx : Nat → Int32} {B : Nat → Nat}
/-- the letters of a word -/
theorem tk_let {T : Nat → Int32} {L p : Nat} (h : tkK T L p = 1) : ∃ b : Nat → Nat, ∀ i, i < tkE T L p - tkS T L p → b i ≤ 25 ∧ btz T L (tkS T L p + i) = nI (97 + b i) := by
  refine ⟨fun i => (btz T L (tkS T L p + i)).toNatClampNeg - 97, fun i hi => ?_⟩
  obtain ⟨c, e1, e2, e3⟩ := kd_1 ((tk_in (T := T) (L := L) (p := p) (tkS T L p + i) (by omega) (by omega)).trans h)
  show (btz T L (tkS T L p + i)).toNatClampNeg - 97 ≤ 25 ∧ btz T L (tkS T L p + i) = nI (97 + ((btz T L (tkS T L p + i)).toNatClampNeg - 97))
  rw [e3, nI_clamp (by omega)]
  exact ⟨by omega, by congr 1; omega⟩
/-- the loop over the letters: fine, or the first that is no place -/
theorem r_rowL (h : Txt M x4 r tx T L) (hto : to ≠ r) (hh : M.1 to = some (.inr (2, ho (nB B) d))) (hn : B 0 ≤ 5) (hp : p ≤ L) {b : Nat → Nat} (hl : tkE T L p - tkS T L p = B 0) (hb : ∀ i, i < B 0 → b i ≤ 25 ∧ btz T L (tkS T L p + i) = nI (97 + b i)) : (f_X7_takeRow_b37 zfu r 0 0 (rat M r x4 to T L p ft) = ((f_X7_advance r (rat M r x4 to T L p ft)).bind fun q => some (nI (rwz b (B 0)), q)) ∧ ∀ i, i < B 0 → b i < B 0) ∨ (f_X7_takeRow_b37 zfu r 0 0 (rat M r x4 to T L p ft) = ((f_X7_fail r (rat M r x4 to T L p ft)).bind fun q => some (0, q)) ∧ ∃ i, i < B 0 ∧ B 0 ≤ b i) := by
  have hL := h.2.2.2
  have he := tkE_le (T := T) hp
  have hh' : (rat M r x4 to T L p ft).1 to = some (.inr (2, ho (nB B) d)) := by
    show (rmk M r x4 to ft L (tkK T L p) (tkS T L p) (tkE T L p)).1 to = _
    rw [rm_out hto]; exact hh
  have hg := c_g hh'
  have g0 : zgN (rat M r x4 to T L p ft) r [7] 0 = some to := rm_g0
  have g5 : zgI (rat M r x4 to T L p ft) r [7] 5 = some (nI (tkS T L p)) := rm_g5
  have ob : zob (rat M r x4 to T L p ft) r 7 = some () := rm_ob
  have lp := loopX (S := Unit) (R := Option (Int32 × zMe)) (fun fuel j _ => f_X7_takeRow_b37 fuel r (nI (rwz b j)) (nI j) (rat M r x4 to T L p ft)) (B 0) (fun j _ => ∀ i, i < j → b i < B 0) (fun Q => (Q = ((f_X7_advance r (rat M r x4 to T L p ft)).bind fun q => some (nI (rwz b (B 0)), q)) ∧ ∀ i, i < B 0 → b i < B 0) ∨ (Q = ((f_X7_fail r (rat M r x4 to T L p ft)).bind fun q => some (0, q)) ∧ ∃ i, i < B 0 ∧ B 0 ≤ b i)) (by omega) (fun fu j _ hj hI => ?_) (fun fu _ hI => ?_) () (fun i hi => by omega)
  · exact lp
  · have q := hb j hj
    have by' : f_X7_byteAt r (nI (tkS T L p + j)) (rat M r x4 to T L p ft) = some (nI (97 + b j), rat M r x4 to T L p ft) := by
      unfold rat
      rw [r_byte h (by omega), q.2]
    have es : nI (97 + b j) - 97 = nI (b j) := by rw [show (97 : Int32) = nI 97 from rfl, n_subz (by omega), Nat.add_sub_cancel_left]
    have pre : f_X7_takeRow_b37 (fu + 1) r (nI (rwz b j)) (nI j) (rat M r x4 to T L p ft) = if cpl (nI (B 0)) (nI (b j)) = 0 then ((f_X7_fail r (rat M r x4 to T L p ft)).bind fun q => some (0, q)) else f_X7_takeRow_b37 fu r (nI (rwz b j) ||| (nI (b j) <<< ((3 * nI j) &&& 31))) (nI (j + 1)) (rat M r x4 to T L p ft) := by
      have pl : f_X2_isPlace to (nI (b j)) (rat M r x4 to T L p ft) = some (cpl (nI (B 0)) (nI (b j)), rat M r x4 to T L p ft) := c_isPlace hh' _
      rw [f_X7_takeRow_b37, g0, Option.bind_some, hg.1, Option.bind_some, if_neg (nI_ge hj (by omega)), g5, Option.bind_some, ob, Option.bind_some, nI_add, by', Option.bind_some, es, zlet, g0, Option.bind_some, c_obh hh', Option.bind_some, pl, Option.bind_some, ob, Option.bind_some, zlet, zlet, nI_1]
    by_cases c : b j < B 0
    · refine Or.inl ⟨(), ?_, fun i hi => ?_⟩
      · show f_X7_takeRow_b37 (fu + 1) r (nI (rwz b j)) (nI j) (rat M r x4 to T L p ft) = f_X7_takeRow_b37 fu r (nI (rwz b (j + 1))) (nI (j + 1)) (rat M r x4 to T L p ft)
        have hlt := rwz_lt (b := b) j (fun i hi => by have := hI i hi; omega)
        have h3 : (2 : Nat) ^ (3 * j) ≤ 2 ^ 12 := Nat.pow_le_pow_right (by decide) (by omega)
        have h4 : b j * 2 ^ (3 * j) ≤ 4 * 2 ^ 12 := Nat.mul_le_mul (by omega) h3
        have e3 : (3 : Int32) * nI j = nI (3 * j) := pk_mul 3 j
        rw [pre, cpl_ok c (by omega), if_neg one0, e3, n_shl (by omega) (by omega), n_or, rwz, Nat.or_comm, n_or_add hlt, Nat.add_comm]
      · by_cases z : i = j
        · rw [z]; exact c
        · exact hI i (by omega)
    · refine Or.inr (Or.inr ⟨?_, j, hj, by omega⟩)
      show f_X7_takeRow_b37 (fu + 1) r (nI (rwz b j)) (nI j) (rat M r x4 to T L p ft) = _
      rw [pre, cpl_no (Or.inr (nI_le (by omega) (by omega))), if_pos rfl]
  · refine Or.inl ⟨?_, hI⟩
    show f_X7_takeRow_b37 (fu + 1) r (nI (rwz b (B 0))) (nI (B 0)) (rat M r x4 to T L p ft) = _
    rw [f_X7_takeRow_b37, g0, Option.bind_some, hg.1, Option.bind_some, if_pos (nI_le (Nat.le_refl _) (by omega)), ob, Option.bind_some]
theorem rw_dec (T : Nat → Int32) (L n p : Nat) : (∃ b : Nat → Nat, (tkK T L p = 1 ∧ tkE T L p - tkS T L p = n) ∧ ∀ i, i < n → b i ≤ 25 ∧ btz T L (tkS T L p + i) = nI (97 + b i)) ∨ ¬ (tkK T L p = 1 ∧ tkE T L p - tkS T L p = n) := by
  by_cases c : tkK T L p = 1 ∧ tkE T L p - tkS T L p = n
  · obtain ⟨b, hb⟩ := tk_let c.1
    exact Or.inl ⟨b, c, fun i hi => hb i (by rw [c.2]; exact hi)⟩
  · exact Or.inr c
/-- what takeRow does: it goes on with the row, or fails -/
theorem r_row (h : Txt M x4 r tx T L) (hto : to ≠ r) (hh : M.1 to = some (.inr (2, ho (nB B) d))) (hn : B 0 ≤ 5) (hp : p ≤ L) : (∃ b, RwA T L (B 0) p b ∧ f_X7_takeRow r (rat M r x4 to T L p ft) = ((f_X7_advance r (rat M r x4 to T L p ft)).bind fun q => some (nI (rwz b (B 0)), q))) ∨ ((∀ b, ¬ RwA T L (B 0) p b) ∧ f_X7_takeRow r (rat M r x4 to T L p ft) = ((f_X7_fail r (rat M r x4 to T L p ft)).bind fun q => some (0, q))) := by
  have hL := h.2.2.2
  have he := tkE_le (T := T) hp
  have k4 : tkK T L p ≤ 4 := kdz_4 _
  have hh' : (rat M r x4 to T L p ft).1 to = some (.inr (2, ho (nB B) d)) := by
    show (rmk M r x4 to ft L (tkK T L p) (tkS T L p) (tkE T L p)).1 to = _
    rw [rm_out hto]; exact hh
  have hg := c_g hh'
  have g0 : zgN (rat M r x4 to T L p ft) r [7] 0 = some to := rm_g0
  have g4 : zgI (rat M r x4 to T L p ft) r [7] 4 = some (nI (tkK T L p)) := rm_g4
  have g5 : zgI (rat M r x4 to T L p ft) r [7] 5 = some (nI (tkS T L p)) := rm_g5
  have g6 : zgI (rat M r x4 to T L p ft) r [7] 6 = some (nI (tkE T L p)) := rm_g6
  have ob : zob (rat M r x4 to T L p ft) r 7 = some () := rm_ob
  rcases rw_dec T L (B 0) p with ⟨b, c, hb⟩ | hx
  · have st : f_X7_takeRow r (rat M r x4 to T L p ft) = f_X7_takeRow_b37 zfu r 0 0 (rat M r x4 to T L p ft) := by
      rw [f_X7_takeRow, g4, Option.bind_some, if_pos (show nI (tkK T L p) = 1 by rw [c.1]; rfl), g6, Option.bind_some, g5, Option.bind_some, g0, Option.bind_some, hg.1, Option.bind_some, n_subz he.1, if_pos (by rw [c.2])]
    rw [st]
    rcases r_rowL (ft := ft) h hto hh hn hp c.2 hb with ⟨e1, e2⟩ | ⟨e1, i, i1, i2⟩
    · exact Or.inl ⟨b, ⟨c.1, c.2, fun i hi => ⟨e2 i hi, (hb i hi).2⟩⟩, e1⟩
    · refine Or.inr ⟨fun b' hb' => ?_, e1⟩
      have q1 := hb'.2.2 i i1
      have q2 := (hb i i1).2
      rw [q1.2] at q2
      have q3 := hb i i1
      have := (nI_eq (by omega) (by omega)).mp q2
      omega
  · refine Or.inr ⟨fun b' hb' => hx ⟨hb'.1, hb'.2.1⟩, ?_⟩
    rw [f_X7_takeRow, g4, Option.bind_some]
    by_cases c1 : tkK T L p = 1
    · have c2 : ¬ tkE T L p - tkS T L p = B 0 := fun z => hx ⟨c1, z⟩
      rw [if_pos (show nI (tkK T L p) = 1 by rw [c1]; rfl), g6, Option.bind_some, g5, Option.bind_some, g0, Option.bind_some, hg.1, Option.bind_some, n_subz he.1, if_neg (fun z => c2 ((nI_eq (by omega) (by omega)).mp z)), f_X7_takeRow_b27, ob, Option.bind_some]
    · rw [if_neg (show ¬ nI (tkK T L p) = 1 from fun z => c1 ((nI_eq (b := 1) (by omega) (by omega)).mp z)), f_X7_takeRow_b27, ob, Option.bind_some]
/-- behind a fault a row stands still -/
theorem r_rowF (h : Txt M x4 r tx T L) (hto : to ≠ r) (hh : M.1 to = some (.inr (2, ho (nB B) d))) (hn : B 0 ≤ 5) (hp : p ≤ L) (hf : ft ≠ -1) : ∃ v, f_X7_takeRow r (rat M r x4 to T L p ft) = some (nI v, rat M r x4 to T L p ft) := by
  rcases r_row (ft := ft) h hto hh hn hp with ⟨b, -, e⟩ | ⟨-, e⟩
  · exact ⟨rwz b (B 0), by rw [e, rat_advN hf, Option.bind_some]⟩
  · exact ⟨0, by rw [e, rat_failN hf, Option.bind_some]; rfl⟩
end TR
section RR
variable {N : zMe} {m : Nat} {sc : Nat → Int32} {lg : Nat → Int64} {ar : Nat → Nat → Int32} {en : Nat → Int64} {k s l L p n : Nat} {T : Nat → Int32}
/-- the reference's loop over the letters -/
theorem rf_rowL (h : TxR sc ar T L) (hn : n ≤ 5) (hp : p ≤ L) (ha : ar 1 0 = nI n) {b : Nat → Nat} (hl : tkE T L p - tkS T L p = n) (hb : ∀ i, i < n → b i ≤ 25 ∧ btz T L (tkS T L p + i) = nI (97 + b i)) : ((∀ i, i < n → b i < n) ∧ f_X12_row_b38 zfu m 0 1 (nI n + (-1)) (raf N m sc lg ar en T L p) = some (nI (rwz b n), raf N m sc lg ar en T L p)) ∨ ((∃ i, i < n ∧ n ≤ b i) ∧ f_X12_row_b38 zfu m 0 1 (nI n + (-1)) (raf N m sc lg ar en T L p) = some (-1, raf N m sc lg ar en T L p)) := by
  have hL := h.2.1
  have he := tkE_le (T := T) hp
  have g1 : zgN (raf N m sc lg ar en T L p) m [12] 1 = some (m + 2) := mm_gN1
  have g11 : zgI (raf N m sc lg ar en T L p) m [12] 11 = some (nI (tkS T L p)) := rf_g11
  have ob : zob (raf N m sc lg ar en T L p) m 12 = some () := rf_ob
  have r0 : zrI (raf N m sc lg ar en T L p) (m + 2) 0 = some (nI n) := by
    show zrI (mmk N m _ lg ar en) (m + 2) (nI 0) = _
    rw [mm_rN2 (by omega), ha]
  have lp := loopX (S := Bool) (R := Option (Int32 × zMe)) (fun fuel j g => f_X12_row_b38 fuel m (nI (rwy b n j)) (bI g) (nI (n - j) + (-1)) (raf N m sc lg ar en T L p)) n (fun j g => (g = true ∧ ∀ i, n - j ≤ i → i < n → b i < n) ∨ (g = false ∧ ∃ i, i < n ∧ n ≤ b i)) (fun Q => ((∀ i, i < n → b i < n) ∧ Q = some (nI (rwz b n), raf N m sc lg ar en T L p)) ∨ ((∃ i, i < n ∧ n ≤ b i) ∧ Q = some (-1, raf N m sc lg ar en T L p))) (by omega) (fun fu j g hj hI => Or.inl ?_) (fun fu g hI => ?_) true (Or.inl ⟨rfl, fun i h1 h2 => by omega⟩)
  · exact lp
  · obtain ⟨q, hq⟩ : ∃ q, q = n - (j + 1) := ⟨_, rfl⟩
    have e1 : nI (n - j) + (-1) = nI q := by rw [show n - j = q + 1 by omega, pk_m1]
    have e2 : nI q + (-1) = nI (n - (j + 1)) + (-1) := by rw [hq]
    have qb := hb q (by omega)
    have by' : f_X12_byteAt m (nI (tkS T L p + q)) (raf N m sc lg ar en T L p) = some (nI (97 + b q), raf N m sc lg ar en T L p) := by
      unfold raf
      rw [rf_byte h (by omega), qb.2]
    have es : nI (97 + b q) - 97 = nI (b q) := by rw [show (97 : Int32) = nI 97 from rfl, n_subz (by omega), Nat.add_sub_cancel_left]
    have e8 : (8 : Int32) * nI (rwy b n j) + nI (b q) = nI (rwy b n (j + 1)) := by rw [show (8 : Int32) * nI (rwy b n j) = nI (8 * rwy b n j) from pk_mul 8 _, nI_add, rwy, ← hq]
    have st : f_X12_row_b38 (fu + 1) m (nI (rwy b n j)) (bI g) (nI (n - j) + (-1)) (raf N m sc lg ar en T L p) = f_X12_row_b38 fu m (nI (rwy b n (j + 1))) (bI (g && decide (b q < n))) (nI (n - (j + 1)) + (-1)) (raf N m sc lg ar en T L p) := by
      rw [e1, f_X12_row_b38, if_neg (nI_pos (by omega)), g11, Option.bind_some, ob, Option.bind_some, nI_add, by', Option.bind_some, es, zlet, f_X12_row_b76, f_X12_row_b77, zlet, e8, zlet, e2]
      cases g with
      | false => rw [if_pos (show bI false = 0 from rfl)]; rfl
      | true =>
        rw [if_neg (show ¬ bI true = 0 by decide), g1, Option.bind_some, r0, Option.bind_some]
        by_cases c : b q < n
        · rw [if_neg (nI_ge c (by omega)), f_X12_row_b77, e8, zlet, zlet, e2, decide_eq_true c]; rfl
        · rw [if_pos (nI_le (by omega) (by omega)), decide_eq_false c]; rfl
    refine ⟨g && decide (b q < n), st, ?_⟩
    rcases hI with ⟨i1, i2⟩ | ⟨i1, i2⟩
    · have i1 : g = true := i1
      subst i1
      by_cases c : b q < n
      · refine Or.inl ⟨by rw [decide_eq_true c]; rfl, fun i h1 h2 => ?_⟩
        by_cases z : i = q
        · rw [z]; exact c
        · exact i2 i (by omega) h2
      · exact Or.inr ⟨by rw [decide_eq_false c]; rfl, q, by omega, by omega⟩
    · have i1 : g = false := i1
      subst i1
      exact Or.inr ⟨rfl, i2⟩
  · show ((∀ i, i < n → b i < n) ∧ f_X12_row_b38 (fu + 1) m (nI (rwy b n n)) (bI g) (nI (n - n) + (-1)) (raf N m sc lg ar en T L p) = _) ∨ (_ ∧ f_X12_row_b38 (fu + 1) m (nI (rwy b n n)) (bI g) (nI (n - n) + (-1)) (raf N m sc lg ar en T L p) = _)
    have neg : nI (n - n) + (-1) < 0 := by rw [Nat.sub_self]; decide
    rw [f_X12_row_b38, if_pos neg, f_X12_row_b101, f_X12_row_b101, rwy_n]
    rcases hI with ⟨i1, i2⟩ | ⟨i1, i2⟩
    · have i1 : g = true := i1
      subst i1
      rw [if_neg (show ¬ bI true = 0 by decide)]
      exact Or.inl ⟨fun i hi => i2 i (by omega) hi, rfl⟩
    · have i1 : g = false := i1
      subst i1
      rw [if_pos (show bI false = 0 from rfl)]
      exact Or.inr ⟨i2, rfl⟩
theorem rf_row (h : TxR sc ar T L) (hn : n ≤ 5) (hp : p ≤ L) (ha : ar 1 0 = nI n) : (∃ b, RwA T L n p b ∧ f_X12_row m (rfm N m sc lg ar en p k s l) = some (nI (rwz b n), raf N m sc lg ar en T L p)) ∨ ((∀ b, ¬ RwA T L n p b) ∧ f_X12_row m (rfm N m sc lg ar en p k s l) = some (-1, raf N m sc lg ar en T L p)) := by
  have hL := h.2.1
  have he := tkE_le (T := T) hp
  have k4 : tkK T L p ≤ 4 := kdz_4 _
  have g1 : zgN (raf N m sc lg ar en T L p) m [12] 1 = some (m + 2) := mm_gN1
  have g10 : zgI (raf N m sc lg ar en T L p) m [12] 10 = some (nI (tkK T L p)) := rf_g10
  have g12 : zgI (raf N m sc lg ar en T L p) m [12] 12 = some (nI (tkE T L p - tkS T L p)) := rf_g12
  have tk : f_X12_token m (rfm N m sc lg ar en p k s l) = some (raf N m sc lg ar en T L p) := rf_token h hp
  have r0 : zrI (raf N m sc lg ar en T L p) (m + 2) 0 = some (nI n) := by
    show zrI (mmk N m _ lg ar en) (m + 2) (nI 0) = _
    rw [mm_rN2 (by omega), ha]
  rw [f_X12_row, rf_ob, Option.bind_some, tk, Option.bind_some, g10, Option.bind_some]
  rcases rw_dec T L n p with ⟨b, c, hb⟩ | hx
  · have em : nI n - 1 = nI n + (-1) := by rw [Int32.sub_eq_add_neg]
    rw [if_pos (show nI (tkK T L p) = 1 by rw [c.1]; rfl), g12, Option.bind_some, g1, Option.bind_some, r0, Option.bind_some, if_pos (by rw [c.2]), Option.bind_some, c.2, em, zlet]
    rcases rf_rowL (N := N) (m := m) (sc := sc) (lg := lg) (en := en) h hn hp ha c.2 hb with ⟨e2, e1⟩ | ⟨⟨i, i1, i2⟩, e1⟩
    · exact Or.inl ⟨b, ⟨c.1, c.2, fun i hi => ⟨e2 i hi, (hb i hi).2⟩⟩, e1⟩
    · refine Or.inr ⟨fun b' hb' => ?_, e1⟩
      have q1 := hb'.2.2 i i1
      have q2 := (hb i i1).2
      rw [q1.2] at q2
      have q3 := hb i i1
      have := (nI_eq (by omega) (by omega)).mp q2
      omega
  · refine Or.inr ⟨fun b' hb' => hx ⟨hb'.1, hb'.2.1⟩, ?_⟩
    by_cases c1 : tkK T L p = 1
    · have c2 : ¬ tkE T L p - tkS T L p = n := fun z => hx ⟨c1, z⟩
      rw [if_pos (show nI (tkK T L p) = 1 by rw [c1]; rfl), g12, Option.bind_some, g1, Option.bind_some, r0, Option.bind_some, if_neg (fun z => c2 ((nI_eq (by omega) (by omega)).mp z)), f_X12_row_b25]
    · rw [if_neg (show ¬ nI (tkK T L p) = 1 from fun z => c1 ((nI_eq (b := 1) (by omega) (by omega)).mp z)), f_X12_row_b25]
end RR
