/-! numbers and marks -/
theorem kd_2 {b : Int32} (h : kdz b = 2) : ∃ c, 48 ≤ c ∧ c ≤ 57 ∧ b = nI c := by
  unfold kdz at h
  by_cases h0 : 0 ≤ b
  · rw [if_pos h0] at h
    by_cases h1 : b < 97
    · rw [if_pos h1] at h
      by_cases h2 : b < 48
      · rw [if_pos h2] at h
        exfalso
        revert h
        split <;> (intro z; omega)
      · rw [if_neg h2] at h
        by_cases h3 : 57 < b
        · rw [if_pos h3] at h
          exfalso
          revert h
          split <;> (intro z; omega)
        · rcases zin_r (a := 48) (b := 57) (by omega) (by omega) b with ⟨-, y | y⟩ | ⟨c, c1, c2, c3⟩
          · exact absurd y h2
          · exact absurd y h3
          · exact ⟨c, c1, c2, c3⟩
    · rw [if_neg h1] at h
      exfalso
      revert h
      split <;> (intro z; omega)
  · rw [if_neg h0] at h; omega
/-- the token at p is the number v -/
def NmA (T : Nat → Int32) (L p v : Nat) : Prop := tkK T L p = 2 ∧ tkE T L p - tkS T L p = 1 ∧ v ≤ 9 ∧ btz T L (tkS T L p) = nI (48 + v)
theorem NmA.uniq {T : Nat → Int32} {L p v w : Nat} (h : NmA T L p v) (k : NmA T L p w) : v = w := by
  obtain ⟨-, -, h1, h2⟩ := h
  obtain ⟨-, -, k1, k2⟩ := k
  rw [h2] at k2
  have := (nI_eq (by omega) (by omega)).mp k2
  omega
section TN
variable {M : zMe} {r x4 to : Nat} {ft : Int32} {L p : Nat} {T tx : Nat → Int32}
theorem nm_dec (T : Nat → Int32) (L p : Nat) : (∃ v, NmA T L p v) ∨ ¬ (tkK T L p = 2 ∧ tkE T L p - tkS T L p = 1) := by
  by_cases c : tkK T L p = 2 ∧ tkE T L p - tkS T L p = 1
  · obtain ⟨d, d1, d2, d3⟩ := kd_2 c.1
    exact Or.inl ⟨d - 48, c.1, c.2, by omega, by rw [d3]; congr 1; omega⟩
  · exact Or.inr c
/-- the reader stands at p -/
def rat (M : zMe) (r x4 to : Nat) (T : Nat → Int32) (L p : Nat) (ft : Int32) : zMe := rmk M r x4 to ft L (tkK T L p) (tkS T L p) (tkE T L p)
theorem rat_adv (h : Txt M x4 r tx T L) (hp : p ≤ L) : f_X7_advance r (rat M r x4 to T L p (-1)) = some (rat M r x4 to T L (tkE T L p) (-1)) := r_adv h (tkE_le hp).2.1
theorem nI_m1 {n : Nat} (h : n < 2 ^ 31) : nI n ≠ -1 := fun z => by
  have : (nI n).toInt = (-1 : Int32).toInt := by rw [z]
  rw [nI_toInt h] at this
  have e : (-1 : Int32).toInt = -1 := by decide
  omega
/-- a number is taken -/
theorem r_numS (h : Txt M x4 r tx T L) (hp : p ≤ L) {v lo hi : Nat} (hv : NmA T L p v) (h1 : lo ≤ v) (h2 : v ≤ hi) (hhi : hi < 2 ^ 31) : f_X7_takeNumber r (nI lo) (nI hi) (rat M r x4 to T L p (-1)) = some (nI v, rat M r x4 to T L (tkE T L p) (-1)) := by
  obtain ⟨c1, c2, c3, c4⟩ := hv
  have hL := h.2.2.2
  have he := tkE_le (T := T) hp
  have by' : f_X7_byteAt r (nI (tkS T L p)) (rat M r x4 to T L p (-1)) = some (nI (48 + v), rat M r x4 to T L p (-1)) := by
    unfold rat
    rw [r_byte h (by omega), c4]
  have es : nI (48 + v) - 48 = nI v := by rw [show (48 : Int32) = nI 48 from rfl, n_subz (by omega), Nat.add_sub_cancel_left]
  have g4 : zgI (rat M r x4 to T L p (-1)) r [7] 4 = some (nI (tkK T L p)) := rm_g4
  have g5 : zgI (rat M r x4 to T L p (-1)) r [7] 5 = some (nI (tkS T L p)) := rm_g5
  have g6 : zgI (rat M r x4 to T L p (-1)) r [7] 6 = some (nI (tkE T L p)) := rm_g6
  have ob : zob (rat M r x4 to T L p (-1)) r 7 = some () := rm_ob
  rw [f_X7_takeNumber, g4, Option.bind_some, if_pos (show nI (tkK T L p) = 2 by rw [c1]; rfl), g6, Option.bind_some, g5, Option.bind_some, n_subz he.1, if_pos (show nI (tkE T L p - tkS T L p) = 1 by rw [c2]; rfl), Option.bind_some, ob, Option.bind_some, by', Option.bind_some, es, zlet, if_neg (nI_nlt h1 (by omega)), if_pos (nI_le h2 (by omega)), ob, Option.bind_some, rat_adv h hp, Option.bind_some]
/-- no number is taken -/
theorem r_numX (h : Txt M x4 r tx T L) (hp : p ≤ L) {lo hi : Nat} (hv : ∀ v, NmA T L p v → v < lo ∨ hi < v) (hhi : hi < 2 ^ 31) (hlo : lo < 2 ^ 31) : f_X7_takeNumber r (nI lo) (nI hi) (rat M r x4 to T L p ft) = (f_X7_fail r (rat M r x4 to T L p ft)).bind fun q => some (nI lo, q) := by
  have hL := h.2.2.2
  have he := tkE_le (T := T) hp
  have k4 : tkK T L p ≤ 4 := kdz_4 _
  have g4 : zgI (rat M r x4 to T L p ft) r [7] 4 = some (nI (tkK T L p)) := rm_g4
  have g5 : zgI (rat M r x4 to T L p ft) r [7] 5 = some (nI (tkS T L p)) := rm_g5
  have g6 : zgI (rat M r x4 to T L p ft) r [7] 6 = some (nI (tkE T L p)) := rm_g6
  have ob : zob (rat M r x4 to T L p ft) r 7 = some () := rm_ob
  rcases nm_dec T L p with ⟨v, hvv⟩ | hn
  · have hvr := hv v hvv
    obtain ⟨c1, c2, c3, c4⟩ := hvv
    have by' : f_X7_byteAt r (nI (tkS T L p)) (rat M r x4 to T L p ft) = some (nI (48 + v), rat M r x4 to T L p ft) := by
      unfold rat
      rw [r_byte h (by omega), c4]
    have es : nI (48 + v) - 48 = nI v := by rw [show (48 : Int32) = nI 48 from rfl, n_subz (by omega), Nat.add_sub_cancel_left]
    rw [f_X7_takeNumber, g4, Option.bind_some, if_pos (show nI (tkK T L p) = 2 by rw [c1]; rfl), g6, Option.bind_some, g5, Option.bind_some, n_subz he.1, if_pos (show nI (tkE T L p - tkS T L p) = 1 by rw [c2]; rfl), Option.bind_some, ob, Option.bind_some, by', Option.bind_some, es, zlet]
    by_cases q : v < lo
    · rw [if_pos (nI_lt q (by omega)), f_X7_takeNumber_b49, ob, Option.bind_some]
    · rw [if_neg (nI_nlt (by omega) (by omega)), if_neg (nI_ge (by omega) (by omega)), f_X7_takeNumber_b49, ob, Option.bind_some]
  · rw [f_X7_takeNumber, g4, Option.bind_some]
    by_cases c1 : tkK T L p = 2
    · have c2 : ¬ tkE T L p - tkS T L p = 1 := fun z => hn ⟨c1, z⟩
      rw [if_pos (show nI (tkK T L p) = 2 by rw [c1]; rfl), g6, Option.bind_some, g5, Option.bind_some, n_subz he.1, if_neg (show ¬ nI (tkE T L p - tkS T L p) = 1 from fun z => c2 ((nI_eq (b := 1) (by omega) (by omega)).mp z)), f_X7_takeNumber_b21, ob, Option.bind_some]
    · rw [if_neg (show ¬ nI (tkK T L p) = 2 from fun z => c1 ((nI_eq (b := 2) (by omega) (by omega)).mp z)), f_X7_takeNumber_b21, ob, Option.bind_some]
theorem rat_fail : f_X7_fail r (rat M r x4 to T L p (-1)) = some (rat M r x4 to T L p (nI (tkS T L p))) := r_fail
theorem rat_failN (hf : ft ≠ -1) : f_X7_fail r (rat M r x4 to T L p ft) = some (rat M r x4 to T L p ft) := r_fail_no hf
theorem rat_advN (hf : ft ≠ -1) : f_X7_advance r (rat M r x4 to T L p ft) = some (rat M r x4 to T L p ft) := r_adv_no hf
/-- behind a fault a number stands still -/
theorem r_numF (h : Txt M x4 r tx T L) (hp : p ≤ L) (hf : ft ≠ -1) {lo hi : Nat} (hlh : lo ≤ hi) (hhi : hi < 2 ^ 31) : ∃ v, lo ≤ v ∧ v ≤ hi ∧ f_X7_takeNumber r (nI lo) (nI hi) (rat M r x4 to T L p ft) = some (nI v, rat M r x4 to T L p ft) := by
  by_cases hv : ∀ v, NmA T L p v → v < lo ∨ hi < v
  · exact ⟨lo, by omega, hlh, by rw [r_numX h hp hv hhi (by omega), rat_failN hf, Option.bind_some]⟩
  · obtain ⟨v, hvv, h1, h2⟩ : ∃ v, NmA T L p v ∧ lo ≤ v ∧ v ≤ hi := by
      apply Classical.byContradiction
      intro z
      apply hv
      intro v hvv
      apply Classical.byContradiction
      intro y
      exact z ⟨v, hvv, by omega, by omega⟩
    refine ⟨v, h1, h2, ?_⟩
    obtain ⟨c1, c2, c3, c4⟩ := hvv
    have hL := h.2.2.2
    have he := tkE_le (T := T) hp
    have by' : f_X7_byteAt r (nI (tkS T L p)) (rat M r x4 to T L p ft) = some (nI (48 + v), rat M r x4 to T L p ft) := by
      unfold rat
      rw [r_byte h (by omega), c4]
    have es : nI (48 + v) - 48 = nI v := by rw [show (48 : Int32) = nI 48 from rfl, n_subz (by omega), Nat.add_sub_cancel_left]
    have g4 : zgI (rat M r x4 to T L p ft) r [7] 4 = some (nI (tkK T L p)) := rm_g4
    have g5 : zgI (rat M r x4 to T L p ft) r [7] 5 = some (nI (tkS T L p)) := rm_g5
    have g6 : zgI (rat M r x4 to T L p ft) r [7] 6 = some (nI (tkE T L p)) := rm_g6
    have ob : zob (rat M r x4 to T L p ft) r 7 = some () := rm_ob
    rw [f_X7_takeNumber, g4, Option.bind_some, if_pos (show nI (tkK T L p) = 2 by rw [c1]; rfl), g6, Option.bind_some, g5, Option.bind_some, n_subz he.1, if_pos (show nI (tkE T L p - tkS T L p) = 1 by rw [c2]; rfl), Option.bind_some, ob, Option.bind_some, by', Option.bind_some, es, zlet, if_neg (nI_nlt h1 (by omega)), if_pos (nI_le h2 (by omega)), ob, Option.bind_some, rat_advN hf, Option.bind_some]
theorem r_mark (h : Txt M x4 r tx T L) (hp : p ≤ L) : f_X7_takeMark r (rat M r x4 to T L p (-1)) = some (if tkK T L p = 3 then rat M r x4 to T L (tkE T L p) (-1) else rat M r x4 to T L p (nI (tkS T L p))) := by
  have k4 : tkK T L p ≤ 4 := kdz_4 _
  have g4 : zgI (rat M r x4 to T L p (-1)) r [7] 4 = some (nI (tkK T L p)) := rm_g4
  have ob : zob (rat M r x4 to T L p (-1)) r 7 = some () := rm_ob
  rw [f_X7_takeMark, g4, Option.bind_some]
  by_cases c : tkK T L p = 3
  · rw [if_pos (show nI (tkK T L p) = 3 by rw [c]; rfl), ob, Option.bind_some, rat_adv h hp, Option.bind_some, f_X7_takeMark_b19, if_pos c]
  · rw [if_neg (show ¬ nI (tkK T L p) = 3 from fun z => c ((nI_eq (b := 3) (by omega) (by omega)).mp z)), ob, Option.bind_some, rat_fail, Option.bind_some, f_X7_takeMark_b19, if_neg c]
theorem r_markF (hf : ft ≠ -1) : f_X7_takeMark r (rat M r x4 to T L p ft) = some (rat M r x4 to T L p ft) := by
  have g4 : zgI (rat M r x4 to T L p ft) r [7] 4 = some (nI (tkK T L p)) := rm_g4
  have ob : zob (rat M r x4 to T L p ft) r 7 = some () := rm_ob
  rw [f_X7_takeMark, g4, Option.bind_some]
  by_cases c : nI (tkK T L p) = 3
  · rw [if_pos c, ob, Option.bind_some, rat_advN hf, Option.bind_some, f_X7_takeMark_b19]
  · rw [if_neg c, ob, Option.bind_some, rat_failN hf, Option.bind_some, f_X7_takeMark_b19]
end TN
section RN
variable {N : zMe} {m : Nat} {sc : Nat → Int32} {lg : Nat → Int64} {ar : Nat → Nat → Int32} {en : Nat → Int64} {k s l L p : Nat} {T : Nat → Int32}
/-- the reference has read the token at p -/
def raf (N : zMe) (m : Nat) (sc : Nat → Int32) (lg : Nat → Int64) (ar : Nat → Nat → Int32) (en : Nat → Int64) (T : Nat → Int32) (L p : Nat) : zMe := rfm N m sc lg ar en (tkE T L p) (tkK T L p) (tkS T L p) (tkE T L p - tkS T L p)
theorem rf_fig (h : TxR sc ar T L) (hp : p ≤ L) (lo hi : Int32) : f_X12_figure m lo hi (rfm N m sc lg ar en p k s l) = if tkK T L p = 2 ∧ tkE T L p - tkS T L p = 1 then (if zin (btz T L (tkS T L p) - 48) lo hi = 0 then some (-1, raf N m sc lg ar en T L p) else some (btz T L (tkS T L p) - 48, raf N m sc lg ar en T L p)) else some (-1, raf N m sc lg ar en T L p) := by
  have hL := h.2.1
  have he := tkE_le (T := T) hp
  have k4 : tkK T L p ≤ 4 := kdz_4 _
  have g10 : zgI (raf N m sc lg ar en T L p) m [12] 10 = some (nI (tkK T L p)) := rf_g10
  have g11 : zgI (raf N m sc lg ar en T L p) m [12] 11 = some (nI (tkS T L p)) := rf_g11
  have g12 : zgI (raf N m sc lg ar en T L p) m [12] 12 = some (nI (tkE T L p - tkS T L p)) := rf_g12
  have ob : zob (raf N m sc lg ar en T L p) m 12 = some () := rf_ob
  have tk : f_X12_token m (rfm N m sc lg ar en p k s l) = some (raf N m sc lg ar en T L p) := rf_token h hp
  have by' : f_X12_byteAt m (nI (tkS T L p)) (raf N m sc lg ar en T L p) = some (btz T L (tkS T L p), raf N m sc lg ar en T L p) := rf_byte h (by omega)
  rw [f_X12_figure, rf_ob, Option.bind_some, tk, Option.bind_some, g11, Option.bind_some, ob, Option.bind_some, by', Option.bind_some, zlet, g10, Option.bind_some]
  by_cases c1 : tkK T L p = 2
  · rw [if_pos (show nI (tkK T L p) = 2 by rw [c1]; rfl), g12, Option.bind_some]
    by_cases c2 : tkE T L p - tkS T L p = 1
    · rw [if_pos (show nI (tkE T L p - tkS T L p) = 1 by rw [c2]; rfl), m_in, Option.bind_some, if_pos (show tkK T L p = 2 ∧ tkE T L p - tkS T L p = 1 from ⟨c1, c2⟩)]
      rfl
    · rw [if_neg (show ¬ nI (tkE T L p - tkS T L p) = 1 from fun z => c2 ((nI_eq (b := 1) (by omega) (by omega)).mp z)), if_neg (fun z => c2 z.2)]
      rfl
  · rw [if_neg (show ¬ nI (tkK T L p) = 2 from fun z => c1 ((nI_eq (b := 2) (by omega) (by omega)).mp z)), if_neg (fun z => c1 z.1)]
    rfl
theorem rf_numS (h : TxR sc ar T L) (hp : p ≤ L) {v lo hi : Nat} (hv : NmA T L p v) (h1 : lo ≤ v) (h2 : v ≤ hi) (hhi : hi < 2 ^ 31) : f_X12_figure m (nI lo) (nI hi) (rfm N m sc lg ar en p k s l) = some (nI v, raf N m sc lg ar en T L p) := by
  obtain ⟨c1, c2, c3, c4⟩ := hv
  have es : nI (48 + v) - 48 = nI v := by rw [show (48 : Int32) = nI 48 from rfl, n_subz (by omega), Nat.add_sub_cancel_left]
  rw [rf_fig h hp, if_pos ⟨c1, c2⟩, c4, es, zin_k hhi h1 h2, if_neg one0]
theorem rf_numX (h : TxR sc ar T L) (hp : p ≤ L) {lo hi : Nat} (hv : ∀ v, NmA T L p v → v < lo ∨ hi < v) (hhi : hi < 2 ^ 31) (hlo : lo < 2 ^ 31) : f_X12_figure m (nI lo) (nI hi) (rfm N m sc lg ar en p k s l) = some (-1, raf N m sc lg ar en T L p) := by
  rw [rf_fig h hp]
  rcases nm_dec T L p with ⟨v, hvv⟩ | hn
  · have hvr := hv v hvv
    obtain ⟨c1, c2, c3, c4⟩ := hvv
    have es : nI (48 + v) - 48 = nI v := by rw [show (48 : Int32) = nI 48 from rfl, n_subz (by omega), Nat.add_sub_cancel_left]
    have z : zin (nI v) (nI lo) (nI hi) = 0 := by
      unfold zin
      by_cases q : v < lo
      · rw [if_pos (nI_lt q (by omega))]
      · rw [if_neg (nI_nlt (by omega) (by omega)), if_pos (nI_lt (by omega) (by omega))]
    rw [if_pos ⟨c1, c2⟩, c4, es, z, if_pos rfl]
  · rw [if_neg hn]
end RN
