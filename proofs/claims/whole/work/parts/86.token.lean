/-! the tokens of the text -/
def btz (T : Nat → Int32) (L i : Nat) : Int32 := if i < L then T i else -1
def kdz (b : Int32) : Nat := if 0 ≤ b then (if b < 97 then (if b < 48 then (if b = 59 then 3 else 4) else if 57 < b then (if b = 59 then 3 else 4) else 2) else if 122 < b then 4 else 1) else 0
theorem kdz_4 (b : Int32) : kdz b ≤ 4 := by
  unfold kdz
  repeat' split
  all_goals omega
def skz (bt : Nat → Int32) : Nat → Nat → Nat
  | 0, p => p
  | n + 1, p => if bt p = 32 then skz bt n (p + 1) else p
def rnz (bt : Nat → Int32) (k : Nat) : Nat → Nat → Nat
  | 0, p => p
  | n + 1, p => if kdz (bt p) = k then rnz bt k n (p + 1) else p
def tkS (T : Nat → Int32) (L p : Nat) : Nat := skz (btz T L) (L - p) p
def tkR (T : Nat → Int32) (L k p : Nat) : Nat := rnz (btz T L) k (L - p) p
def tkK (T : Nat → Int32) (L p : Nat) : Nat := kdz (btz T L (tkS T L p))
def tkE (T : Nat → Int32) (L p : Nat) : Nat := if tkK T L p = 0 then tkS T L p else if tkK T L p = 1 ∨ tkK T L p = 2 then tkR T L (tkK T L p) (tkS T L p + 1) else tkS T L p + 1
section TK
variable {T : Nat → Int32} {L : Nat}
theorem bt_out {p : Nat} (h : L ≤ p) : btz T L p = -1 := by unfold btz; rw [if_neg (by omega)]
theorem kd_out {p : Nat} (h : L ≤ p) : kdz (btz T L p) = 0 := by rw [bt_out h]; decide
theorem tkS_s (p : Nat) : tkS T L p = if btz T L p = 32 then tkS T L (p + 1) else p := by
  unfold tkS
  by_cases h : p < L
  · obtain ⟨n, hn⟩ : ∃ n, L - p = n + 1 := ⟨L - p - 1, by omega⟩
    rw [hn, skz, show L - (p + 1) = n by omega]
  · rw [bt_out (by omega), if_neg (by decide), show L - p = 0 by omega, skz]
theorem tkR_s {k : Nat} (hk : k ≠ 0) (p : Nat) : tkR T L k p = if kdz (btz T L p) = k then tkR T L k (p + 1) else p := by
  unfold tkR
  by_cases h : p < L
  · obtain ⟨n, hn⟩ : ∃ n, L - p = n + 1 := ⟨L - p - 1, by omega⟩
    rw [hn, rnz, show L - (p + 1) = n by omega]
  · rw [kd_out (by omega), if_neg (fun z => hk z.symm), show L - p = 0 by omega, rnz]
theorem skz_le (bt : Nat → Int32) : ∀ n p, p ≤ skz bt n p ∧ skz bt n p ≤ p + n
  | 0, p => ⟨Nat.le_refl _, Nat.le_refl _⟩
  | n + 1, p => by
    have := skz_le bt n (p + 1)
    rw [skz]
    split <;> omega
theorem rnz_le (bt : Nat → Int32) (k : Nat) : ∀ n p, p ≤ rnz bt k n p ∧ rnz bt k n p ≤ p + n
  | 0, p => ⟨Nat.le_refl _, Nat.le_refl _⟩
  | n + 1, p => by
    have := rnz_le bt k n (p + 1)
    rw [rnz]
    split <;> omega
theorem tkS_le {p : Nat} (hp : p ≤ L) : p ≤ tkS T L p ∧ tkS T L p ≤ L := by
  have := skz_le (btz T L) (L - p) p
  unfold tkS
  omega
theorem tkK_pos {p : Nat} (h : tkK T L p ≠ 0) : tkS T L p < L := by
  apply Classical.byContradiction
  intro z
  exact h (kd_out (by omega))
theorem tkE_le {p : Nat} (hp : p ≤ L) : tkS T L p ≤ tkE T L p ∧ tkE T L p ≤ L ∧ (tkK T L p ≠ 0 → tkS T L p < tkE T L p) := by
  have hs := tkS_le (T := T) hp
  unfold tkE
  by_cases h : tkK T L p = 0
  · rw [if_pos h]
    exact ⟨Nat.le_refl _, hs.2, fun z => absurd h z⟩
  · have hl := tkK_pos h
    rw [if_neg h]
    split
    · have := rnz_le (btz T L) (tkK T L p) (L - (tkS T L p + 1)) (tkS T L p + 1)
      unfold tkR
      exact ⟨by omega, by omega, fun _ => by omega⟩
    · exact ⟨by omega, by omega, fun _ => by omega⟩
theorem c_kind (b : Int32) (M : zMe) : f_X7_kindOf b M = some (nI (kdz b), M) := by
  unfold f_X7_kindOf f_X7_kindOf_b20 f_X7_kindOf_b34 f_X7_kindOf_b45 kdz
  by_cases h0 : 0 ≤ b
  · rw [if_pos h0, if_pos h0]
    by_cases h1 : b < 97
    · rw [if_pos h1, if_pos h1]
      by_cases h2 : b < 48
      · rw [if_pos h2, if_pos h2]
        split <;> rfl
      · rw [if_neg h2, if_neg h2]
        by_cases h3 : 57 < b
        · rw [if_pos h3, if_pos h3]
          split <;> rfl
        · rw [if_neg h3, if_neg h3]; rfl
    · rw [if_neg h1, if_neg h1]
      by_cases h4 : 122 < b
      · have h2 : ¬ b < 48 := fun z => h1 (Int32.lt_trans z (by decide))
        have h3 : 57 < b := Int32.lt_trans (by decide) h4
        have h5 : ¬ b = 59 := fun z => by rw [z] at h4; exact absurd h4 (by decide)
        rw [if_pos h4, if_pos h4, if_neg h2, if_pos h3, if_neg h5]; rfl
      · rw [if_neg h4, if_neg h4]; rfl
  · rw [if_neg h0, if_neg h0]; rfl
theorem m_sort (b : Int32) (M : zMe) : f_X12_sortOf b M = some (nI (kdz b), M) := by
  unfold f_X12_sortOf f_X12_sortOf_b49 kdz
  simp only [m_in, Option.bind_some]
  by_cases h0 : 0 ≤ b
  · rw [if_pos h0, if_pos h0]
    unfold zin
    by_cases h1 : b < 97
    · rw [if_pos h1, if_pos h1, if_pos rfl]
      by_cases h2 : b < 48
      · rw [if_pos h2, if_pos h2, if_pos rfl]
        split <;> rfl
      · rw [if_neg h2, if_neg h2]
        by_cases h3 : 57 < b
        · rw [if_pos h3, if_pos h3, if_pos rfl]
          split <;> rfl
        · rw [if_neg h3, if_neg h3, if_neg one0]; rfl
    · rw [if_neg h1, if_neg h1]
      by_cases h4 : 122 < b
      · have h2 : ¬ b < 48 := fun z => h1 (Int32.lt_trans z (by decide))
        have h3 : 57 < b := Int32.lt_trans (by decide) h4
        have h5 : ¬ b = 59 := fun z => by rw [z] at h4; exact absurd h4 (by decide)
        rw [if_pos h4, if_pos h4, if_pos rfl, if_neg h2, if_pos h3, if_pos rfl, if_neg h5]; rfl
      · rw [if_neg h4, if_neg h4, if_neg one0]; rfl
  · rw [if_neg h0, if_neg h0]; rfl
end TK
/-! the class's reader at r -/
def rmk (M : zMe) (r x4 to : Nat) (ft : Int32) (L k s e : Nat) : zMe := zSet M r (.inr (7, [.ref to, .int ft, .ref x4, .int (nI L), .int (nI k), .int (nI s), .int (nI e)]))
section RM
variable {M : zMe} {r x4 to : Nat} {ft : Int32} {L k s e : Nat} {T tx : Nat → Int32}
theorem rm_0 : (rmk M r x4 to ft L k s e).1 r = some (.inr (7, [.ref to, .int ft, .ref x4, .int (nI L), .int (nI k), .int (nI s), .int (nI e)])) := zS_s _ _ _
theorem rm_out {q : Nat} (h : q ≠ r) : (rmk M r x4 to ft L k s e).1 q = M.1 q := zS_n _ _ h
theorem rm_ob : zob (rmk M r x4 to ft L k s e) r 7 = some () := by simp [zob, rm_0]
theorem rm_g0 : zgN (rmk M r x4 to ft L k s e) r [7] 0 = some to := by simp [zgN, zg, rm_0]
theorem rm_g1 : zgI (rmk M r x4 to ft L k s e) r [7] 1 = some ft := by simp [zgI, zg, rm_0]
theorem rm_g2 : zgN (rmk M r x4 to ft L k s e) r [7] 2 = some x4 := by simp [zgN, zg, rm_0]
theorem rm_g3 : zgI (rmk M r x4 to ft L k s e) r [7] 3 = some (nI L) := by simp [zgI, zg, rm_0]
theorem rm_g4 : zgI (rmk M r x4 to ft L k s e) r [7] 4 = some (nI k) := by simp [zgI, zg, rm_0]
theorem rm_g5 : zgI (rmk M r x4 to ft L k s e) r [7] 5 = some (nI s) := by simp [zgI, zg, rm_0]
theorem rm_g6 : zgI (rmk M r x4 to ft L k s e) r [7] 6 = some (nI e) := by simp [zgI, zg, rm_0]
theorem rm_p1 {v : Int32} : zpI (rmk M r x4 to ft L k s e) r [7] 1 v = some (rmk M r x4 to v L k s e) := by
  simp only [zpI, zp, rm_0]
  rw [if_pos (by decide)]
  exact congrArg some (zSS M r _ _)
theorem rm_p4 {v : Nat} : zpI (rmk M r x4 to ft L k s e) r [7] 4 (nI v) = some (rmk M r x4 to ft L v s e) := by
  simp only [zpI, zp, rm_0]
  rw [if_pos (by decide)]
  exact congrArg some (zSS M r _ _)
theorem rm_p5 {v : Nat} : zpI (rmk M r x4 to ft L k s e) r [7] 5 (nI v) = some (rmk M r x4 to ft L k v e) := by
  simp only [zpI, zp, rm_0]
  rw [if_pos (by decide)]
  exact congrArg some (zSS M r _ _)
theorem rm_p6 {v : Nat} : zpI (rmk M r x4 to ft L k s e) r [7] 6 (nI v) = some (rmk M r x4 to ft L k s v) := by
  simp only [zpI, zp, rm_0]
  rw [if_pos (by decide)]
  exact congrArg some (zSS M r _ _)
/-- the text lies at x4 -/
def Txt (M : zMe) (x4 r : Nat) (tx T : Nat → Int32) (L : Nat) : Prop := x4 ≠ r ∧ M.1 x4 = some (.inl (.byte, 200, .inl tx)) ∧ (∀ k, k < 200 → tx k &&& 255 = T k) ∧ L ≤ 200
theorem r_byte (h : Txt M x4 r tx T L) {i : Nat} (hi : i < 2 ^ 31) : f_X7_byteAt r (nI i) (rmk M r x4 to ft L k s e) = some (btz T L i, rmk M r x4 to ft L k s e) := by
  obtain ⟨h0, h1, h2, h3⟩ := h
  have hx : (rmk M r x4 to ft L k s e).1 x4 = some (.inl (.byte, 200, .inl tx)) := by rw [rm_out h0]; exact h1
  unfold btz
  rw [f_X7_byteAt, if_neg (nI_pos hi), rm_g3, Option.bind_some]
  by_cases c : i < L
  · have hln : zln (rmk M r x4 to ft L k s e) x4 = some 200 := by simp [zln, hx]
    have hrb : zrB (rmk M r x4 to ft L k s e) x4 (nI i) = some (tx i) := by
      simp only [zrB, hx]
      rw [if_neg (nI_in (show i < 200 by omega) (by omega)), nI_clamp (by omega)]
    rw [if_neg (nI_ge c (by omega)), rm_g2, Option.bind_some, hln, Option.bind_some, if_neg (show ¬ (200 : Int32) ≤ nI i from nI_ge (b := 200) (by omega) (by omega)), Option.bind_some, hrb, Option.bind_some, f_X7_byteAt_b35, h2 i (by omega), if_pos c]
  · rw [if_pos (nI_le (by omega) hi), if_neg c]; rfl
theorem r_skip (h : Txt M x4 r tx T L) : ∀ n fuel s, L - s ≤ n → n < fuel → s ≤ L → f_X7_advance_b17 fuel r (rmk M r x4 to ft L k s e) = f_X7_advance_b54 r (rmk M r x4 to ft L k (tkS T L s) e)
  | n, 0, s, h1, h2, _ => by omega
  | n, fuel + 1, s, h1, h2, hs => by
    have hL := h.2.2.2
    rw [f_X7_advance_b17, rm_g5, Option.bind_some, rm_g3, Option.bind_some]
    by_cases c : L ≤ s
    · rw [if_pos (nI_le c (by omega)), tkS_s, bt_out c, if_neg (by decide)]
    · rw [if_neg (nI_ge (by omega) (by omega)), Option.bind_some, rm_ob, Option.bind_some, r_byte h (by omega), Option.bind_some, tkS_s]
      by_cases z : btz T L s = 32
      · rw [if_pos z, if_pos z, rm_g5, Option.bind_some, nI_1, rm_p5, Option.bind_some]
        exact r_skip h (n - 1) fuel (s + 1) (by omega) (by omega) (by omega)
      · rw [if_neg z, if_neg z]
theorem r_run (h : Txt M x4 r tx T L) (hk : k ≠ 0) (hk4 : k ≤ 4) : ∀ n fuel e, L - e ≤ n → n < fuel → e ≤ L → f_X7_advance_b111 fuel r (rmk M r x4 to ft L k s e) = some (rmk M r x4 to ft L k s (tkR T L k e))
  | n, 0, e, h1, h2, _ => by omega
  | n, fuel + 1, e, h1, h2, he => by
    have hL := h.2.2.2
    rw [f_X7_advance_b111, rm_g6, Option.bind_some, rm_g3, Option.bind_some, tkR_s hk]
    by_cases c : L ≤ e
    · rw [if_pos (nI_le c (by omega)), kd_out c, if_neg (fun z => hk z.symm), f_X7_advance_b153]
    · have k4 := kdz_4 (btz T L e)
      rw [if_neg (nI_ge (by omega) (by omega)), Option.bind_some, rm_ob, Option.bind_some, r_byte h (by omega), Option.bind_some, c_kind, Option.bind_some, rm_g4, Option.bind_some]
      by_cases z : kdz (btz T L e) = k
      · rw [if_pos (by rw [z]), if_pos z, rm_g6, Option.bind_some, nI_1, rm_p6, Option.bind_some]
        exact r_run h hk hk4 (n - 1) fuel (e + 1) (by omega) (by omega) (by omega)
      · rw [if_neg (fun q => z ((nI_eq (by omega) (by omega)).mp q)), if_neg z, f_X7_advance_b153]
/-- the next token -/
theorem r_adv (h : Txt M x4 r tx T L) (he : e ≤ L) : f_X7_advance r (rmk M r x4 to (-1) L k s e) = some (rmk M r x4 to (-1) L (tkK T L e) (tkS T L e) (tkE T L e)) := by
  have hL := h.2.2.2
  have hs := tkS_le (T := T) he
  have k4 : tkK T L e ≤ 4 := kdz_4 _
  rw [f_X7_advance, rm_g1, Option.bind_some, if_pos rfl, rm_g6, Option.bind_some, rm_p5, Option.bind_some, r_skip h L zfu e (by omega) (by unfold zfu; omega) he, f_X7_advance_b54, rm_g5, Option.bind_some, rm_p6, Option.bind_some, rm_g5, Option.bind_some, rm_ob, Option.bind_some, r_byte h (by omega), Option.bind_some, c_kind, Option.bind_some, rm_p4, Option.bind_some, rm_g4, Option.bind_some]
  have ek : kdz (btz T L (tkS T L e)) = tkK T L e := rfl
  rw [ek]
  unfold tkE
  by_cases c : tkK T L e = 0
  · rw [if_pos (by rw [c]; rfl), if_pos c]
  · have hl := tkK_pos c
    rw [if_neg (show ¬ nI (tkK T L e) = 0 from fun z => c ((nI_eq (b := 0) (by omega) (by omega)).mp z)), if_neg c, rm_g6, Option.bind_some, nI_1, rm_p6, Option.bind_some, rm_g4, Option.bind_some, Option.bind_some]
    have run := r_run (M := M) (r := r) (x4 := x4) (to := to) (ft := -1) (s := tkS T L e) h c k4 L zfu (tkS T L e + 1) (by omega) (by unfold zfu; omega) (by omega)
    by_cases c1 : tkK T L e = 1
    · rw [if_pos (by rw [c1]; rfl), if_pos (Or.inl c1)]
      exact run
    · rw [if_neg (show ¬ nI (tkK T L e) = 1 from fun z => c1 ((nI_eq (b := 1) (by omega) (by omega)).mp z))]
      by_cases c2 : tkK T L e = 2
      · rw [if_pos (by rw [c2]; rfl), if_pos (Or.inr c2)]
        exact run
      · rw [if_neg (show ¬ nI (tkK T L e) = 2 from fun z => c2 ((nI_eq (b := 2) (by omega) (by omega)).mp z)), if_neg (by omega), f_X7_advance_b153]
theorem r_adv_no (hf : ft ≠ -1) : f_X7_advance r (rmk M r x4 to ft L k s e) = some (rmk M r x4 to ft L k s e) := by
  rw [f_X7_advance, rm_g1, Option.bind_some, if_neg hf]
theorem r_fail : f_X7_fail r (rmk M r x4 to (-1) L k s e) = some (rmk M r x4 to (nI s) L k s e) := by
  rw [f_X7_fail, rm_g1, Option.bind_some, if_pos rfl, rm_g5, Option.bind_some, rm_p1, Option.bind_some, f_X7_fail_b16]
theorem r_fail_no (hf : ft ≠ -1) : f_X7_fail r (rmk M r x4 to ft L k s e) = some (rmk M r x4 to ft L k s e) := by
  rw [f_X7_fail, rm_g1, Option.bind_some, if_neg hf, f_X7_fail_b16]
end RM
/-! the reference's reading -/
def scz (sc : Nat → Int32) (a k s l : Nat) : Nat → Int32 := fun i => if i = 1 then nI a else if i = 2 then nI k else if i = 3 then nI s else if i = 4 then nI l else sc i
def rfm (N : zMe) (m : Nat) (sc : Nat → Int32) (lg : Nat → Int64) (ar : Nat → Nat → Int32) (en : Nat → Int64) (a k s l : Nat) : zMe := mmk N m (scz sc a k s l) lg ar en
section RF
variable {N : zMe} {m : Nat} {sc : Nat → Int32} {lg : Nat → Int64} {ar : Nat → Nat → Int32} {en : Nat → Int64} {a k s l L : Nat} {T : Nat → Int32}
theorem scz_1 (v : Nat) : upd (scz sc a k s l) 1 (nI v) = scz sc v k s l := by
  funext i
  by_cases h : i = 1
  · subst h; simp [upd, scz]
  · simp [upd, scz, h]
theorem scz_2 (v : Nat) : upd (scz sc a k s l) 2 (nI v) = scz sc a v s l := by
  funext i
  by_cases h : i = 2
  · subst h; simp [upd, scz]
  · simp [upd, scz, h]
theorem scz_3 (v : Nat) : upd (scz sc a k s l) 3 (nI v) = scz sc a k v l := by
  funext i
  by_cases h : i = 3
  · subst h; simp [upd, scz]
  · simp [upd, scz, h]
theorem scz_4 (v : Nat) : upd (scz sc a k s l) 4 (nI v) = scz sc a k s v := by
  funext i
  by_cases h : i = 4
  · subst h; simp [upd, scz]
  · simp [upd, scz, h]
theorem rf_ob : zob (rfm N m sc lg ar en a k s l) m 12 = some () := mm_ob
theorem rf_g9 : zgI (rfm N m sc lg ar en a k s l) m [12] 9 = some (nI a) := mm_gI9
theorem rf_g10 : zgI (rfm N m sc lg ar en a k s l) m [12] 10 = some (nI k) := mm_gI10
theorem rf_g11 : zgI (rfm N m sc lg ar en a k s l) m [12] 11 = some (nI s) := mm_gI11
theorem rf_g12 : zgI (rfm N m sc lg ar en a k s l) m [12] 12 = some (nI l) := mm_gI12
theorem rf_p9 {v : Nat} : zpI (rfm N m sc lg ar en a k s l) m [12] 9 (nI v) = some (rfm N m sc lg ar en v k s l) := by unfold rfm; rw [mm_pI9, scz_1]
theorem rf_p10 {v : Nat} : zpI (rfm N m sc lg ar en a k s l) m [12] 10 (nI v) = some (rfm N m sc lg ar en a v s l) := by unfold rfm; rw [mm_pI10, scz_2]
theorem rf_p11 {v : Nat} : zpI (rfm N m sc lg ar en a k s l) m [12] 11 (nI v) = some (rfm N m sc lg ar en a k v l) := by unfold rfm; rw [mm_pI11, scz_3]
theorem rf_p12 {v : Nat} : zpI (rfm N m sc lg ar en a k s l) m [12] 12 (nI v) = some (rfm N m sc lg ar en a k s v) := by unfold rfm; rw [mm_pI12, scz_4]
def TxR (sc : Nat → Int32) (ar : Nat → Nat → Int32) (T : Nat → Int32) (L : Nat) : Prop := sc 0 = nI L ∧ L ≤ 200 ∧ ∀ k, k < 200 → ar 4 k = T k
theorem rf_byte (h : TxR sc ar T L) {i : Nat} (hi : i < 2 ^ 31) : f_X12_byteAt m (nI i) (rfm N m sc lg ar en a k s l) = some (btz T L i, rfm N m sc lg ar en a k s l) := by
  obtain ⟨h0, h1, h2⟩ := h
  have g5 : zgI (rfm N m sc lg ar en a k s l) m [12] 5 = some (nI L) := by unfold rfm; rw [mm_gI5]; show some (sc 0) = _; rw [h0]
  have g4 : zgN (rfm N m sc lg ar en a k s l) m [12] 4 = some (m + 5) := mm_gN4
  unfold btz
  rw [f_X12_byteAt, g5, Option.bind_some]
  by_cases c : i < L
  · have r5 : zrI (rfm N m sc lg ar en a k s l) (m + 5) (nI i) = some (T i) := by unfold rfm; rw [mm_rN5 (by omega), h2 i (by omega)]
    rw [if_neg (nI_ge c (by omega)), g4, Option.bind_some, r5, Option.bind_some, f_X12_byteAt_b18, if_pos c]
  · rw [if_pos (nI_le (by omega) hi), if_neg c]; rfl
theorem rf_run (h : TxR sc ar T L) (hk : k = 1 ∨ k = 2) {q : Nat} : ∀ n fuel l, 1 ≤ l → L - (q + l) ≤ n → n < fuel → q + l ≤ L → f_X12_token_b54 fuel m (rfm N m sc lg ar en (q + l) k q l) = some (rfm N m sc lg ar en (tkR T L k (q + l)) k q (tkR T L k (q + l) - q))
  | n, 0, l, _, h1, h2, _ => by omega
  | n, fuel + 1, l, h0, h1, h2, he => by
    have hL := h.2.1
    have k4 := kdz_4 (btz T L (q + l))
    have e84 : f_X12_token_b84 (f_X12_token_b54 fuel) m (rfm N m sc lg ar en (q + l) k q l) = some (rfm N m sc lg ar en (tkR T L k (q + l)) k q (tkR T L k (q + l) - q)) := by
      rw [f_X12_token_b84, rf_g9, Option.bind_some, rf_ob, Option.bind_some, rf_byte h (by omega), Option.bind_some, m_sort, Option.bind_some, rf_g10, Option.bind_some, tkR_s (by omega)]
      by_cases z : kdz (btz T L (q + l)) = k
      · have hlt : q + l < L := by
          apply Classical.byContradiction
          intro y
          rw [kd_out (by omega)] at z
          omega
        rw [if_pos (by rw [z]), if_pos z, f_X12_token_b102, rf_g9, Option.bind_some, nI_1, rf_p9, Option.bind_some, rf_g12, Option.bind_some, nI_1, rf_p12, Option.bind_some]
        exact rf_run h hk (n - 1) fuel (l + 1) (by omega) (by omega) (by omega) (by omega)
      · rw [if_neg (fun y => z ((nI_eq (by omega) (by omega)).mp y)), if_neg z, f_X12_token_b125, Nat.add_sub_cancel_left]
    rw [f_X12_token_b54, rf_g12, Option.bind_some, if_neg (show ¬ nI l = 0 from fun z => by have := (nI_eq (b := 0) (by omega) (by omega)).mp z; omega), f_X12_token_b68, rf_g10, Option.bind_some]
    rcases hk with rfl | rfl
    · rw [if_pos (show nI 1 = 1 from rfl)]
      exact e84
    · rw [if_neg (show ¬ nI 2 = 1 by decide), Option.bind_some, if_pos (show nI 2 = 2 from rfl)]
      exact e84
theorem rf_tail (h : TxR sc ar T L) {q : Nat} (hq : q ≤ L) (hb : tkS T L q = q) : f_X12_token_b54 zfu m (rfm N m sc lg ar en q (tkK T L q) q 0) = some (rfm N m sc lg ar en (tkE T L q) (tkK T L q) (tkS T L q) (tkE T L q - tkS T L q)) := by
  have hL := h.2.1
  have k4 : tkK T L q ≤ 4 := kdz_4 _
  obtain ⟨f, hf⟩ : ∃ f, zfu = f + 1 := ⟨999999, rfl⟩
  have hf9 : f = 999999 := by unfold zfu at hf; omega
  unfold tkE
  rw [hb, hf, f_X12_token_b54, rf_g12, Option.bind_some, if_pos (show nI 0 = 0 from rfl), rf_g10, Option.bind_some]
  by_cases c : tkK T L q = 0
  · rw [if_pos (show nI (tkK T L q) = 0 by rw [c]; rfl), if_pos c, f_X12_token_b68, rf_g10, Option.bind_some, Option.bind_some, c, if_neg (show ¬ nI 0 = 1 by decide), if_neg (show ¬ nI 0 = 2 by decide), f_X12_token_b125, Nat.sub_self]
  · have hl := tkK_pos c
    rw [hb] at hl
    rw [if_neg (show ¬ nI (tkK T L q) = 0 from fun z => c ((nI_eq (b := 0) (by omega) (by omega)).mp z)), if_neg c, f_X12_token_b102, rf_g9, Option.bind_some, nI_1, rf_p9, Option.bind_some, rf_g12, Option.bind_some, nI_1, rf_p12, Option.bind_some]
    by_cases c1 : tkK T L q = 1 ∨ tkK T L q = 2
    · rw [if_pos c1]
      exact rf_run h c1 L f (0 + 1) (by omega) (by omega) (by omega) (by omega)
    · obtain ⟨f2, hf2⟩ : ∃ f2, f = f2 + 1 := ⟨999998, by omega⟩
      rw [if_neg c1, hf2, f_X12_token_b54, rf_g12, Option.bind_some, if_neg (show ¬ nI (0 + 1) = 0 by decide), f_X12_token_b68, rf_g10, Option.bind_some, Option.bind_some, if_neg (show ¬ nI (tkK T L q) = 1 from fun z => c1 (Or.inl ((nI_eq (b := 1) (by omega) (by omega)).mp z))), if_neg (show ¬ nI (tkK T L q) = 2 from fun z => c1 (Or.inr ((nI_eq (b := 2) (by omega) (by omega)).mp z))), f_X12_token_b125, Nat.add_sub_cancel_left]
theorem tkS_i {p : Nat} (h : btz T L p = 32) : tkS T L p = tkS T L (p + 1) := by rw [tkS_s, if_pos h]
theorem tkS_n {p : Nat} (h : ¬ btz T L p = 32) : tkS T L p = p := by rw [tkS_s, if_neg h]
theorem tk_cong {p q : Nat} (h : tkS T L p = tkS T L q) : tkK T L p = tkK T L q ∧ tkE T L p = tkE T L q := by
  have : tkK T L p = tkK T L q := by unfold tkK; rw [h]
  exact ⟨this, by unfold tkE; rw [this, h]⟩
theorem rf_skip (h : TxR sc ar T L) : ∀ n fuel a, L - a ≤ n → n < fuel → a ≤ L → f_X12_token_b0 fuel m (rfm N m sc lg ar en a k s l) = some (rfm N m sc lg ar en (tkE T L a) (tkK T L a) (tkS T L a) (tkE T L a - tkS T L a))
  | n, 0, a, h1, h2, _ => by omega
  | n, fuel + 1, a, h1, h2, ha => by
    have hL := h.2.1
    rw [f_X12_token_b0, rf_g9, Option.bind_some, rf_ob, Option.bind_some, rf_byte h (by omega), Option.bind_some]
    by_cases z : btz T L a = 32
    · have hlt : a < L := by
        apply Classical.byContradiction
        intro y
        rw [bt_out (by omega)] at z
        exact absurd z (by decide)
      have e := tkS_i z
      rw [if_pos z, rf_g9, Option.bind_some, nI_1, rf_p9, Option.bind_some, rf_skip h (n - 1) fuel (a + 1) (by omega) (by omega) (by omega), e, (tk_cong e).1, (tk_cong e).2]
    · have e := tkS_n z
      have ek : kdz (btz T L a) = tkK T L a := by unfold tkK; rw [e]
      rw [if_neg z, rf_g9, Option.bind_some, rf_p11, Option.bind_some, rf_g9, Option.bind_some, rf_ob, Option.bind_some, rf_byte h (by omega), Option.bind_some, m_sort, Option.bind_some, ek, rf_p10, Option.bind_some, show (0 : Int32) = nI 0 from rfl, rf_p12, Option.bind_some]
      exact rf_tail h ha e
theorem rf_token (h : TxR sc ar T L) (ha : a ≤ L) : f_X12_token m (rfm N m sc lg ar en a k s l) = some (rfm N m sc lg ar en (tkE T L a) (tkK T L a) (tkS T L a) (tkE T L a - tkS T L a)) := by
  have hL := h.2.1
  rw [f_X12_token, rf_g9, Option.bind_some, rf_ob, Option.bind_some, rf_byte h (by omega), Option.bind_some]
  by_cases z : btz T L a = 32
  · have hlt : a < L := by
      apply Classical.byContradiction
      intro y
      rw [bt_out (by omega)] at z
      exact absurd z (by decide)
    have e := tkS_i z
    rw [if_pos z, rf_g9, Option.bind_some, nI_1, rf_p9, Option.bind_some, rf_skip h L zfu (a + 1) (by omega) (by unfold zfu; omega) (by omega), e, (tk_cong e).1, (tk_cong e).2]
  · have e := tkS_n z
    have ek : kdz (btz T L a) = tkK T L a := by unfold tkK; rw [e]
    rw [if_neg z, rf_g9, Option.bind_some, rf_p11, Option.bind_some, rf_g9, Option.bind_some, rf_ob, Option.bind_some, rf_byte h (by omega), Option.bind_some, m_sort, Option.bind_some, ek, rf_p10, Option.bind_some, show (0 : Int32) = nI 0 from rfl, rf_p12, Option.bind_some]
    exact rf_tail h ha e
end RF
