/-! two places whose dogs never meet -/
def npz (ph : Nat) : Nat := if ph = 4 then 3 else ph + 1
theorem npz5 {ph : Nat} (h : ph < 5) : npz ph < 5 ∧ npz ph ≠ ph := by unfold npz; split <;> omega
theorem npz_phs {ph : Nat} (h : ph < 5) : phs (ph + 1) = npz ph := by
  rcases (show ph = 0 ∨ ph = 1 ∨ ph = 2 ∨ ph = 3 ∨ ph = 4 by omega) with rfl | rfl | rfl | rfl | rfl <;> rfl
def mtz (go : Nat → Nat → Nat → Nat) : Nat → Nat → Nat → Nat → Prop
  | 0, _, a, b => a = b
  | k + 1, ph, a, b => mtz go k ph a b ∨ mtz go k (npz ph) (go 0 ph a) (go 0 ph b) ∨ mtz go k (npz ph) (go 1 ph a) (go 1 ph b)
def Mee (go : Nat → Nat → Nat → Nat) (ph a b : Nat) : Prop := ∃ k, mtz go k ph a b
theorem Mee.refl (go : Nat → Nat → Nat → Nat) (ph a : Nat) : Mee go ph a a := ⟨0, rfl⟩
theorem Mee.step {go : Nat → Nat → Nat → Nat} {ph a b w : Nat} (hw : w < 2) (h : Mee go (npz ph) (go w ph a) (go w ph b)) : Mee go ph a b := by
  obtain ⟨k, hk⟩ := h
  refine ⟨k + 1, ?_⟩
  rcases (show w = 0 ∨ w = 1 by omega) with rfl | rfl
  · exact Or.inr (Or.inl hk)
  · exact Or.inr (Or.inr hk)
theorem Mee.sub {go : Nat → Nat → Nat → Nat} {n : Nat} {T : Nat → Nat → Nat → Prop} (hgo : ∀ w, w < 2 → ∀ ph a, a < n → go w ph a < n) (h1 : ∀ ph a, ph < 5 → a < n → T ph a a) (h2 : ∀ ph a b w, ph < 5 → a < n → b < n → w < 2 → T (npz ph) (go w ph a) (go w ph b) → T ph a b) : ∀ k ph a b, ph < 5 → a < n → b < n → mtz go k ph a b → T ph a b
  | 0, ph, a, b, hp, ha, hb, h => by
    have h : a = b := h
    subst h
    exact h1 ph a hp ha
  | k + 1, ph, a, b, hp, ha, hb, h => by
    have hn := npz5 hp
    rcases h with h | h | h
    · exact Mee.sub hgo h1 h2 k ph a b hp ha hb h
    · exact h2 ph a b 0 hp ha hb (by omega) (Mee.sub hgo h1 h2 k _ _ _ hn.1 (hgo 0 (by omega) ph a ha) (hgo 0 (by omega) ph b hb) h)
    · exact h2 ph a b 1 hp ha hb (by omega) (Mee.sub hgo h1 h2 k _ _ _ hn.1 (hgo 1 (by omega) ph a ha) (hgo 1 (by omega) ph b hb) h)
/-! counting -/
def cbB (f : Nat → Bool) : Nat → Nat
  | 0 => 0
  | n + 1 => cbB f n + (if f n then 1 else 0)
theorem cbB_le (f : Nat → Bool) : ∀ n, cbB f n ≤ n
  | 0 => Nat.le_refl _
  | n + 1 => by
    have := cbB_le f n
    rw [cbB]
    split <;> omega
theorem cbB_mono {f g : Nat → Bool} : ∀ n, (∀ k, k < n → f k = true → g k = true) → cbB f n ≤ cbB g n ∧ ((∃ k, k < n ∧ f k ≠ g k) → cbB f n < cbB g n)
  | 0, _ => ⟨Nat.le_refl _, fun ⟨k, hk, _⟩ => by omega⟩
  | n + 1, h => by
    obtain ⟨a, b⟩ := cbB_mono n (fun k hk => h k (by omega))
    have hn := h n (by omega)
    rw [cbB, cbB]
    cases hf : f n <;> cases hg : g n
    · refine ⟨by simpa using a, fun ⟨k, hk, hne⟩ => ?_⟩
      have : k ≠ n := fun z => by rw [z, hf, hg] at hne; exact hne rfl
      have := b ⟨k, by omega, hne⟩
      simpa using this
    · refine ⟨?_, fun _ => ?_⟩
      · simp only [Bool.false_eq_true, if_false, if_true]; omega
      · simp only [Bool.false_eq_true, if_false, if_true]; omega
    · rw [hf, hg] at hn
      exact absurd (hn rfl) (by decide)
    · refine ⟨by simpa using a, fun ⟨k, hk, hne⟩ => ?_⟩
      have : k ≠ n := fun z => by rw [z, hf, hg] at hne; exact hne rfl
      have := b ⟨k, by omega, hne⟩
      simpa using this
/-! bits up to the highest -/
theorem n_bitG {a k : Nat} (ha : a < 2 ^ 32) (hk : k < 32) : chold (nI a) (nI k) = if a.testBit k then 1 else 0 := by
  have e : ((nI a >>> (nI k &&& 31)) &&& 1) = nI (if a.testBit k then 1 else 0) := by
    rw [pk_and _ 1 (by decide)]
    have : (nI a >>> (nI k &&& 31)).toBitVec.toNat % 2 ^ 1 = if a.testBit k then 1 else 0 := by
      have h1 : (nI a >>> (nI k &&& 31)).toBitVec = (nI a).toBitVec.sshiftRight k := by
        show (nI a).toBitVec.sshiftRight ((nI k &&& 31).toBitVec.smod 32).toNat = _
        rw [bs_l k hk]
      rw [h1]
      have h2 : ((nI a).toBitVec.sshiftRight k).getLsbD 0 = a.testBit k := by
        rw [BitVec.getLsbD_sshiftRight]
        simp [hk]
        show (BitVec.ofNat 32 a).getLsbD k = a.testBit k
        rw [BitVec.getLsbD_ofNat]
        simp [hk]
      rw [← h2, BitVec.getLsbD, Nat.testBit_zero]
      have := Nat.mod_lt ((nI a).toBitVec.sshiftRight k).toNat (show 0 < 2 by decide)
      rcases (show ((nI a).toBitVec.sshiftRight k).toNat % 2 = 0 ∨ ((nI a).toBitVec.sshiftRight k).toNat % 2 = 1 by omega) with z | z <;> simp [z]
    rw [this]
  unfold chold
  rw [e]
  cases a.testBit k <;> decide
theorem nI_inj32 {a b : Nat} (ha : a < 2 ^ 32) (hb : b < 2 ^ 32) : nI a = nI b ↔ a = b := by
  constructor
  · intro h
    have := congrArg (fun v : Int32 => v.toBitVec.toNat) h
    simp only [pk_tn ha, pk_tn hb] at this
    exact this
  · intro h; rw [h]
def cdz (g : Nat → Nat → Nat → Nat) (L ph k : Nat) : Nat := orF (fun i => if L.testBit (g 0 ph (1 + i)) || L.testBit (g 1 ph (1 + i)) then 2 ^ (1 + i) else 0) k
theorem cdz_bit (g : Nat → Nat → Nat → Nat) (L ph k s : Nat) : (cdz g L ph k).testBit s = true ↔ 1 ≤ s ∧ s < 1 + k ∧ (L.testBit (g 0 ph s) = true ∨ L.testBit (g 1 ph s) = true) := by
  unfold cdz
  rw [orF_bit]
  constructor
  · rintro ⟨p, h1, h2⟩
    by_cases hc : (L.testBit (g 0 ph (1 + p)) || L.testBit (g 1 ph (1 + p))) = true
    · rw [if_pos hc, Nat.testBit_two_pow, decide_eq_true_iff] at h2
      subst h2
      rw [Bool.or_eq_true] at hc
      exact ⟨by omega, by omega, hc⟩
    · rw [if_neg hc] at h2
      simp at h2
  · rintro ⟨h1, h2, h3⟩
    refine ⟨s - 1, by omega, ?_⟩
    rw [show 1 + (s - 1) = s by omega, if_pos (by rw [Bool.or_eq_true]; exact h3), Nat.testBit_two_pow]
    simp
theorem cdz_lt (g : Nat → Nat → Nat → Nat) (L ph : Nat) {k : Nat} (hk : k ≤ 31) : cdz g L ph k < 2 ^ 32 := by
  refine orF_ltn (b := 32) k (fun i hi => ?_)
  split
  · exact Nat.pow_lt_pow_right (by decide) (by omega)
  · decide
/-- the sets that are known to come together; sound -/
def Sdn (go : Nat → Nat → Nat → Nat) (n : Nat) (mv : Nat → Nat) : Prop := ∀ ph, ph < 5 → ∀ s, (mv ph).testBit s = true → ∀ a b, a < n → b < n → s.testBit a = true → s.testBit b = true → Mee go ph a b
/-- complete at ph -/
def Clz (g : Nat → Nat → Nat → Nat) (n : Nat) (mv : Nat → Nat) (ph : Nat) : Prop := ∀ s, 1 ≤ s → s < 2 ^ n → ((mv (npz ph)).testBit (g 0 ph s) = true ∨ (mv (npz ph)).testBit (g 1 ph s) = true) → (mv ph).testBit s = true
section LM
variable {M : zMe} {a n sh : Nat} {D : Nat → Nat} {st en me : Nat → Int32}
theorem l_growI (k4 : Nat → Int32 → Int32 → zMe → Option (Int32 × zMe)) (hL : Lrn st sh D n) (hD : DW n D) (hn : n ≤ 5) {ph b0 L : Nat} (hph : ph < 5) (hb : b0 < 2 ^ 32) (hLl : L < 2 ^ 32) (fl : Int32) (hme : me ph = nI b0) : f_X4_growMeetings_b31 k4 zfu a fl (nI ph) (nI b0) (nI L) (nI (1 + 0)) (lmk M a (nI (2 ^ n)) st en me) = f_X4_growMeetings_b107 k4 a (nI ph) (if b0 ||| cdz (stg sh D n) L ph (2 ^ n - 1) = b0 then 0 else 1) fl (lmk M a (nI (2 ^ n)) st en (upd me ph (nI (b0 ||| cdz (stg sh D n) L ph (2 ^ n - 1))))) := by
  have h32 := p2_32 hn
  have hpos := Nat.two_pow_pos n
  have hcl : ∀ j, j ≤ 31 → b0 ||| cdz (stg sh D n) L ph j < 2 ^ 32 := fun j hj => Nat.or_lt_two_pow hb (cdz_lt _ _ _ hj)
  have hmf : ∀ v, zrI (lmk M a (nI (2 ^ n)) st en (upd me ph v)) (a + 3) (nI ph) = some v := fun v => by rw [lm_r3 hph, up_s]
  have key := loopZ (fun fuel j => f_X4_growMeetings_b31 k4 fuel a fl (nI ph) (nI b0) (nI L) (nI (1 + j)) (lmk M a (nI (2 ^ n)) st en (upd me ph (nI (b0 ||| cdz (stg sh D n) L ph j))))) (2 ^ n - 1) (f_X4_growMeetings_b107 k4 a (nI ph) (if b0 ||| cdz (stg sh D n) L ph (2 ^ n - 1) = b0 then 0 else 1) fl (lmk M a (nI (2 ^ n)) st en (upd me ph (nI (b0 ||| cdz (stg sh D n) L ph (2 ^ n - 1)))))) (by omega) (fun f j hj => ?_) (fun f => ?_)
  · have key' : f_X4_growMeetings_b31 k4 zfu a fl (nI ph) (nI b0) (nI L) (nI (1 + 0)) (lmk M a (nI (2 ^ n)) st en (upd me ph (nI (b0 ||| 0)))) = _ := key
    rw [Nat.or_zero, upd_same hme] at key'
    exact key'
  · show f_X4_growMeetings_b31 k4 (f + 1) a fl (nI ph) (nI b0) (nI L) (nI (1 + j)) (lmk M a (nI (2 ^ n)) st en (upd me ph (nI (b0 ||| cdz (stg sh D n) L ph j)))) = f_X4_growMeetings_b31 k4 f a fl (nI ph) (nI b0) (nI L) (nI (1 + (j + 1))) (lmk M a (nI (2 ^ n)) st en (upd me ph (nI (b0 ||| (cdz (stg sh D n) L ph j ||| (if L.testBit (stg sh D n 0 ph (1 + j)) || L.testBit (stg sh D n 1 ph (1 + j)) then 2 ^ (1 + j) else 0))))))
    obtain ⟨x1, x2⟩ := stg_ok (sh := sh) (t := ph) hD (w := 0) (by omega) (show 1 ≤ 1 + j by omega) (show 1 + j < 2 ^ n by omega)
    obtain ⟨y1, y2⟩ := stg_ok (sh := sh) (t := ph) hD (w := 1) (by omega) (show 1 ≤ 1 + j by omega) (show 1 + j < 2 ^ n by omega)
    have bh0 : ∀ me', f_X4_behind a (nI ph) 0 (nI (1 + j)) (lmk M a (nI (2 ^ n)) st en me') = some (nI (stg sh D n 0 ph (1 + j)), lmk M a (nI (2 ^ n)) st en me') := fun me' => l_behind (w := 0) hL hD hn (by omega) (by omega) (by omega)
    have bh1 : ∀ me', f_X4_behind a (nI ph) 1 (nI (1 + j)) (lmk M a (nI (2 ^ n)) st en me') = some (nI (stg sh D n 1 ph (1 + j)), lmk M a (nI (2 ^ n)) st en me') := fun me' => l_behind (w := 1) hL hD hn (by omega) (by omega) (by omega)
    have h0 := n_bitG hLl (show stg sh D n 0 ph (1 + j) < 32 by omega)
    have h1 := n_bitG hLl (show stg sh D n 1 ph (1 + j) < 32 by omega)
    have e72 : f_X4_growMeetings_b72 k4 (f_X4_growMeetings_b31 k4 f) a fl (nI ph) (nI b0) (nI L) (nI (1 + j)) (lmk M a (nI (2 ^ n)) st en (upd me ph (nI (b0 ||| cdz (stg sh D n) L ph j)))) = f_X4_growMeetings_b31 k4 f a fl (nI ph) (nI b0) (nI L) (nI (1 + (j + 1))) (lmk M a (nI (2 ^ n)) st en (upd me ph (nI (b0 ||| (cdz (stg sh D n) L ph j ||| 2 ^ (1 + j)))))) := by
      rw [f_X4_growMeetings_b72, lm_g2, Option.bind_some, hmf, Option.bind_some, n_sh1 (by omega), n_or, lm_w3 hph, Option.bind_some, upd_twice, f_X4_growMeetings_b85, zlet, nI_1, Nat.or_assoc]
      rfl
    have e85 : f_X4_growMeetings_b85 k4 (f_X4_growMeetings_b31 k4 f) a fl (nI ph) (nI b0) (nI L) (nI (1 + j)) (lmk M a (nI (2 ^ n)) st en (upd me ph (nI (b0 ||| cdz (stg sh D n) L ph j)))) = f_X4_growMeetings_b31 k4 f a fl (nI ph) (nI b0) (nI L) (nI (1 + (j + 1))) (lmk M a (nI (2 ^ n)) st en (upd me ph (nI (b0 ||| (cdz (stg sh D n) L ph j ||| 0))))) := by
      rw [f_X4_growMeetings_b85, zlet, nI_1, Nat.or_zero]
      rfl
    rw [f_X4_growMeetings_b31, lm_g3, Option.bind_some, if_neg (nI_ge (show 1 + j < 2 ^ n by omega) (by omega)), lm_ob, Option.bind_some, bh0, Option.bind_some, c_holds, Option.bind_some, h0]
    cases t0 : L.testBit (stg sh D n 0 ph (1 + j)) with
    | true =>
      rw [if_neg (show ¬ (if (true : Bool) then (1 : Int32) else 0) = 0 by decide), e72]
      rfl
    | false =>
      rw [if_pos (show (if (false : Bool) then (1 : Int32) else 0) = 0 by decide), lm_ob, Option.bind_some, bh1, Option.bind_some, c_holds, Option.bind_some, h1]
      cases t1 : L.testBit (stg sh D n 1 ph (1 + j)) with
      | true =>
        rw [if_neg (show ¬ (if (true : Bool) then (1 : Int32) else 0) = 0 by decide), e72]
        rfl
      | false =>
        rw [if_pos (show (if (false : Bool) then (1 : Int32) else 0) = 0 by decide), e85]
        rfl
  · show f_X4_growMeetings_b31 k4 (f + 1) a fl (nI ph) (nI b0) (nI L) (nI (1 + (2 ^ n - 1))) (lmk M a (nI (2 ^ n)) st en (upd me ph (nI (b0 ||| cdz (stg sh D n) L ph (2 ^ n - 1))))) = _
    rw [show 1 + (2 ^ n - 1) = 2 ^ n by omega, f_X4_growMeetings_b31, lm_g3, Option.bind_some, if_pos (nI_le (Nat.le_refl _) (by omega)), lm_g2, Option.bind_some, hmf, Option.bind_some]
    simp only [nI_inj32 (hcl (2 ^ n - 1) (by omega)) hb]
    split
    · rfl
    · rfl
/-- a round over all phases -/
theorem l_grow (hL : Lrn st sh D n) (hD : DW n D) (hn : n ≤ 5) {mv : Nat → Nat} (hmv : ∀ ph, ph < 5 → me ph = nI (mv ph) ∧ mv ph < 2 ^ 32) (hS : Sdn (gog sh D) n mv) : ∃ fl me' mv', f_X4_growMeetings a (lmk M a (nI (2 ^ n)) st en me) = some (fl, lmk M a (nI (2 ^ n)) st en me') ∧ (∀ ph, ph < 5 → me' ph = nI (mv' ph) ∧ mv' ph < 2 ^ 32) ∧ Sdn (gog sh D) n mv' ∧ (∀ ph, ph < 5 → ∀ i, (mv ph).testBit i = true → (mv' ph).testBit i = true) ∧ ((fl = 0 ∧ (∀ ph, ph < 5 → mv' ph = mv ph) ∧ ∀ ph, ph < 5 → Clz (stg sh D n) n mv ph) ∨ (fl = 1 ∧ ∃ ph, ph < 5 ∧ mv' ph ≠ mv ph)) := by
  have h32 := p2_32 hn
  have hpos := Nat.two_pow_pos n
  have lp := loopC (S := Int32 × (Nat → Int32) × (Nat → Nat)) (S' := Int32 × (Nat → Int32) × (Nat → Nat)) (R := Option (Int32 × zMe)) (fun fuel j s => f_X4_growMeetings_b4 fuel a s.1 (nI (5 - j) + (-1)) (lmk M a (nI (2 ^ n)) st en s.2.1)) (fun s => some (s.1, lmk M a (nI (2 ^ n)) st en s.2.1)) 5
    (fun j s => (∀ ph, ph < 5 → s.2.1 ph = nI (s.2.2 ph) ∧ s.2.2 ph < 2 ^ 32) ∧ Sdn (gog sh D) n s.2.2 ∧ (∀ ph, ph < 5 → ∀ i, (mv ph).testBit i = true → (s.2.2 ph).testBit i = true) ∧ ((s.1 = 0 ∧ (∀ ph, ph < 5 → s.2.2 ph = mv ph) ∧ ∀ ph, ph < 5 → 5 - j ≤ ph → Clz (stg sh D n) n mv ph) ∨ (s.1 = 1 ∧ ∃ ph, ph < 5 ∧ s.2.2 ph ≠ mv ph)))
    (fun s => (∀ ph, ph < 5 → s.2.1 ph = nI (s.2.2 ph) ∧ s.2.2 ph < 2 ^ 32) ∧ Sdn (gog sh D) n s.2.2 ∧ (∀ ph, ph < 5 → ∀ i, (mv ph).testBit i = true → (s.2.2 ph).testBit i = true) ∧ ((s.1 = 0 ∧ (∀ ph, ph < 5 → s.2.2 ph = mv ph) ∧ ∀ ph, ph < 5 → Clz (stg sh D n) n mv ph) ∨ (s.1 = 1 ∧ ∃ ph, ph < 5 ∧ s.2.2 ph ≠ mv ph)))
    (by omega) (fun fu j s hj hI => ?_) (fun fu s hI => ?_) (0, me, mv) ⟨hmv, hS, fun _ _ _ h => h, Or.inl ⟨rfl, fun _ _ => rfl, fun ph h1 h2 => by omega⟩⟩
  · obtain ⟨⟨fl, me', mv'⟩, e, y1, y2, y3, y4⟩ := lp
    refine ⟨fl, me', mv', ?_, y1, y2, y3, y4⟩
    have e' : f_X4_growMeetings_b4 zfu a 0 (nI (5 - 0) + (-1)) (lmk M a (nI (2 ^ n)) st en me) = some (fl, lmk M a (nI (2 ^ n)) st en me') := e
    rw [show nI (5 - 0) + (-1) = 4 by decide] at e'
    exact e'
  · obtain ⟨fl, m1, v1⟩ := s
    obtain ⟨i1, i2, i3, i4⟩ := hI
    have i1 : ∀ ph, ph < 5 → m1 ph = nI (v1 ph) ∧ v1 ph < 2 ^ 32 := i1
    obtain ⟨ph, hph⟩ : ∃ ph, ph = 4 - j := ⟨_, rfl⟩
    have hp5 : ph < 5 := by omega
    have e2 : nI (5 - j) + (-1) = nI ph := by
      rw [show 5 - j = ph + 1 by omega, pk_m1]
    have e3 : nI ph + (-1) = nI (5 - (j + 1)) + (-1) := by congr 2; omega
    have hnp := npz5 hp5
    have b0 := i1 ph hp5
    have bL := i1 (npz ph) hnp.1
    obtain ⟨V, hV⟩ : ∃ V, V = v1 ph ||| cdz (stg sh D n) (v1 (npz ph)) ph (2 ^ n - 1) := ⟨_, rfl⟩
    have hVl : V < 2 ^ 32 := by rw [hV]; exact Nat.or_lt_two_pow b0.2 (cdz_lt _ _ _ (by omega))
    have gI := l_growI (M := M) (a := a) (en := en) (me := m1) (f_X4_growMeetings_b4 fu) hL hD hn hp5 b0.2 bL.2 fl b0.1
    have hsub : ∀ i, (v1 ph).testBit i = true → V.testBit i = true := fun i hi => by rw [hV, Nat.testBit_or, hi]; rfl
    refine ⟨((fl ||| (if V = v1 ph then 0 else 1)), upd m1 ph (nI V), upN v1 ph V), ?_, fun q hq => ?_, fun q hq s hs x y hx hy sx sy => ?_, fun q hq i hi => ?_, ?_⟩
    · show f_X4_growMeetings_b4 (fu + 1) a fl (nI (5 - j) + (-1)) (lmk M a (nI (2 ^ n)) st en m1) = f_X4_growMeetings_b4 fu a (fl ||| (if V = v1 ph then 0 else 1)) (nI (5 - (j + 1)) + (-1)) (lmk M a (nI (2 ^ n)) st en (upd m1 ph (nI V)))
      rw [e2, f_X4_growMeetings_b4, if_neg (nI_pos (by omega)), lm_g2, Option.bind_some, lm_r3 hp5, Option.bind_some, b0.1, Option.bind_some, nI_1, c_phase (by omega), Option.bind_some, npz_phs hp5, lm_r3 hnp.1, Option.bind_some, bL.1]
      rw [show nI (1 + 0) = (1 : Int32) from rfl] at gI
      rw [gI, ← hV, f_X4_growMeetings_b107, zlet, zlet, e3]
    · show upd m1 ph (nI V) q = nI (upN v1 ph V q) ∧ upN v1 ph V q < 2 ^ 32
      by_cases e : q = ph
      · rw [e, up_s, upN_s]; exact ⟨rfl, hVl⟩
      · rw [up_n _ _ e, upN_n _ _ e]; exact i1 q hq
    · have hs' : (upN v1 ph V q).testBit s = true := hs
      by_cases e : q = ph
      · subst e
        rw [upN_s, hV, Nat.testBit_or, Bool.or_eq_true] at hs'
        rcases hs' with z | z
        · exact i2 q hq s z x y hx hy sx sy
        · obtain ⟨c1, c2, c3⟩ := (cdz_bit _ _ _ _ _).mp z
          rcases c3 with c3 | c3
          · exact Mee.step (w := 0) (by omega) (i2 (npz q) hnp.1 _ c3 _ _ (gog_lt hD (by omega) hx) (gog_lt hD (by omega) hy) ((img_bit _ _ _ _).mpr ⟨x, hx, sx, rfl⟩) ((img_bit _ _ _ _).mpr ⟨y, hy, sy, rfl⟩))
          · exact Mee.step (w := 1) (by omega) (i2 (npz q) hnp.1 _ c3 _ _ (gog_lt hD (by omega) hx) (gog_lt hD (by omega) hy) ((img_bit _ _ _ _).mpr ⟨x, hx, sx, rfl⟩) ((img_bit _ _ _ _).mpr ⟨y, hy, sy, rfl⟩))
      · rw [upN_n _ _ e] at hs'
        exact i2 q hq s hs' x y hx hy sx sy
    · show (upN v1 ph V q).testBit i = true
      have := i3 q hq i hi
      by_cases e : q = ph
      · rw [e, upN_s]
        rw [e] at this
        exact hsub i this
      · rw [upN_n _ _ e]; exact this
    · by_cases hch : V = v1 ph
      · have eu : ∀ q, upN v1 ph V q = v1 q := fun q => by
          by_cases e : q = ph
          · rw [e, upN_s, hch]
          · rw [upN_n _ _ e]
        rcases i4 with ⟨a1, a2, a3⟩ | ⟨a1, q, a2, a3⟩
        · refine Or.inl ⟨?_, fun q hq => by show upN v1 ph V q = mv q; rw [eu]; exact a2 q hq, fun q hq hjq => ?_⟩
          · show fl ||| (if V = v1 ph then (0 : Int32) else 1) = 0
            have a1' : fl = 0 := a1
            rw [a1', if_pos hch]
            decide
          · by_cases e : q = ph
            · subst e
              intro s s1 s2 hs
              have a2' : ∀ ph, ph < 5 → v1 ph = mv ph := a2
              rw [← a2' _ hq, ← hch, hV, Nat.testBit_or]
              rw [← a2' _ hnp.1] at hs
              rw [(cdz_bit _ _ _ _ _).mpr ⟨s1, by omega, hs⟩, Bool.or_true]
            · exact a3 q hq (by omega)
        · refine Or.inr ⟨?_, q, a2, by show upN v1 ph V q ≠ mv q; rw [eu]; exact a3⟩
          show fl ||| (if V = v1 ph then (0 : Int32) else 1) = 1
          have a1' : fl = 1 := a1
          rw [a1', if_pos hch]
          decide
      · refine Or.inr ⟨?_, ph, hp5, ?_⟩
        · show fl ||| (if V = v1 ph then (0 : Int32) else 1) = 1
          rw [if_neg hch]
          rcases i4 with ⟨a1, _⟩ | ⟨a1, _⟩
          · have a1' : fl = 0 := a1
            rw [a1']; decide
          · have a1' : fl = 1 := a1
            rw [a1']; decide
        · show upN v1 ph V ph ≠ mv ph
          rw [upN_s]
          intro z
          apply hch
          apply Nat.eq_of_testBit_eq
          intro i
          rw [Bool.eq_iff_iff]
          exact ⟨fun hi => i3 ph hp5 i (by rw [← z]; exact hi), hsub i⟩
  · obtain ⟨fl, m1, v1⟩ := s
    obtain ⟨i1, i2, i3, i4⟩ := hI
    have h01 : fl = 0 ∨ fl = 1 := by
      rcases i4 with ⟨z, _⟩ | ⟨z, _⟩
      · exact Or.inl z
      · exact Or.inr z
    refine ⟨(fl, m1, v1), ?_, i1, i2, i3, ?_⟩
    · show f_X4_growMeetings_b4 (fu + 1) a fl (nI (5 - 5) + (-1)) (lmk M a (nI (2 ^ n)) st en m1) = _
      rw [f_X4_growMeetings_b4, if_pos (show nI (5 - 5) + (-1) < 0 by decide), if_pos h01]
    · rcases i4 with ⟨a1, a2, a3⟩ | z
      · exact Or.inl ⟨a1, a2, fun ph hp => a3 ph hp (by omega)⟩
      · exact Or.inr z
end LM
