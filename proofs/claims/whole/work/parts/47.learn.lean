def lbp (s : Nat) : Nat := if s % 2 = 1 then 0 else if s / 2 % 2 = 1 then 1 else if s / 4 % 2 = 1 then 2 else if s / 8 % 2 = 1 then 3 else 4
theorem lbp_ok : ∀ s, s < 32 → 0 < s → (nI s &&& -nI s) = nI (2 ^ lbp s) ∧ s.testBit (lbp s) = true ∧ (nI s ^^^ nI (2 ^ lbp s)) = nI (s - 2 ^ lbp s) ∧ s = 2 ^ lbp s ||| (s - 2 ^ lbp s) ∧ 2 ^ lbp s ≤ s := by decide +kernel
/-- row k of the table has the images under f of all sets of n places -/
def Tab (st : Nat → Int32) (k : Nat) (f : Nat → Nat) (n : Nat) : Prop := ∀ s, s < 2 ^ n → st (32 * k + s) = nI (img f n s)
section LB
variable {M : zMe} {a : Nat} {st en me : Nat → Int32} {n : Nat}
theorem up_s (f : Nat → Int32) (k : Nat) (v : Int32) : upd f k v k = v := by simp [upd]
theorem up_n (f : Nat → Int32) {k j : Nat} (v : Int32) (h : j ≠ k) : upd f k v j = f j := by simp [upd, h]
theorem l_join {f : Nat → Nat} (hn : n ≤ 5) {k : Nat} (hk : k < 10) (h0 : st (32 * k) = 0) (h1 : ∀ p, p < n → st (32 * k + 2 ^ p) = nI (2 ^ f p)) : ∃ st', f_X4_joinSets a (nI (32 * k)) (lmk M a (nI (2 ^ n)) st en me) = some (lmk M a (nI (2 ^ n)) st' en me) ∧ Tab st' k f n ∧ ∀ q, q < 32 * k ∨ 32 * k + 32 ≤ q → st' q = st q := by
  have h32 := p2_32 hn
  have hpos := Nat.two_pow_pos n
  refine loopC (fun fuel j s => f_X4_joinSets_b2 fuel a (nI (32 * k)) (nI (1 + j)) (lmk M a (nI (2 ^ n)) s en me)) (fun st' => some (lmk M a (nI (2 ^ n)) st' en me)) (2 ^ n - 1) (fun j s => (∀ q, q < 1 + j → s (32 * k + q) = nI (img f n q)) ∧ (∀ p, p < n → s (32 * k + 2 ^ p) = nI (2 ^ f p)) ∧ ∀ q, q < 32 * k ∨ 32 * k + 32 ≤ q → s q = st q) (fun st' => Tab st' k f n ∧ ∀ q, q < 32 * k ∨ 32 * k + 32 ≤ q → st' q = st q) (by omega) (fun fu j s hj hI => ?_) (fun fu s hI => ?_) st ⟨fun q hq => ?_, h1, fun q _ => rfl⟩
  · obtain ⟨i1, i2, i3⟩ := hI
    obtain ⟨b1, b2, b3, b4, b5⟩ := lbp_ok (1 + j) (by omega) (by omega)
    have hp := bit_lt (show 1 + j < 2 ^ n by omega) b2
    have hpp := Nat.two_pow_pos (lbp (1 + j))
    refine ⟨upd s (32 * k + (1 + j)) (nI (img f n (1 + j))), ?_, fun q hq => ?_, fun p hp2 => ?_, fun q hq => ?_⟩
    · simp only [f_X4_joinSets_b2, lm_g3, lm_g0, Option.bind_some, zlet, b1, b3, nI_add, if_neg (nI_ge (show 1 + j < 2 ^ n by omega) (show 2 ^ n < 2 ^ 31 by omega))]
      rw [lm_r1 (by omega), Option.bind_some, lm_r1 (by omega), Option.bind_some, i2 _ hp, i1 _ (by omega), n_or, lm_w1 (by omega), Option.bind_some, nI_1, show 2 ^ f (lbp (1 + j)) ||| img f n (1 + j - 2 ^ lbp (1 + j)) = img f n (1 + j) by conv => rhs; rw [b4, img_or, img_1 f hp]]
      rfl
    · by_cases e : q = 1 + j
      · rw [e, up_s]
      · rw [up_n _ _ (by omega)]; exact i1 q (by omega)
    · by_cases e : 2 ^ p = 1 + j
      · rw [e, up_s, ← e, img_1 f hp2]
      · rw [up_n _ _ (by omega)]; exact i2 p hp2
    · rw [up_n _ _ (by omega)]; exact i3 q hq
  · obtain ⟨i1, i2, i3⟩ := hI
    refine ⟨s, ?_, fun q hq => i1 q (by omega), i3⟩
    have e : 1 + (2 ^ n - 1) = 2 ^ n := by omega
    simp only [f_X4_joinSets_b2, lm_g3, Option.bind_some, e, if_pos (nI_le (Nat.le_refl (2 ^ n)) (show 2 ^ n < 2 ^ 31 by omega))]
  · have e : q = 0 := by omega
    rw [e, img_0, Nat.add_zero, h0]
    rfl
theorem l_in {D : Nat → Nat} {dd sh ph w : Nat} (k15 : Nat → Nat → Int32 → Int32 → Int32 → zMe → Option zMe) (k24 : Nat → Nat → Int32 → Int32 → Int32 → Int32 → zMe → Option zMe) (ha : M.1 dd = some (dogCell D)) (hdd : dd < a ∨ a + 3 < dd) (hD : DW n D) (hn : n ≤ 5) (hsh : sh < 2 ^ 31) (hph : ph < 5) (hw : w < 2) (h0 : st (32 * (2 * ph + w)) = 0) : ∃ st', f_X4_learn_b42 k15 k24 zfu a dd (nI n) (nI sh) (nI ph) (nI w) (nI (32 * (2 * ph + w))) (nI 0) (lmk M a (nI (2 ^ n)) st en me) = k24 a dd (nI n) (nI sh) (nI ph) (nI (w + 1)) (lmk M a (nI (2 ^ n)) st' en me) ∧ Tab st' (2 * ph + w) (gog sh D w ph) n ∧ ∀ q, q < 32 * (2 * ph + w) ∨ 32 * (2 * ph + w) + 32 ≤ q → st' q = st q := by
  have h32 := p2_32 hn
  refine loopC (fun fuel j s => f_X4_learn_b42 k15 k24 fuel a dd (nI n) (nI sh) (nI ph) (nI w) (nI (32 * (2 * ph + w))) (nI j) (lmk M a (nI (2 ^ n)) s en me)) (fun st' => k24 a dd (nI n) (nI sh) (nI ph) (nI (w + 1)) (lmk M a (nI (2 ^ n)) st' en me)) n (fun j s => s (32 * (2 * ph + w)) = 0 ∧ (∀ p, p < j → s (32 * (2 * ph + w) + 2 ^ p) = nI (2 ^ gog sh D w ph p)) ∧ ∀ q, q < 32 * (2 * ph + w) ∨ 32 * (2 * ph + w) + 32 ≤ q → s q = st q) (fun st' => Tab st' (2 * ph + w) (gog sh D w ph) n ∧ ∀ q, q < 32 * (2 * ph + w) ∨ 32 * (2 * ph + w) + 32 ≤ q → st' q = st q) (by omega) (fun fu j s hj hI => ?_) (fun fu s hI => ?_) st ⟨h0, fun p hp => absurd hp (by omega), fun q _ => rfl⟩
  · obtain ⟨i1, i2, i3⟩ := hI
    have hpj : 2 ^ j < 32 := Nat.lt_of_lt_of_le (Nat.pow_lt_pow_right (by decide) hj) h32
    have hpp := Nat.two_pow_pos j
    have g8 := gog8 (sh := sh) (D := D) (w := w) (t := ph) (show j < 8 by omega)
    have nx := c_next (M := lmk M a (nI (2 ^ n)) s en me) (a := dd) (D := D) (by rw [lm_out hdd]; exact ha) hD.1 (fun j hj => by have := hD.lt hn j hj; omega) (p := j) (w := w) (t := ph) (sh := sh) hsh (by omega) hw (by omega)
    refine ⟨upd s (32 * (2 * ph + w) + 2 ^ j) (nI (2 ^ gog sh D w ph j)), ?_, ?_, fun p hp => ?_, fun q hq => ?_⟩
    · simp only [f_X4_learn_b42, if_neg (nI_ge hj (show n < 2 ^ 31 by omega)), if_neg (show ¬ (5 : Int32) ≤ nI j from nI_ge (b := 5) (by omega) (by omega)), lm_g0, Option.bind_some, nx, n_sh1 (show j < 32 by omega), n_sh1 (show gog sh D w ph j < 32 by omega), nI_add, lm_w1 (show 32 * (2 * ph + w) + 2 ^ j < 320 by omega), zlet, nI_1]
    · rw [up_n _ _ (by omega)]; exact i1
    · by_cases e : p = j
      · rw [e, up_s]
      · rw [up_n _ _ (by have := Nat.pow_lt_pow_right (a := 2) (by decide) (show p < j by omega); omega)]; exact i2 p (by omega)
    · rw [up_n _ _ (by omega)]; exact i3 q hq
  · obtain ⟨i1, i2, i3⟩ := hI
    obtain ⟨st', j1, j2, j3⟩ := l_join (M := M) (a := a) (en := en) (me := me) hn (show 2 * ph + w < 10 by omega) i1 i2
    refine ⟨st', ?_, j2, fun q hq => by rw [j3 q hq]; exact i3 q hq⟩
    simp only [f_X4_learn_b42, f_X4_learn_b85, if_pos (nI_le (Nat.le_refl n) (show n < 2 ^ 31 by omega)), lm_ob, Option.bind_some, j1, zlet, nI_1]
/-- what a lane knows of a dog -/
def Lrn (st : Nat → Int32) (sh : Nat) (D : Nat → Nat) (n : Nat) : Prop := ∀ ph, ph < 5 → ∀ w, w < 2 → Tab st (2 * ph + w) (gog sh D w ph) n
theorem l_mid {D : Nat → Nat} {dd sh j : Nat} (k15 : Nat → Nat → Int32 → Int32 → Int32 → zMe → Option zMe) (ha : M.1 dd = some (dogCell D)) (hdd : dd < a ∨ a + 3 < dd) (hD : DW n D) (hn : n ≤ 5) (hsh : sh < 2 ^ 31) (hj : j < 5) (i1 : ∀ k, k < 10 → st (32 * k) = 0) (i2 : ∀ ph, ph < j → ∀ w, w < 2 → Tab st (2 * ph + w) (gog sh D w ph) n) : ∃ s', f_X4_learn_b24 k15 zfu a dd (nI n) (nI sh) (nI j) (nI 0) (lmk M a (nI (2 ^ n)) st en me) = k15 a dd (nI n) (nI sh) (nI (j + 1)) (lmk M a (nI (2 ^ n)) s' en me) ∧ (∀ k, k < 10 → s' (32 * k) = 0) ∧ ∀ ph, ph < j + 1 → ∀ w, w < 2 → Tab s' (2 * ph + w) (gog sh D w ph) n := by
  have h32 := p2_32 hn
  refine loopC (fun fuel i s => f_X4_learn_b24 k15 fuel a dd (nI n) (nI sh) (nI j) (nI i) (lmk M a (nI (2 ^ n)) s en me)) (fun s' => k15 a dd (nI n) (nI sh) (nI (j + 1)) (lmk M a (nI (2 ^ n)) s' en me)) 2 (fun i s => (∀ k, k < 10 → s (32 * k) = 0) ∧ (∀ ph, ph < j → ∀ w, w < 2 → Tab s (2 * ph + w) (gog sh D w ph) n) ∧ ∀ w, w < i → Tab s (2 * j + w) (gog sh D w j) n) (fun s' => (∀ k, k < 10 → s' (32 * k) = 0) ∧ ∀ ph, ph < j + 1 → ∀ w, w < 2 → Tab s' (2 * ph + w) (gog sh D w ph) n) (by omega) (fun gu i r hi hJ => ?_) (fun gu r hJ => ?_) st ⟨i1, i2, fun w h => absurd h (by omega)⟩
  · obtain ⟨j1, j2, j3⟩ := hJ
    have er : (nI j * 2 + nI i) * 32 = nI (32 * (2 * j + i)) := by
      rw [show (2 : Int32) = nI 2 from rfl, show (32 : Int32) = nI 32 from rfl, pk_mul, nI_add, pk_mul]
      congr 1
      omega
    obtain ⟨s', a1, a2, a3⟩ := l_in (M := M) (a := a) (en := en) (me := me) k15 (f_X4_learn_b24 k15 gu) ha hdd hD hn hsh hj hi (j1 (2 * j + i) (by omega))
    refine ⟨s', ?_, fun k hk => ?_, fun ph hp w hw q hq => ?_, fun w hw q hq => ?_⟩
    · show f_X4_learn_b24 k15 (gu + 1) a dd (nI n) (nI sh) (nI j) (nI i) (lmk M a (nI (2 ^ n)) r en me) = f_X4_learn_b24 k15 gu a dd (nI n) (nI sh) (nI j) (nI (i + 1)) (lmk M a (nI (2 ^ n)) s' en me)
      rw [nI_0] at a1
      rw [f_X4_learn_b24, if_neg (show ¬ (2 : Int32) ≤ nI i from nI_ge (b := 2) hi (by omega)), f_X4_rowOf, Option.bind_some, er]
      exact a1
    · by_cases e : k = 2 * j + i
      · have := a2 0 (Nat.two_pow_pos n)
        rw [img_0, Nat.add_zero] at this
        rw [e, this]
        rfl
      · rw [a3 _ (by omega)]; exact j1 k hk
    · have := Nat.lt_of_lt_of_le hq h32
      rw [a3 _ (by omega)]; exact j2 ph hp w hw q hq
    · by_cases e : w = i
      · subst e; exact a2 q hq
      · have := Nat.lt_of_lt_of_le hq h32
        rw [a3 _ (by omega)]; exact j3 w (by omega) q hq
  · obtain ⟨j1, j2, j3⟩ := hJ
    refine ⟨r, ?_, j1, fun ph hp w hw => ?_⟩
    · simp only [f_X4_learn_b24, if_pos (show (2 : Int32) ≤ nI 2 by decide), zlet, nI_1]
    · by_cases e : ph = j
      · subst e; exact j3 w hw
      · exact j2 ph (by omega) w hw
theorem l_learn {D : Nat → Nat} {dd sh : Nat} {n0 : Int32} (ha : M.1 dd = some (dogCell D)) (hdd : dd < a ∨ a + 3 < dd) (hD : DW n D) (hn : n ≤ 5) (hsh : sh < 2 ^ 31) (h0 : ∀ k, k < 10 → st (32 * k) = 0) : ∃ st', f_X4_learn a dd (nI n) (nI sh) (lmk M a n0 st en me) = some (lmk M a (nI (2 ^ n)) st' en me) ∧ Lrn st' sh D n := by
  have h32 := p2_32 hn
  have e1 : (if (32 : Int32) < nI (2 ^ n) then 32 else nI (2 ^ n)) = nI (2 ^ n) := if_neg (show ¬ (32 : Int32) < nI (2 ^ n) from nI_nlt (a := 32) h32 (by omega))
  have key : ∃ st', f_X4_learn_b15 zfu a dd (nI n) (nI sh) (nI 0) (lmk M a (nI (2 ^ n)) st en me) = some (lmk M a (nI (2 ^ n)) st' en me) ∧ Lrn st' sh D n := by
    refine loopC (fun fuel j s => f_X4_learn_b15 fuel a dd (nI n) (nI sh) (nI j) (lmk M a (nI (2 ^ n)) s en me)) (fun st' => some (lmk M a (nI (2 ^ n)) st' en me)) 5 (fun j s => (∀ k, k < 10 → s (32 * k) = 0) ∧ ∀ ph, ph < j → ∀ w, w < 2 → Tab s (2 * ph + w) (gog sh D w ph) n) (fun st' => Lrn st' sh D n) (by omega) (fun fu j s hj hI => ?_) (fun fu s hI => ?_) st ⟨h0, fun ph h => absurd h (by omega)⟩
    · obtain ⟨s', m1, m2, m3⟩ := l_mid (M := M) (a := a) (en := en) (me := me) (f_X4_learn_b15 fu) ha hdd hD hn hsh hj hI.1 hI.2
      refine ⟨s', ?_, m2, m3⟩
      show f_X4_learn_b15 (fu + 1) a dd (nI n) (nI sh) (nI j) (lmk M a (nI (2 ^ n)) s en me) = f_X4_learn_b15 fu a dd (nI n) (nI sh) (nI (j + 1)) (lmk M a (nI (2 ^ n)) s' en me)
      rw [nI_0] at m1
      rw [f_X4_learn_b15, if_neg (show ¬ (5 : Int32) ≤ nI j from nI_ge (b := 5) hj (by omega))]
      exact m1
    · refine ⟨s, ?_, fun ph h w hw => hI.2 ph h w hw⟩
      show f_X4_learn_b15 (fu + 1) a dd (nI n) (nI sh) (nI 5) (lmk M a (nI (2 ^ n)) s en me) = _
      rw [f_X4_learn_b15, if_pos (show (5 : Int32) ≤ nI 5 by decide)]
  rw [nI_0] at key
  rw [f_X4_learn, n_sh1 (show n < 32 by omega), zlet, e1, lm_p3, Option.bind_some]
  exact key
theorem Lrn.zero {st : Nat → Int32} {sh : Nat} {D : Nat → Nat} {n : Nat} (h : Lrn st sh D n) : ∀ k, k < 10 → st (32 * k) = 0 := by
  intro k hk
  have := h (k / 2) (by omega) (k % 2) (by omega) 0 (Nat.two_pow_pos n)
  rw [img_0, Nat.add_zero, show 2 * (k / 2) + k % 2 = k by omega] at this
  rw [this]
  rfl
/-- the set behind a whistle -/
theorem l_behind {sh : Nat} {D : Nat → Nat} {nn : Int32} (hL : Lrn st sh D n) (hD : DW n D) (hn : n ≤ 5) {t w s : Nat} (ht : t < 2 ^ 31) (hw : w < 2) (hs : s < 2 ^ n) : f_X4_behind a (nI t) (nI w) (nI s) (lmk M a nn st en me) = some (nI (img (gog sh D w t) n s), lmk M a nn st en me) := by
  have h32 := Nat.lt_of_lt_of_le hs (p2_32 hn)
  have h5 := phs5 t
  have er : (nI (phs t) * 2 + nI w) * 32 + nI s = nI (32 * (2 * phs t + w) + s) := by
    rw [show (2 : Int32) = nI 2 from rfl, show (32 : Int32) = nI 32 from rfl, pk_mul, nI_add, pk_mul, nI_add]
    congr 1
    omega
  simp only [f_X4_behind, f_X4_behind_b38, c_phase ht, Option.bind_some, f_X4_rowOf, zlet, er, if_neg (nI_pos (show 32 * (2 * phs t + w) + s < 2 ^ 31 by omega)), lm_g0, lm_l1, lm_r1 (show 32 * (2 * phs t + w) + s < 320 by omega)]
  rw [if_neg (show ¬ (320 : Int32) ≤ nI (32 * (2 * phs t + w) + s) from nI_ge (b := 320) (by omega) (by omega)), hL (phs t) h5 w hw s hs, img_congr (fun p _ => gog_ph hD sh w t p)]
end LB
