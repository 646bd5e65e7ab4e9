/-- times at which a set can be at the target, k whistles before the last: bits -/
def enF (tg : Nat) (g : Nat → Nat → Nat → Nat) : Nat → Nat → Nat
  | 0, s => if s = tg then 2 ^ 20 else 0
  | k + 1, s => ((if s = tg then 2 ^ (19 - k) else 0) ||| enF tg g k (g 0 (19 - k) s)) ||| enF tg g k (g 1 (19 - k) s)
def stg (sh : Nat) (D : Nat → Nat) (n : Nat) : Nat → Nat → Nat → Nat := fun w t s => img (gog sh D w t) n s
/-- what a lane knows of the ends -/
def Ens (en : Nat → Int32) (tg : Nat) (g : Nat → Nat → Nat → Nat) (n : Nat) : Prop := ∀ t, t ≤ 20 → ∀ s, 1 ≤ s → s < 2 ^ n → en (32 * t + s) = nI (enF tg g (20 - t) s)
theorem ifn {c : Prop} [Decidable c] {a b : Nat} : (if c then nI a else nI b) = nI (if c then a else b) := by split <;> rfl
section LE
variable {M : zMe} {a : Nat} {st en me : Nat → Int32} {n : Nat}
theorem l_endsL {tg : Nat} {g : Nat → Nat → Nat → Nat} (hn : n ≤ 5) (htg : tg < 32) (k42 : zMe → Option zMe) (hk : ∀ M, f_X4_findEnds_b42 zfu a (nI tg) 19 M = k42 M) : ∃ en', f_X4_findEnds_b6 zfu a (nI tg) 640 (nI (1 + 0)) (lmk M a (nI (2 ^ n)) st en me) = k42 (lmk M a (nI (2 ^ n)) st en' me) ∧ ∀ s, 1 ≤ s → s < 2 ^ n → en' (32 * 20 + s) = nI (enF tg g 0 s) := by
  have h32 := p2_32 hn
  have hpos := Nat.two_pow_pos n
  refine loopC (fun fuel j s => f_X4_findEnds_b6 fuel a (nI tg) 640 (nI (1 + j)) (lmk M a (nI (2 ^ n)) st s me)) (fun s => k42 (lmk M a (nI (2 ^ n)) st s me)) (2 ^ n - 1) (fun j s => ∀ q, 1 ≤ q → q < 1 + j → s (32 * 20 + q) = nI (enF tg g 0 q)) (fun s => ∀ q, 1 ≤ q → q < 2 ^ n → s (32 * 20 + q) = nI (enF tg g 0 q)) (by omega) (fun fu j s hj hI => ?_) (fun fu s hI => ?_) en (fun q h1 h2 => by omega)
  · refine ⟨upd s (32 * 20 + (1 + j)) (nI (enF tg g 0 (1 + j))), ?_, fun q h1 h2 => ?_⟩
    · have e640 : (640 : Int32) + nI (1 + j) = nI (32 * 20 + (1 + j)) := nI_add 640 (1 + j)
      simp only [f_X4_findEnds_b6, f_X4_findEnds_b32, lm_g3, lm_g1, Option.bind_some, zlet, e640, if_neg (nI_ge (show 1 + j < 2 ^ n by omega) (show 2 ^ n < 2 ^ 31 by omega)), nI_eq (show 1 + j < 2 ^ 31 by omega) (show tg < 2 ^ 31 by omega), nI_1]
      by_cases hc : 1 + j = tg
      · rw [if_pos hc, lm_w2 (by omega), Option.bind_some, enF, if_pos hc]; rfl
      · rw [if_neg hc, lm_w2 (by omega), Option.bind_some, enF, if_neg hc]; rfl
    · by_cases e : q = 1 + j
      · rw [e, up_s]
      · rw [up_n _ _ (by omega)]; exact hI q h1 (by omega)
  · refine ⟨s, ?_, fun q h1 h2 => hI q h1 (by omega)⟩
    have e : 1 + (2 ^ n - 1) = 2 ^ n := by omega
    simp only [f_X4_findEnds_b6, lm_g3, Option.bind_some, e, if_pos (nI_le (Nat.le_refl (2 ^ n)) (show 2 ^ n < 2 ^ 31 by omega)), hk]
theorem l_endsI {sh tg : Nat} {D : Nat → Nat} (hL : Lrn st sh D n) (hD : DW n D) (hn : n ≤ 5) (htg : tg < 32) {t : Nat} (ht : t < 20) (k42 : Nat → Int32 → Int32 → zMe → Option zMe) (hE : ∀ u, t + 1 ≤ u → u ≤ 20 → ∀ s, 1 ≤ s → s < 2 ^ n → en (32 * u + s) = nI (enF tg (stg sh D n) (20 - u) s)) : ∃ en', f_X4_findEnds_b82 k42 zfu a (nI tg) (nI t) (nI (32 * (2 * phs t + 0))) (nI (32 * (2 * phs t + 1))) (nI (32 * t)) (nI (32 * (t + 1))) (nI (1 + 0)) (lmk M a (nI (2 ^ n)) st en me) = k42 a (nI tg) (nI t + (-1)) (lmk M a (nI (2 ^ n)) st en' me) ∧ ∀ u, t ≤ u → u ≤ 20 → ∀ s, 1 ≤ s → s < 2 ^ n → en' (32 * u + s) = nI (enF tg (stg sh D n) (20 - u) s) := by
  have h32 := p2_32 hn
  have hpos := Nat.two_pow_pos n
  have h5 := phs5 t
  have hst : ∀ w, w < 2 → ∀ s, s < 2 ^ n → st (32 * (2 * phs t + w) + s) = nI (stg sh D n w t s) := fun w hw s hs => by
    rw [hL (phs t) h5 w hw s hs, img_congr (fun p _ => gog_ph hD sh w t p)]
    rfl
  have hgl : ∀ w, w < 2 → ∀ s, 1 ≤ s → s < 2 ^ n → 1 ≤ stg sh D n w t s ∧ stg sh D n w t s < 2 ^ n := fun w hw s h1 h2 => ⟨Nat.pos_of_ne_zero (img_ne h2 (by omega)), img_lt (fun p hp => gog_lt hD hw hp) s⟩
  refine loopC (fun fuel j s => f_X4_findEnds_b82 k42 fuel a (nI tg) (nI t) (nI (32 * (2 * phs t + 0))) (nI (32 * (2 * phs t + 1))) (nI (32 * t)) (nI (32 * (t + 1))) (nI (1 + j)) (lmk M a (nI (2 ^ n)) st s me)) (fun s => k42 a (nI tg) (nI t + (-1)) (lmk M a (nI (2 ^ n)) st s me)) (2 ^ n - 1) (fun j s => (∀ q, 1 ≤ q → q < 1 + j → s (32 * t + q) = nI (enF tg (stg sh D n) (20 - t) q)) ∧ ∀ u, t + 1 ≤ u → u ≤ 20 → ∀ q, 1 ≤ q → q < 2 ^ n → s (32 * u + q) = nI (enF tg (stg sh D n) (20 - u) q)) (fun s => ∀ u, t ≤ u → u ≤ 20 → ∀ q, 1 ≤ q → q < 2 ^ n → s (32 * u + q) = nI (enF tg (stg sh D n) (20 - u) q)) (by omega) (fun fu j s hj hI => ?_) (fun fu s hI => ?_) en ⟨fun q h1 h2 => by omega, hE⟩
  · obtain ⟨i1, i2⟩ := hI
    obtain ⟨a1, a2⟩ := hgl 0 (by omega) (1 + j) (by omega) (by omega)
    obtain ⟨b1, b2⟩ := hgl 1 (by omega) (1 + j) (by omega) (by omega)
    have ek : enF tg (stg sh D n) (20 - t) (1 + j) = ((if 1 + j = tg then 2 ^ t else 0) ||| enF tg (stg sh D n) (20 - (t + 1)) (stg sh D n 0 t (1 + j))) ||| enF tg (stg sh D n) (20 - (t + 1)) (stg sh D n 1 t (1 + j)) := by
      rw [show 20 - t = (20 - (t + 1)) + 1 by omega, enF, show 19 - (20 - (t + 1)) = t by omega]
    refine ⟨upd s (32 * t + (1 + j)) (nI (enF tg (stg sh D n) (20 - t) (1 + j))), ?_, fun q h1 h2 => ?_, fun u h1 h2 q h3 h4 => ?_⟩
    · have g0 : zrI (lmk M a (nI (2 ^ n)) st s me) (a + 1) (nI (32 * (2 * phs t + 0) + (1 + j))) = some (nI (stg sh D n 0 t (1 + j))) := by rw [lm_r1 (by omega), hst 0 (by omega) _ (by omega)]
      have g1 : zrI (lmk M a (nI (2 ^ n)) st s me) (a + 1) (nI (32 * (2 * phs t + 1) + (1 + j))) = some (nI (stg sh D n 1 t (1 + j))) := by rw [lm_r1 (by omega), hst 1 (by omega) _ (by omega)]
      have g2 : zrI (lmk M a (nI (2 ^ n)) st s me) (a + 2) (nI (32 * (t + 1) + stg sh D n 0 t (1 + j))) = some (nI (enF tg (stg sh D n) (20 - (t + 1)) (stg sh D n 0 t (1 + j)))) := by rw [lm_r2 (by omega), i2 (t + 1) (by omega) (by omega) _ a1 a2]
      have g3 : zrI (lmk M a (nI (2 ^ n)) st s me) (a + 2) (nI (32 * (t + 1) + stg sh D n 1 t (1 + j))) = some (nI (enF tg (stg sh D n) (20 - (t + 1)) (stg sh D n 1 t (1 + j)))) := by rw [lm_r2 (by omega), i2 (t + 1) (by omega) (by omega) _ b1 b2]
      simp only [f_X4_findEnds_b82, f_X4_findEnds_b104, lm_g3, lm_g0, lm_g1, Option.bind_some, zlet, nI_add, if_neg (nI_ge (show 1 + j < 2 ^ n by omega) (show 2 ^ n < 2 ^ 31 by omega)), nI_eq (show 1 + j < 2 ^ 31 by omega) (show tg < 2 ^ 31 by omega), nI_1, g0, g1, g2, g3, n_sh1 (show t < 32 by omega)]
      rw [ek]
      by_cases hc : 1 + j = tg
      · rw [if_pos hc, if_pos hc, n_or, n_or, lm_w2 (by omega), Option.bind_some]; rfl
      · rw [if_neg hc, if_neg hc, show (0 : Int32) = nI 0 from rfl, n_or, n_or, lm_w2 (by omega), Option.bind_some]; rfl
    · by_cases e : q = 1 + j
      · rw [e, up_s]
      · rw [up_n _ _ (by omega)]; exact i1 q h1 (by omega)
    · rw [up_n _ _ (by omega)]; exact i2 u h1 h2 q h3 h4
  · obtain ⟨i1, i2⟩ := hI
    refine ⟨s, ?_, fun u h1 h2 q h3 h4 => ?_⟩
    · have e : 1 + (2 ^ n - 1) = 2 ^ n := by omega
      simp only [f_X4_findEnds_b82, lm_g3, Option.bind_some, e, if_pos (nI_le (Nat.le_refl (2 ^ n)) (show 2 ^ n < 2 ^ 31 by omega)), zlet]
    · by_cases e : u = t
      · rw [e]; exact i1 q h3 (by omega)
      · exact i2 u (by omega) h2 q h3 h4
theorem l_ends {sh tg : Nat} {D : Nat → Nat} (hL : Lrn st sh D n) (hD : DW n D) (hn : n ≤ 5) (htg : tg < 32) : ∃ en', f_X4_findEnds a (nI tg) (lmk M a (nI (2 ^ n)) st en me) = some (lmk M a (nI (2 ^ n)) st en' me) ∧ Ens en' tg (stg sh D n) n := by
  obtain ⟨en1, e1, h1⟩ := l_endsL (M := M) (a := a) (st := st) (en := en) (me := me) (n := n) (tg := tg) (g := stg sh D n) hn htg (fun M => f_X4_findEnds_b42 zfu a (nI tg) 19 M) (fun _ => rfl)
  rw [f_X4_findEnds, show (1 : Int32) = nI (1 + 0) from rfl, e1, show (19 : Int32) = nI (20 - 0) + (-1) from by decide]
  refine loopC (fun fuel j s => f_X4_findEnds_b42 fuel a (nI tg) (nI (20 - j) + (-1)) (lmk M a (nI (2 ^ n)) st s me)) (fun s => some (lmk M a (nI (2 ^ n)) st s me)) 20 (fun j s => ∀ u, 20 - j ≤ u → u ≤ 20 → ∀ q, 1 ≤ q → q < 2 ^ n → s (32 * u + q) = nI (enF tg (stg sh D n) (20 - u) q)) (fun s => Ens s tg (stg sh D n) n) (by omega) (fun fu j s hj hI => ?_) (fun fu s hI => ?_) en1 (fun u h2 h3 q h4 h5 => by
    have e : u = 20 := by omega
    subst e
    exact h1 q h4 h5)
  · have e2 : nI (20 - j) + (-1) = nI (19 - j) := by
      obtain ⟨k, hk⟩ : ∃ k, 20 - j = k + 1 := ⟨19 - j, by omega⟩
      rw [hk, pk_m1]
      congr 1
      omega
    have e3 : nI (19 - j) + (-1) = nI (20 - (j + 1)) + (-1) := by congr 2; omega
    have h5 := phs5 (19 - j)
    have er : ∀ w, (nI (phs (19 - j)) * 2 + nI w) * 32 = nI (32 * (2 * phs (19 - j) + w)) := fun w => by
      rw [show (2 : Int32) = nI 2 from rfl, show (32 : Int32) = nI 32 from rfl, pk_mul, nI_add, pk_mul]
      congr 1
      omega
    have er0 := er 0
    have er1 : (nI (phs (19 - j)) * 2 + 1) * 32 = nI (32 * (2 * phs (19 - j) + 1)) := er 1
    rw [nI_0] at er0
    have e32 : nI (19 - j) * 32 = nI (32 * (19 - j)) := by rw [show (32 : Int32) = nI 32 from rfl, pk_mul, Nat.mul_comm]
    have e33 : nI (32 * (19 - j)) + 32 = nI (32 * (19 - j + 1)) := by rw [show (32 : Int32) = nI 32 from rfl, nI_add]; rfl
    obtain ⟨s', a1, a2⟩ := l_endsI (M := M) (a := a) (me := me) hL hD hn htg (show 19 - j < 20 by omega) (f_X4_findEnds_b42 fu) (en := s) (fun u h2 h3 => hI u (by omega) h3)
    refine ⟨s', ?_, fun u h2 h3 => a2 u (by omega) h3⟩
    show _ = f_X4_findEnds_b42 fu a (nI tg) (nI (20 - (j + 1)) + (-1)) (lmk M a (nI (2 ^ n)) st s' me)
    rw [← e3]
    show f_X4_findEnds_b42 (fu + 1) a (nI tg) (nI (20 - j) + (-1)) (lmk M a (nI (2 ^ n)) st s me) = f_X4_findEnds_b42 fu a (nI tg) (nI (19 - j) + (-1)) (lmk M a (nI (2 ^ n)) st s' me)
    rw [f_X4_findEnds_b42, e2, if_neg (nI_pos (show 19 - j < 2 ^ 31 by omega)), c_phase (show 19 - j < 2 ^ 31 by omega), Option.bind_some, f_X4_rowOf, Option.bind_some, c_phase (show 19 - j < 2 ^ 31 by omega), Option.bind_some, f_X4_rowOf, Option.bind_some, er0, er1, zlet, zlet, e32, e33]
    exact a1
  · refine ⟨s, ?_, fun u h2 => hI u (by omega) h2⟩
    simp only [f_X4_findEnds_b42, if_pos (show nI (20 - 20) + (-1) < 0 by decide)]
theorem l_endsFrom {tg : Nat} {g : Nat → Nat → Nat → Nat} {nn : Int32} (hE : Ens en tg g n) (hn : n ≤ 5) {t s : Nat} (ht : t ≤ 20) (h1 : 1 ≤ s) (hs : s < 2 ^ n) : f_X4_endsFrom a (nI t) (nI s) (lmk M a nn st en me) = some (nI (enF tg g (20 - t) s), lmk M a nn st en me) := by
  have h32 := Nat.lt_of_lt_of_le hs (p2_32 hn)
  have er : nI t * 32 + nI s = nI (32 * t + s) := by
    rw [show (32 : Int32) = nI 32 from rfl, pk_mul, nI_add, Nat.mul_comm]
  simp only [f_X4_endsFrom, f_X4_endsFrom_b30, zlet, er, if_neg (nI_pos (show 32 * t + s < 2 ^ 31 by omega)), lm_g1, lm_l2, Option.bind_some, lm_r2 (show 32 * t + s < 672 by omega)]
  rw [if_neg (show ¬ (672 : Int32) ≤ nI (32 * t + s) from nI_ge (b := 672) (by omega) (by omega)), hE t ht s h1 hs]
end LE
