/-! drawing: sums of weights -/
def sE (w e : Nat → Nat) : Nat → Nat
  | 0 => 0
  | n + 1 => sE w e n + w n * e n
theorem sE_cong {w w' e e' : Nat → Nat} : ∀ n, (∀ p, p < n → w p = w' p) → (∀ p, p < n → e p = e' p) → sE w e n = sE w' e' n
  | 0, _, _ => rfl
  | n + 1, h, k => by rw [sE, sE, sE_cong n (fun p hp => h p (by omega)) (fun p hp => k p (by omega)), h n (by omega), k n (by omega)]
theorem sE_up (w e : Nat → Nat) (a c : Nat) : ∀ n, a < n → sE (upN w a (w a + c)) e n = sE w e n + c * e a
  | 0, h => by omega
  | n + 1, h => by
    rw [sE, sE]
    by_cases z : a = n
    · subst z
      rw [sE_cong a (w' := w) (e' := e) (fun p hp => upN_n _ _ (by omega)) (fun _ _ => rfl), upN_s, Nat.add_mul]
      omega
    · rw [sE_up w e a c n (by omega), upN_n _ _ (by omega)]
      omega
theorem sE_pick (w : Nat → Nat) (a : Nat) : ∀ n, sE w (fun p => if p = a then 1 else 0) n = if a < n then w a else 0
  | 0 => by rw [sE, if_neg (by omega)]
  | n + 1 => by
    rw [sE, sE_pick w a n]
    by_cases z : n = a
    · subst z
      rw [if_neg (by omega), if_pos rfl, if_pos (by omega)]
      omega
    · rw [if_neg z]
      by_cases y : a < n
      · rw [if_pos y, if_pos (by omega)]; omega
      · rw [if_neg y, if_neg (by omega)]; omega
theorem sE_le {w e : Nat → Nat} {c : Nat} : ∀ n, (∀ p, p < n → w p * e p ≤ c) → sE w e n ≤ n * c
  | 0, _ => by rw [sE]; omega
  | n + 1, h => by
    have := sE_le n (fun p hp => h p (by omega))
    have := h n (by omega)
    rw [sE, Nat.add_mul]
    omega
/-- ways to the goal when j whistles are left -/
def enz (go : Nat → Nat → Nat → Nat) (r goal k : Nat) : Nat → Nat → Nat
  | 0, p => if p = goal then 1 else 0
  | j + 1, p => (10 - r) * enz go r goal k j (go 0 (k - (j + 1)) p) + r * enz go r goal k j (go 1 (k - (j + 1)) p)
theorem enz_le {r : Nat} (hr : r ≤ 10) (go : Nat → Nat → Nat → Nat) (goal k : Nat) : ∀ j p, enz go r goal k j p ≤ 10 ^ j
  | 0, p => by rw [enz]; split <;> simp
  | j + 1, p => by
    rw [enz]
    have a := Nat.mul_le_mul_left (10 - r) (enz_le hr go goal k j (go 0 (k - (j + 1)) p))
    have b := Nat.mul_le_mul_left r (enz_le hr go goal k j (go 1 (k - (j + 1)) p))
    have c : (10 - r) * 10 ^ j + r * 10 ^ j = 10 ^ (j + 1) := by rw [← Nat.add_mul, show 10 - r + r = 10 by omega, Nat.pow_succ, Nat.mul_comm]
    omega
theorem enz_s (go : Nat → Nat → Nat → Nat) (r goal : Nat) {k t : Nat} (ht : t < k) (p : Nat) : enz go r goal k (k - t) p = (10 - r) * enz go r goal k (k - (t + 1)) (go 0 t p) + r * enz go r goal k (k - (t + 1)) (go 1 t p) := by
  obtain ⟨j, hj⟩ : ∃ j, k - t = j + 1 := ⟨k - t - 1, by omega⟩
  have e1 : k - (t + 1) = j := by omega
  have e2 : k - (j + 1) = t := by omega
  rw [hj, e1, enz, e2]
/-! the greatest common divisor -/
theorem gcd_half {b c : Nat} (hc : 0 < c) (hcb : c < b) : 2 * (b % c) < b := by
  have h1 := Nat.mod_lt b hc
  have h2 : b % c ≤ b - c := by
    rw [Nat.mod_eq_sub_mod (by omega)]
    exact Nat.mod_le _ _
  omega
theorem lN_0 {b : Nat} (hb : b < 2 ^ 63) : (lN b = 0) = (b = 0) := propext (pk_lEQ (b := 0) hb (by decide))
theorem lg_z0 : lg_cmp (lN 0) 0 = 0 := by rw [lg_c0]; rfl
theorem lg_zn {x : Int64} (h : ¬ x = 0) : ¬ lg_cmp x 0 = 0 := by rw [lg_c0]; exact h
theorem c_gcd (M : zMe) : ∀ k a b j fuel, b < 2 ^ k → k ≤ 60 → a < 2 ^ 63 → b < 2 ^ 63 → j + 2 * k + 1 ≤ 128 → 2 * k + 1 ≤ fuel → f_X11_commonDivisor_b9 fuel (lN a) (lN b) (nI j) M = some (lN (Nat.gcd a b), M)
  | 0, a, b, j, fuel, h1, _, h2, h3, h4, h5 => by
    have e : b = 0 := by
      have : (2 : Nat) ^ 0 = 1 := rfl
      omega
    subst e
    obtain ⟨f, rfl⟩ : ∃ f, fuel = f + 1 := ⟨fuel - 1, by omega⟩
    rw [f_X11_commonDivisor_b9, if_neg (show ¬ (128 : Int32) ≤ nI j from nI_ge (b := 128) (by omega) (by omega)), if_pos lg_z0, f_X11_commonDivisor_b45, Nat.gcd_zero_right]
  | k + 1, a, b, j, fuel, h1, hk, h2, h3, h4, h5 => by
    obtain ⟨f, rfl⟩ : ∃ f, fuel = f + 1 + 1 := ⟨fuel - 2, by omega⟩
    have hp : 2 ^ (k + 1) = 2 * 2 ^ k := by rw [Nat.pow_succ, Nat.mul_comm]
    by_cases hb : b = 0
    · subst hb
      rw [f_X11_commonDivisor_b9, if_neg (show ¬ (128 : Int32) ≤ nI j from nI_ge (b := 128) (by omega) (by omega)), if_pos lg_z0, f_X11_commonDivisor_b45, Nat.gcd_zero_right]
    · have z : ¬ lN b = 0 := by rw [lN_0 h3]; exact hb
      have hc := Nat.mod_lt a (Nat.pos_of_ne_zero hb)
      have eg : Nat.gcd a b = Nat.gcd b (a % b) := by rw [Nat.gcd_comm a b, Nat.gcd_rec b a, Nat.gcd_comm]
      rw [f_X11_commonDivisor_b9, if_neg (show ¬ (128 : Int32) ≤ nI j from nI_ge (b := 128) (by omega) (by omega)), if_neg (lg_zn z), if_neg z, pk_lRem h2 (Nat.pos_of_ne_zero hb) h3, zlet, zlet, nI_1, eg]
      obtain ⟨c, hcd⟩ : ∃ c, c = a % b := ⟨_, rfl⟩
      rw [← hcd] at hc ⊢
      by_cases h0 : c = 0
      · subst h0
        rw [f_X11_commonDivisor_b9, if_neg (show ¬ (128 : Int32) ≤ nI (j + 1) from nI_ge (b := 128) (by omega) (by omega)), if_pos lg_z0, f_X11_commonDivisor_b45, Nat.gcd_zero_right]
      · have z2 : ¬ lN c = 0 := by rw [lN_0 (by omega)]; exact h0
        have eg2 : Nat.gcd b c = Nat.gcd c (b % c) := by rw [Nat.gcd_comm b c, Nat.gcd_rec c b, Nat.gcd_comm]
        have hh := gcd_half (Nat.pos_of_ne_zero h0) hc
        rw [f_X11_commonDivisor_b9, if_neg (show ¬ (128 : Int32) ≤ nI (j + 1) from nI_ge (b := 128) (by omega) (by omega)), if_neg (lg_zn z2), if_neg z2, pk_lRem h3 (Nat.pos_of_ne_zero h0) (by omega), zlet, zlet, nI_1, eg2]
        exact c_gcd M k c (b % c) (j + 1 + 1) f (by omega) (by omega) (by omega) (by omega) (by omega) (by omega)
theorem m_gcd {N : zMe} {m : Nat} {sc : Nat → Int32} {lg : Nat → Int64} {ar : Nat → Nat → Int32} {en : Nat → Int64} {T u : Nat} (hT : T < 2 ^ 63) (hu : u < 2 ^ 63) : ∀ k a b fuel, b < 2 ^ k → k ≤ 60 → 0 < a → a < 2 ^ 63 → b < 2 ^ 63 → 2 * k + 1 ≤ fuel → f_X12_drawn_b243 fuel m (lN T) (lN u) (lN b) (lN a) (mmk N m sc lg ar en) = some (1, mmk N m sc (vp_updL (vp_updL lg 0 (lN (u / Nat.gcd a b))) 1 (lN (T / Nat.gcd a b))) ar en)
  | 0, a, b, fuel, h1, _, ha, h2, h3, h5 => by
    have e : b = 0 := by
      have : (2 : Nat) ^ 0 = 1 := rfl
      omega
    subst e
    have z : ¬ lN a = 0 := by rw [lN_0 h2]; omega
    obtain ⟨f, rfl⟩ : ∃ f, fuel = f + 1 := ⟨fuel - 1, by omega⟩
    rw [f_X12_drawn_b243, if_pos lg_z0, if_neg z, mm_pL7, Option.bind_some, if_neg z, mm_pL8, Option.bind_some, Nat.gcd_zero_right, pk_lDiv hu ha h2, pk_lDiv hT ha h2]
  | k + 1, a, b, fuel, h1, hk, ha, h2, h3, h5 => by
    obtain ⟨f, rfl⟩ : ∃ f, fuel = f + 1 + 1 := ⟨fuel - 2, by omega⟩
    have hp : 2 ^ (k + 1) = 2 * 2 ^ k := by rw [Nat.pow_succ, Nat.mul_comm]
    by_cases hb : b = 0
    · subst hb
      have z : ¬ lN a = 0 := by rw [lN_0 h2]; omega
      rw [f_X12_drawn_b243, if_pos lg_z0, if_neg z, mm_pL7, Option.bind_some, if_neg z, mm_pL8, Option.bind_some, Nat.gcd_zero_right, pk_lDiv hu ha h2, pk_lDiv hT ha h2]
    · have z : ¬ lN b = 0 := by rw [lN_0 h3]; exact hb
      have hb0 := Nat.pos_of_ne_zero hb
      have hc := Nat.mod_lt a hb0
      have eg : Nat.gcd a b = Nat.gcd b (a % b) := by rw [Nat.gcd_comm a b, Nat.gcd_rec b a, Nat.gcd_comm]
      rw [f_X12_drawn_b243, if_neg (lg_zn z), if_neg z, pk_lRem h2 hb0 h3, zlet, eg]
      obtain ⟨c, hcd⟩ : ∃ c, c = a % b := ⟨_, rfl⟩
      rw [← hcd] at hc ⊢
      by_cases h0 : c = 0
      · subst h0
        rw [f_X12_drawn_b243, if_pos lg_z0, if_neg z, mm_pL7, Option.bind_some, if_neg z, mm_pL8, Option.bind_some, Nat.gcd_zero_right, pk_lDiv hu hb0 h3, pk_lDiv hT hb0 h3]
      · have z2 : ¬ lN c = 0 := by rw [lN_0 (by omega)]; exact h0
        have eg2 : Nat.gcd b c = Nat.gcd c (b % c) := by rw [Nat.gcd_comm b c, Nat.gcd_rec c b, Nat.gcd_comm]
        have hh := gcd_half (Nat.pos_of_ne_zero h0) hc
        rw [f_X12_drawn_b243, if_neg (lg_zn z2), if_neg z2, pk_lRem h3 (Nat.pos_of_ne_zero h0) (by omega), zlet, eg2]
        exact m_gcd hT hu k c (b % c) f (by omega) (by omega) (by omega) (by omega) (by omega) (by omega)
section MDR
variable {N : zMe} {m : Nat} {sc : Nat → Int32} {lg : Nat → Int64} {ar : Nat → Nat → Int32} {en : Nat → Int64} {B : Nat → Nat}
theorem mm_rN12 {k : Nat} (h : k < 10) : zrL (mmk N m sc lg ar en) (m + 12) (nI k) = some (en k) := by rw [mm_r12, if_neg (nI_in h (by omega)), nI_clamp (by omega)]
theorem mm_wN12 {k : Nat} {v : Int64} (h : k < 10) : zwL (mmk N m sc lg ar en) (m + 12) (nI k) v = some (mmk N m sc lg ar (vp_updL en k v)) := by rw [mm_w12, if_neg (nI_in h (by omega)), nI_clamp (by omega)]
theorem uL_s (f : Nat → Int64) (k : Nat) (v : Int64) : vp_updL f k v k = v := by simp [vp_updL]
theorem uL_n (f : Nat → Int64) {k j : Nat} (v : Int64) (h : j ≠ k) : vp_updL f k v j = f j := by simp [vp_updL, h]
theorem n_toL : ∀ r, r < 11 → (nI r).toInt64 = lN r := by decide +kernel
theorem n_toL10 : ∀ r, r < 11 → (10 - nI r).toInt64 = lN (10 - r) := by decide +kernel
/-- one row backwards -/
theorem m_drawRow (k91 : Nat → Int32 → Int32 → Int64 → Int32 → zMe → Option (Int32 × zMe)) (hB : Bk (ar 0) B) (hW : WB B) {d r t tot : Nat} (hd : d < B 6) (hr : r ≤ 10) (ht : t < 12) {e : Nat → Nat} (he : ∀ p, p < B 0 → en (5 * ((t + 1) % 2) + p) = lN (e p)) : ∃ en', f_X12_drawn_b109 k91 zfu m (nI d) (nI r) (lN tot) (nI t) (nI (5 * ((t + 1) % 2))) (nI 0) (mmk N m sc lg ar en) = k91 m (nI d) (nI r) (lN (tot * 10)) (nI t + (-1)) (mmk N m sc lg ar en') ∧ ∀ p, p < B 0 → en' (5 * (t % 2) + p) = lN ((10 - r) * e (gog (B 1) (dg B d) 0 t p) + r * e (gog (B 1) (dg B d) 1 t p)) := by
  have hD := hW.dw d hd
  have hn5 := hW.n5
  have hpar : (t + 1) % 2 + t % 2 = 1 := by omega
  have r00 : ∀ en' : Nat → Int64, zrI (mmk N m sc lg ar en') (m + 1) 0 = some (nI (B 0)) := fun en' => by rw [show (0 : Int32) = nI 0 from rfl, mm_rN1 (by omega), hB 0 (by omega)]
  refine loopC (S := Nat → Int64) (S' := Nat → Int64) (R := Option (Int32 × zMe)) (fun fuel j s => f_X12_drawn_b109 k91 fuel m (nI d) (nI r) (lN tot) (nI t) (nI (5 * ((t + 1) % 2))) (nI j) (mmk N m sc lg ar s)) (fun s => k91 m (nI d) (nI r) (lN (tot * 10)) (nI t + (-1)) (mmk N m sc lg ar s)) (B 0) (fun j s => (∀ p, p < B 0 → s (5 * ((t + 1) % 2) + p) = lN (e p)) ∧ ∀ p, p < j → s (5 * (t % 2) + p) = lN ((10 - r) * e (gog (B 1) (dg B d) 0 t p) + r * e (gog (B 1) (dg B d) 1 t p))) (fun s => ∀ p, p < B 0 → s (5 * (t % 2) + p) = lN ((10 - r) * e (gog (B 1) (dg B d) 0 t p) + r * e (gog (B 1) (dg B d) 1 t p))) (by omega) (fun fu j s hj hI => ?_) (fun fu s hI => ?_) en ⟨he, fun p hp => by omega⟩
  · have l0 := gog_lt (sh := B 1) (t := t) hD (w := 0) (by omega) hj
    have l1 := gog_lt (sh := B 1) (t := t) hD (w := 1) (by omega) hj
    have g0 : f_X12_go m (nI d) (nI j) 0 (nI t) (mmk N m sc lg ar s) = some (nI (gog (B 1) (dg B d) 0 t j), mmk N m sc lg ar s) := m_goN (w := 0) hB hW hd (by omega) (by omega) (by omega)
    have g1 : f_X12_go m (nI d) (nI j) 1 (nI t) (mmk N m sc lg ar s) = some (nI (gog (B 1) (dg B d) 1 t j), mmk N m sc lg ar s) := m_goN (w := 1) hB hW hd (by omega) (by omega) (by omega)
    have e2 : nI t - nI t / 2 * 2 = nI (t % 2) := pk_rem (d := 2) (by omega) (by omega) (by omega)
    have e5 : (5 : Int32) * nI (t % 2) + nI j = nI (5 * (t % 2) + j) := by rw [show (5 : Int32) * nI (t % 2) = nI (5 * (t % 2)) from pk_mul 5 _, nI_add]
    refine ⟨vp_updL s (5 * (t % 2) + j) (lN ((10 - r) * e (gog (B 1) (dg B d) 0 t j) + r * e (gog (B 1) (dg B d) 1 t j))), ?_, fun p hp => ?_, fun p hp => ?_⟩
    · show f_X12_drawn_b109 k91 (fu + 1) m (nI d) (nI r) (lN tot) (nI t) (nI (5 * ((t + 1) % 2))) (nI j) (mmk N m sc lg ar s) = f_X12_drawn_b109 k91 fu m (nI d) (nI r) (lN tot) (nI t) (nI (5 * ((t + 1) % 2))) (nI (j + 1)) (mmk N m sc lg ar (vp_updL s (5 * (t % 2) + j) (lN ((10 - r) * e (gog (B 1) (dg B d) 0 t j) + r * e (gog (B 1) (dg B d) 1 t j)))))
      rw [f_X12_drawn_b109, mm_gN0, Option.bind_some, r00, Option.bind_some, if_neg (nI_ge hj (by omega)), mm_gN20, Option.bind_some, e2, zlet, Option.bind_some, mm_ob, Option.bind_some, g1, Option.bind_some, nI_add, mm_rN12 (by omega), Option.bind_some, mm_gN20, Option.bind_some, mm_ob, Option.bind_some, g0, Option.bind_some, nI_add, mm_rN12 (by omega), Option.bind_some, e5, hI.1 _ l0, hI.1 _ l1, n_toL r (by omega), n_toL10 r (by omega), lN_mul, lN_mul, lN_add, mm_wN12 (by omega), Option.bind_some, zlet, nI_1, Nat.add_comm (r * _)]
    · rw [uL_n _ _ (by omega)]
      exact hI.1 p hp
    · by_cases z : p = j
      · rw [z, uL_s]
      · rw [uL_n _ _ (by omega)]
        exact hI.2 p (by omega)
  · refine ⟨s, ?_, hI.2⟩
    show f_X12_drawn_b109 k91 (fu + 1) m (nI d) (nI r) (lN tot) (nI t) (nI (5 * ((t + 1) % 2))) (nI (B 0)) (mmk N m sc lg ar s) = _
    rw [f_X12_drawn_b109, mm_gN0, Option.bind_some, r00, Option.bind_some, if_pos (nI_le (Nat.le_refl _) (by omega)), show lN tot * (10 : Int64) = lN (tot * 10) from lN_mul tot 10, zlet, zlet]
theorem p10_lt {k : Nat} (h : k ≤ 12) : 10 ^ k ≤ 1000000000000 := Nat.le_trans (Nat.pow_le_pow_right (by decide) h) (by decide)
/-- the sum and the fraction -/
theorem m_drawEnd (hB : Bk (ar 0) B) (hW : WB B) {k : Nat} (hk : k ≤ 12) {e : Nat → Nat} (he : ∀ p, p < B 0 → en p = lN (e p)) (he9 : ∀ p, p < B 0 → e p ≤ 10 ^ k) : f_X12_drawn_b206 zfu m (lN (B 0 * 10 ^ k)) (0 : Int64) 0 (mmk N m sc lg ar en) = some (1, mmk N m sc (vp_updL (vp_updL lg 0 (lN (sE (fun _ => 1) e (B 0) / Nat.gcd (B 0 * 10 ^ k) (sE (fun _ => 1) e (B 0))))) 1 (lN (B 0 * 10 ^ k / Nat.gcd (B 0 * 10 ^ k) (sE (fun _ => 1) e (B 0))))) ar en) := by
  have hn5 := hW.n5
  have hn2 := hW.n2
  have h10 := p10_lt hk
  have r00 : zrI (mmk N m sc lg ar en) (m + 1) 0 = some (nI (B 0)) := by rw [show (0 : Int32) = nI 0 from rfl, mm_rN1 (by omega), hB 0 (by omega)]
  have hT1 : B 0 * 10 ^ k ≤ 5 * 1000000000000 := Nat.mul_le_mul hn5 h10
  have hT0 : 0 < B 0 * 10 ^ k := Nat.mul_pos (by omega) (Nat.pos_of_ne_zero (fun z => by simp at z))
  have hs : sE (fun _ => 1) e (B 0) ≤ B 0 * 10 ^ k := sE_le _ (fun p hp => by rw [Nat.one_mul]; exact he9 p hp)
  have lp := loopZ (fun fuel j => f_X12_drawn_b206 fuel m (lN (B 0 * 10 ^ k)) (lN (sE (fun _ => 1) e j)) (nI j) (mmk N m sc lg ar en)) (B 0) (f_X12_drawn_b243 zfu m (lN (B 0 * 10 ^ k)) (lN (sE (fun _ => 1) e (B 0))) (lN (sE (fun _ => 1) e (B 0))) (lN (B 0 * 10 ^ k)) (mmk N m sc lg ar en)) (by omega) (fun fu j hj => ?_) (fun fu => ?_)
  · have lp : f_X12_drawn_b206 zfu m (lN (B 0 * 10 ^ k)) (0 : Int64) 0 (mmk N m sc lg ar en) = _ := lp
    rw [lp]
    exact m_gcd (by omega) (by omega) 43 (B 0 * 10 ^ k) (sE (fun _ => 1) e (B 0)) zfu (by omega) (by omega) hT0 (by omega) (by omega) (by unfold zfu; omega)
  · show f_X12_drawn_b206 (fu + 1) m (lN (B 0 * 10 ^ k)) (lN (sE (fun _ => 1) e j)) (nI j) (mmk N m sc lg ar en) = f_X12_drawn_b206 fu m (lN (B 0 * 10 ^ k)) (lN (sE (fun _ => 1) e (j + 1))) (nI (j + 1)) (mmk N m sc lg ar en)
    rw [f_X12_drawn_b206, mm_gN0, Option.bind_some, r00, Option.bind_some, if_neg (nI_ge hj (by omega)), mm_gN20, Option.bind_some, mm_rN12 (by omega), Option.bind_some, he j hj, lN_add, zlet, zlet, nI_1, sE, Nat.one_mul]
  · show f_X12_drawn_b206 (fu + 1) m (lN (B 0 * 10 ^ k)) (lN (sE (fun _ => 1) e (B 0))) (nI (B 0)) (mmk N m sc lg ar en) = _
    rw [f_X12_drawn_b206, mm_gN0, Option.bind_some, r00, Option.bind_some, if_pos (nI_le (Nat.le_refl _) (by omega))]
/-- the fraction -/
def nuz (B : Nat → Nat) (d k r : Nat) : Nat := sE (fun _ => 1) (enz (gog (B 1) (dg B d)) r (B 2) k k) (B 0)
theorem m_drawn (hB : Bk (ar 0) B) (hW : WB B) {d k r : Nat} (hd : d < B 6) (hk : k ≤ 12) (hr : r ≤ 10) : ∃ en', f_X12_drawn_b36 zfu m (nI d) (nI k) (nI r) 0 (mmk N m sc lg ar en) = some (1, mmk N m sc (vp_updL (vp_updL lg 0 (lN (nuz B d k r / Nat.gcd (B 0 * 10 ^ k) (nuz B d k r)))) 1 (lN (B 0 * 10 ^ k / Nat.gcd (B 0 * 10 ^ k) (nuz B d k r)))) ar en') := by
  have hn5 := hW.n5
  have hgo := hW.go
  have rr : ∀ (en' : Nat → Int64) j, j < 25 → zrI (mmk N m sc lg ar en') (m + 1) (nI j) = some (nI (B j)) := fun en' j hj => by rw [mm_rN1 hj, hB j hj]
  have r00 : ∀ en' : Nat → Int64, zrI (mmk N m sc lg ar en') (m + 1) 0 = some (nI (B 0)) := fun en' => rr en' 0 (by omega)
  have r02 : ∀ en' : Nat → Int64, zrI (mmk N m sc lg ar en') (m + 1) 2 = some (nI (B 2)) := fun en' => rr en' 2 (by omega)
  -- backwards
  have bk : ∀ en0 : Nat → Int64, (∀ p, p < B 0 → en0 (5 * (k % 2) + p) = lN (enz (gog (B 1) (dg B d)) r (B 2) k 0 p)) → ∃ en', f_X12_drawn_b91 zfu m (nI d) (nI r) (lN (B 0)) (nI k + (-1)) (mmk N m sc lg ar en0) = some (1, mmk N m sc (vp_updL (vp_updL lg 0 (lN (nuz B d k r / Nat.gcd (B 0 * 10 ^ k) (nuz B d k r)))) 1 (lN (B 0 * 10 ^ k / Nat.gcd (B 0 * 10 ^ k) (nuz B d k r)))) ar en') := by
    intro en0 h0
    have lp := loopC (S := Nat → Int64) (S' := Nat → Int64) (R := Option (Int32 × zMe)) (fun fuel j s => f_X12_drawn_b91 fuel m (nI d) (nI r) (lN (B 0 * 10 ^ j)) (nI (k - j) + (-1)) (mmk N m sc lg ar s)) (fun s => some (1, mmk N m sc (vp_updL (vp_updL lg 0 (lN (nuz B d k r / Nat.gcd (B 0 * 10 ^ k) (nuz B d k r)))) 1 (lN (B 0 * 10 ^ k / Nat.gcd (B 0 * 10 ^ k) (nuz B d k r)))) ar s)) k (fun j s => ∀ p, p < B 0 → s (5 * ((k - j) % 2) + p) = lN (enz (gog (B 1) (dg B d)) r (B 2) k j p)) (fun _ => True) (by omega) (fun fu j s hj hI => ?_) (fun fu s hI => ?_) en0 h0
    · obtain ⟨s', e, -⟩ := lp
      have e : f_X12_drawn_b91 zfu m (nI d) (nI r) (lN (B 0 * 10 ^ 0)) (nI (k - 0) + (-1)) (mmk N m sc lg ar en0) = _ := e
      rw [Nat.pow_zero, Nat.mul_one, Nat.sub_zero] at e
      exact ⟨s', e⟩
    · obtain ⟨t, ht⟩ : ∃ t, t = k - (j + 1) := ⟨_, rfl⟩
      have e1 : k - j = t + 1 := by omega
      have e2 : nI (k - j) + (-1) = nI t := by rw [e1, pk_m1]
      have hI : ∀ p, p < B 0 → s (5 * ((k - j) % 2) + p) = lN (enz (gog (B 1) (dg B d)) r (B 2) k j p) := hI
      rw [e1] at hI
      obtain ⟨s', a1, a2⟩ := m_drawRow (N := N) (m := m) (sc := sc) (lg := lg) (tot := B 0 * 10 ^ j) (f_X12_drawn_b91 fu) hB hW hd hr (t := t) (by omega) hI
      refine ⟨s', ?_, fun p hp => ?_⟩
      · show f_X12_drawn_b91 (fu + 1) m (nI d) (nI r) (lN (B 0 * 10 ^ j)) (nI (k - j) + (-1)) (mmk N m sc lg ar s) = f_X12_drawn_b91 fu m (nI d) (nI r) (lN (B 0 * 10 ^ (j + 1))) (nI (k - (j + 1)) + (-1)) (mmk N m sc lg ar s')
        have e3 : nI t + 1 - (nI t + 1) / 2 * 2 = nI ((t + 1) % 2) := by rw [nI_1]; exact pk_rem (d := 2) (by omega) (by omega) (by omega)
        rw [e2, ← ht, f_X12_drawn_b91, if_neg (nI_pos (by omega)), e3, zlet, show (5 : Int32) * nI ((t + 1) % 2) = nI (5 * ((t + 1) % 2)) from pk_mul 5 _, zlet, Nat.pow_succ, ← Nat.mul_assoc]
        exact a1
      · rw [← ht, a2 p hp, enz, ← ht]
    · refine ⟨s, ?_, trivial⟩
      show f_X12_drawn_b91 (fu + 1) m (nI d) (nI r) (lN (B 0 * 10 ^ k)) (nI (k - k) + (-1)) (mmk N m sc lg ar s) = _
      have hI : ∀ p, p < B 0 → s (5 * ((k - k) % 2) + p) = lN (enz (gog (B 1) (dg B d)) r (B 2) k k p) := hI
      rw [Nat.sub_self] at hI ⊢
      rw [f_X12_drawn_b91, if_pos (show nI 0 + (-1) < 0 by decide)]
      exact m_drawEnd hB hW hk (fun p hp => by have := hI p hp; rw [show 5 * (0 % 2) + p = p by omega] at this; exact this) (fun p hp => enz_le hr _ _ _ _ _)
  -- the last row
  have em1 : nI k - 1 = nI k + (-1) := by rw [Int32.sub_eq_add_neg]
  refine loopX (S := Nat → Int64) (R := Option (Int32 × zMe)) (fun fuel j s => f_X12_drawn_b36 fuel m (nI d) (nI k) (nI r) (nI j) (mmk N m sc lg ar s)) 5 (fun j s => ∀ p, p < j → s (5 * (k % 2) + p) = lN (if p = B 2 then 1 else 0)) (fun Q => ∃ en', Q = some (1, mmk N m sc (vp_updL (vp_updL lg 0 (lN (nuz B d k r / Nat.gcd (B 0 * 10 ^ k) (nuz B d k r)))) 1 (lN (B 0 * 10 ^ k / Nat.gcd (B 0 * 10 ^ k) (nuz B d k r)))) ar en')) (by omega) (fun fu j s hj hI => Or.inl ?_) (fun fu s hI => ?_) en (fun p hp => by omega)
  · have e2 : nI k - nI k / 2 * 2 = nI (k % 2) := pk_rem (d := 2) (by omega) (by omega) (by omega)
    have e5 : (5 : Int32) * nI (k % 2) + nI j = nI (5 * (k % 2) + j) := by rw [show (5 : Int32) * nI (k % 2) = nI (5 * (k % 2)) from pk_mul 5 _, nI_add]
    refine ⟨vp_updL s (5 * (k % 2) + j) (lN (if j = B 2 then 1 else 0)), ?_, fun p hp => ?_⟩
    · show f_X12_drawn_b36 (fu + 1) m (nI d) (nI k) (nI r) (nI j) (mmk N m sc lg ar s) = f_X12_drawn_b36 fu m (nI d) (nI k) (nI r) (nI (j + 1)) (mmk N m sc lg ar (vp_updL s (5 * (k % 2) + j) (lN (if j = B 2 then 1 else 0))))
      rw [f_X12_drawn_b36, if_neg (show ¬ (5 : Int32) ≤ nI j from nI_ge (b := 5) hj (by omega)), mm_gN20, Option.bind_some, e2, zlet, mm_gN0, Option.bind_some, r02, Option.bind_some, e5, f_X12_drawn_b70, f_X12_drawn_b70, mm_wN12 (by omega), mm_wN12 (by omega), Option.bind_some, Option.bind_some, zlet, zlet, nI_1]
      simp only [nI_eq (show j < 2 ^ 31 by omega) (show B 2 < 2 ^ 31 by omega)]
      by_cases hz : j = B 2
      · rw [if_pos hz, if_pos hz]; rfl
      · rw [if_neg hz, if_neg hz]; rfl
    · by_cases z : p = j
      · rw [z, uL_s]
      · rw [uL_n _ _ (by omega)]
        exact hI p (by omega)
  · show ∃ en', f_X12_drawn_b36 (fu + 1) m (nI d) (nI k) (nI r) (nI 5) (mmk N m sc lg ar s) = _
    rw [f_X12_drawn_b36, if_pos (show (5 : Int32) ≤ nI 5 by decide), mm_gN0, Option.bind_some, r00, Option.bind_some, em1, zlet, n_toL (B 0) (by omega)]
    exact bk s (fun p hp => hI p (by omega))
end MDR
