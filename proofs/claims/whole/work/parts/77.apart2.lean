def sglz (n : Nat) : Nat → Nat := fun k => orF (fun i => if pc5 (1 + i) = 1 then 2 ^ (1 + i) else 0) k
theorem sglz_bit (n k s : Nat) : (sglz n k).testBit s = true ↔ 1 ≤ s ∧ s < 1 + k ∧ pc5 s = 1 := by
  unfold sglz
  rw [orF_bit]
  constructor
  · rintro ⟨p, h1, h2⟩
    by_cases hc : pc5 (1 + p) = 1
    · rw [if_pos hc, Nat.testBit_two_pow, decide_eq_true_iff] at h2
      subst h2
      exact ⟨by omega, by omega, hc⟩
    · rw [if_neg hc] at h2
      simp at h2
  · rintro ⟨h1, h2, h3⟩
    refine ⟨s - 1, by omega, ?_⟩
    rw [show 1 + (s - 1) = s by omega, if_pos h3, Nat.testBit_two_pow]
    simp
theorem sglz_lt (n : Nat) {k : Nat} (hk : k ≤ 31) : sglz n k < 2 ^ 32 := by
  refine orF_ltn (b := 32) k (fun i hi => ?_)
  split
  · exact Nat.pow_lt_pow_right (by decide) (by omega)
  · exact Nat.two_pow_pos 32
theorem pc5_oneB : ((List.range 32).all fun s => (List.range 5).all fun a => (List.range 5).all fun b => !(pc5 s == 1) || !s.testBit a || !s.testBit b || a == b) = true := by decide +kernel
theorem pc5_one (s : Nat) (hs : s < 32) (a : Nat) (ha : a < 5) (b : Nat) (hb : b < 5) (h1 : pc5 s = 1) (h2 : s.testBit a = true) (h3 : s.testBit b = true) : a = b := by
  have h := List.all_eq_true.mp pc5_oneB s (List.mem_range.mpr hs)
  have h := List.all_eq_true.mp h a (List.mem_range.mpr ha)
  have h := List.all_eq_true.mp h b (List.mem_range.mpr hb)
  rw [h1, h2, h3] at h
  simpa using h
theorem pc5_pow : ∀ a, a < 5 → pc5 (2 ^ a) = 1 := by decide +kernel
theorem or_lt32 {x y : Nat} (hx : x < 5) (hy : y < 5) : 2 ^ x ||| 2 ^ y < 32 := Nat.or_lt_two_pow (n := 5) (Nat.pow_lt_pow_right (by decide) hx) (Nat.pow_lt_pow_right (by decide) hy)
theorem or_bitL (x y : Nat) : (2 ^ x ||| 2 ^ y).testBit x = true := by rw [Nat.testBit_or, Nat.testBit_two_pow]; simp
theorem or_bitR (x y : Nat) : (2 ^ x ||| 2 ^ y).testBit y = true := by rw [Nat.testBit_or, Nat.testBit_two_pow, Nat.testBit_two_pow]; simp
section LM2
variable {M : zMe} {a n sh : Nat} {D : Nat → Nat} {st en me : Nat → Int32}
theorem l_fill (v : Int32) {nn : Int32} : ∃ me', f_J7_fill_53178 (a + 3) v (lmk M a nn st en me) = some (lmk M a nn st en me') ∧ ∀ k, k < 5 → me' k = v := by
  have lp := loopC (S := Nat → Int32) (S' := Nat → Int32) (R := Option zMe) (fun fuel j s => f_J7_fill_53178_b5 fuel (a + 3) v (nI j) (nI 5) (lmk M a nn st en s)) (fun s => some (lmk M a nn st en s)) 5 (fun j s => ∀ k, k < j → s k = v) (fun s => ∀ k, k < 5 → s k = v) (by omega) (fun fu j s hj hI => ?_) (fun fu s hI => ?_) me (fun k hk => by omega)
  · obtain ⟨me', e, y⟩ := lp
    refine ⟨me', ?_, y⟩
    have e' : f_J7_fill_53178_b5 zfu (a + 3) v (nI 0) (nI 5) (lmk M a nn st en me) = some (lmk M a nn st en me') := e
    rw [nI_0] at e'
    rw [f_J7_fill_53178, lm_l3, Option.bind_some]
    exact e'
  · refine ⟨upd s j v, ?_, fun k hk => ?_⟩
    · show f_J7_fill_53178_b5 (fu + 1) (a + 3) v (nI j) (nI 5) (lmk M a nn st en s) = f_J7_fill_53178_b5 fu (a + 3) v (nI (j + 1)) (nI 5) (lmk M a nn st en (upd s j v))
      rw [f_J7_fill_53178_b5, if_neg (nI_ge hj (by omega)), lm_w3 hj, Option.bind_some, zlet, nI_1]
    · by_cases e : k = j
      · rw [e, up_s]
      · rw [up_n _ _ e]; exact hI k (by omega)
  · refine ⟨s, ?_, hI⟩
    show f_J7_fill_53178_b5 (fu + 1) (a + 3) v (nI 5) (nI 5) (lmk M a nn st en s) = _
    rw [f_J7_fill_53178_b5, if_pos (nI_le (Nat.le_refl 5) (by omega))]
def muz (mv : Nat → Nat) : Nat := cbB (fun q => (mv (q / 32)).testBit (q % 32)) 160
theorem muz_le (mv : Nat → Nat) : muz mv ≤ 160 := cbB_le _ _
theorem muz_lt {mv mv' : Nat → Nat} (h : ∀ ph, ph < 5 → ∀ i, (mv ph).testBit i = true → (mv' ph).testBit i = true) (hl : ∀ ph, ph < 5 → mv ph < 2 ^ 32 ∧ mv' ph < 2 ^ 32) (hd : ∃ ph, ph < 5 ∧ mv' ph ≠ mv ph) : muz mv < muz mv' := by
  obtain ⟨ph, h1, h2⟩ := hd
  refine (cbB_mono 160 (fun q hq => h (q / 32) (by omega) (q % 32))).2 ?_
  apply Classical.byContradiction
  intro z
  apply h2
  refine (eq_bits (t := 32) (hl ph h1).2 (hl ph h1).1 (fun i hi => ?_))
  apply Classical.byContradiction
  intro y
  refine z ⟨32 * ph + i, by omega, ?_⟩
  rw [show (32 * ph + i) / 32 = ph by omega, show (32 * ph + i) % 32 = i by omega]
  exact fun e => y e.symm
theorem l_meet (hL : Lrn st sh D n) (hD : DW n D) (hn : n ≤ 5) (hn1 : 1 ≤ n) : ∃ me' V, f_X4_findMeetings a (lmk M a (nI (2 ^ n)) st en me) = some (lmk M a (nI (2 ^ n)) st en me') ∧ me' 0 = nI V ∧ V < 2 ^ 32 ∧ ∀ x y, x < n → y < n → (V.testBit (2 ^ x ||| 2 ^ y) = true ↔ Mee (gog sh D) 0 x y) := by
  have h32 := p2_32 hn
  have hpos := Nat.two_pow_pos n
  obtain ⟨sg, hsg⟩ : ∃ sg, sg = sglz n (2 ^ n - 1) := ⟨_, rfl⟩
  have hsl : sg < 2 ^ 32 := by rw [hsg]; exact sglz_lt n (by omega)
  obtain ⟨me0, f1, f2⟩ := l_fill (M := M) (a := a) (st := st) (en := en) (me := me) (nI sg) (nn := nI (2 ^ n))
  have hsb : ∀ s, sg.testBit s = true ↔ 1 ≤ s ∧ s < 2 ^ n ∧ pc5 s = 1 := fun s => by
    rw [hsg, sglz_bit]
    omega
  -- the rounds
  have rounds : ∃ me' V, f_X4_findMeetings_b48 zfu a 1 (nI 0) (lmk M a (nI (2 ^ n)) st en me0) = some (lmk M a (nI (2 ^ n)) st en me') ∧ me' 0 = nI V ∧ V < 2 ^ 32 ∧ ∀ x y, x < n → y < n → (V.testBit (2 ^ x ||| 2 ^ y) = true ↔ Mee (gog sh D) 0 x y) := by
    -- what the end gives
    have fin : ∀ (m1 : Nat → Int32) (v1 : Nat → Nat), (∀ ph, ph < 5 → m1 ph = nI (v1 ph) ∧ v1 ph < 2 ^ 32) → Sdn (gog sh D) n v1 → (∀ ph, ph < 5 → ∀ i, sg.testBit i = true → (v1 ph).testBit i = true) → (∀ ph, ph < 5 → Clz (stg sh D n) n v1 ph) → ∃ me' V, some (lmk M a (nI (2 ^ n)) st en m1) = some (lmk M a (nI (2 ^ n)) st en me') ∧ me' 0 = nI V ∧ V < 2 ^ 32 ∧ ∀ x y, x < n → y < n → (V.testBit (2 ^ x ||| 2 ^ y) = true ↔ Mee (gog sh D) 0 x y) := by
      intro m1 v1 g1 g2 g3 g4
      refine ⟨m1, v1 0, rfl, (g1 0 (by omega)).1, (g1 0 (by omega)).2, fun x y hx hy => ⟨fun hb => g2 0 (by omega) _ hb x y hx hy (or_bitL x y) (or_bitR x y), fun ⟨k, hk⟩ => ?_⟩⟩
      refine Mee.sub (go := gog sh D) (n := n) (T := fun ph x y => (v1 ph).testBit (2 ^ x ||| 2 ^ y) = true) (fun w hw ph p hp => gog_lt hD hw hp) (fun ph p hph hp => ?_) (fun ph p q w hph hp hq hw ht => ?_) k 0 x y (by omega) hx hy hk
      · show (v1 ph).testBit (2 ^ p ||| 2 ^ p) = true
        rw [Nat.or_self]
        have hpp := Nat.two_pow_pos p
        have hpl : 2 ^ p < 2 ^ n := Nat.pow_lt_pow_right (by decide) hp
        exact g3 ph hph _ ((hsb _).mpr ⟨by omega, hpl, pc5_pow p (by omega)⟩)
      · show (v1 ph).testBit (2 ^ p ||| 2 ^ q) = true
        have ei : stg sh D n w ph (2 ^ p ||| 2 ^ q) = 2 ^ gog sh D w ph p ||| 2 ^ gog sh D w ph q := by
          show img _ n _ = _
          rw [img_or, img_1 _ hp, img_1 _ hq]
        have hpl : 2 ^ p < 2 ^ n := Nat.pow_lt_pow_right (by decide) hp
        have hql : 2 ^ q < 2 ^ n := Nat.pow_lt_pow_right (by decide) hq
        have hne : 2 ^ p ||| 2 ^ q ≠ 0 := fun z => by
          have := or_bitL p q
          rw [z] at this
          simp at this
        refine g4 ph hph _ (Nat.pos_of_ne_zero hne) (Nat.or_lt_two_pow hpl hql) ?_
        have ht' : (v1 (npz ph)).testBit (2 ^ gog sh D w ph p ||| 2 ^ gog sh D w ph q) = true := ht
        rw [← ei] at ht'
        rcases (show w = 0 ∨ w = 1 by omega) with rfl | rfl
        · exact Or.inl ht'
        · exact Or.inr ht'
    refine loopX (S := Int32 × (Nat → Int32) × (Nat → Nat)) (R := Option zMe) (fun fuel r s => f_X4_findMeetings_b48 fuel a s.1 (nI r) (lmk M a (nI (2 ^ n)) st en s.2.1)) 161 (fun r s => (∀ ph, ph < 5 → s.2.1 ph = nI (s.2.2 ph) ∧ s.2.2 ph < 2 ^ 32) ∧ Sdn (gog sh D) n s.2.2 ∧ (∀ ph, ph < 5 → ∀ i, sg.testBit i = true → (s.2.2 ph).testBit i = true) ∧ ((s.1 = 1 ∧ r ≤ muz s.2.2) ∨ (s.1 = 0 ∧ ∀ ph, ph < 5 → Clz (stg sh D n) n s.2.2 ph))) (fun R => ∃ me' V, R = some (lmk M a (nI (2 ^ n)) st en me') ∧ me' 0 = nI V ∧ V < 2 ^ 32 ∧ ∀ x y, x < n → y < n → (V.testBit (2 ^ x ||| 2 ^ y) = true ↔ Mee (gog sh D) 0 x y)) (by omega) (fun fu r s hr hI => ?_) (fun fu s hI => ?_) ((1 : Int32), me0, fun _ => sg) ⟨fun ph hp => ⟨f2 ph hp, hsl⟩, fun ph hp s hs x y hx hy sx sy => ?_, fun ph _ i hi => hi, Or.inl ⟨rfl, Nat.zero_le _⟩⟩
    · obtain ⟨fl, m1, v1⟩ := s
      obtain ⟨i1, i2, i3, i4⟩ := hI
      rcases i4 with ⟨a1, a2⟩ | ⟨a1, a2⟩
      · have a1' : fl = 1 := a1
        subst a1'
        obtain ⟨fl', m2, v2, g1, g2, g3, g4, g5⟩ := l_grow (M := M) (a := a) (en := en) (me := m1) hL hD hn i1 i2
        refine Or.inl ⟨(fl', m2, v2), ?_, g2, g3, fun ph hp i hi => g4 ph hp i (i3 ph hp i hi), ?_⟩
        · show f_X4_findMeetings_b48 (fu + 1) a 1 (nI r) (lmk M a (nI (2 ^ n)) st en m1) = f_X4_findMeetings_b48 fu a fl' (nI (r + 1)) (lmk M a (nI (2 ^ n)) st en m2)
          rw [f_X4_findMeetings_b48, if_neg (show ¬ (160 : Int32) < nI r from nI_nlt (a := 160) (by omega) (by omega)), if_neg one0, lm_ob, Option.bind_some, g1, Option.bind_some, zlet, nI_1]
        · rcases g5 with ⟨b1, b2, b3⟩ | ⟨b1, b2⟩
          · refine Or.inr ⟨b1, fun ph hp s s1 s2 hs => ?_⟩
            have e1 : v2 (npz ph) = v1 (npz ph) := b2 _ (npz5 hp).1
            have e2 : v2 ph = v1 ph := b2 _ hp
            show (v2 ph).testBit s = true
            have hs' : (v2 (npz ph)).testBit (stg sh D n 0 ph s) = true ∨ (v2 (npz ph)).testBit (stg sh D n 1 ph s) = true := hs
            rw [e1] at hs'
            rw [e2]
            exact b3 ph hp s s1 s2 hs'
          · have := muz_lt g4 (fun ph hp => ⟨(i1 ph hp).2, (g2 ph hp).2⟩) b2
            have a2' : r ≤ muz v1 := a2
            exact Or.inl ⟨b1, by show r + 1 ≤ muz v2; omega⟩
      · have a1' : fl = 0 := a1
        subst a1'
        refine Or.inr ?_
        obtain ⟨me', V, h1, h2⟩ := fin m1 v1 i1 i2 i3 a2
        refine ⟨me', V, ?_, h2⟩
        rw [← h1]
        show f_X4_findMeetings_b48 (fu + 1) a 0 (nI r) (lmk M a (nI (2 ^ n)) st en m1) = _
        rw [f_X4_findMeetings_b48, if_neg (show ¬ (160 : Int32) < nI r from nI_nlt (a := 160) (by omega) (by omega)), if_pos rfl, f_X4_findMeetings_b70]
    · obtain ⟨fl, m1, v1⟩ := s
      obtain ⟨i1, i2, i3, i4⟩ := hI
      rcases i4 with ⟨_, a2⟩ | ⟨_, a2⟩
      · exfalso
        have := muz_le v1
        have a2' : 161 ≤ muz v1 := a2
        omega
      · obtain ⟨me', V, h1, h2⟩ := fin m1 v1 i1 i2 i3 a2
        refine ⟨me', V, ?_, h2⟩
        rw [← h1]
        show f_X4_findMeetings_b48 (fu + 1) a fl (nI 161) (lmk M a (nI (2 ^ n)) st en m1) = _
        rw [f_X4_findMeetings_b48, if_pos (show (160 : Int32) < nI 161 by decide), f_X4_findMeetings_b70]
    · have hs' : sg.testBit s = true := hs
      obtain ⟨c1, c2, c3⟩ := (hsb s).mp hs'
      have := pc5_one s (by omega) x (by omega) y (by omega) c3 sx sy
      subst this
      exact Mee.refl _ _ _
  obtain ⟨me', V, r1, r2⟩ := rounds
  refine ⟨me', V, ?_, r2⟩
  have key : f_X4_findMeetings_b4 zfu a (nI (sglz n 0)) (nI (1 + 0)) (lmk M a (nI (2 ^ n)) st en me) = some (lmk M a (nI (2 ^ n)) st en me') := by
    refine loopZ (fun fuel j => f_X4_findMeetings_b4 fuel a (nI (sglz n j)) (nI (1 + j)) (lmk M a (nI (2 ^ n)) st en me)) (2 ^ n - 1) _ (by omega) (fun f j hj => ?_) (fun f => ?_)
    · show f_X4_findMeetings_b4 (f + 1) a (nI (sglz n j)) (nI (1 + j)) (lmk M a (nI (2 ^ n)) st en me) = f_X4_findMeetings_b4 f a (nI (sglz n j ||| (if pc5 (1 + j) = 1 then 2 ^ (1 + j) else 0))) (nI (1 + (j + 1))) (lmk M a (nI (2 ^ n)) st en me)
      have hp5 : pc5 (1 + j) < 2 ^ 31 := by unfold pc5; omega
      rw [f_X4_findMeetings_b4, lm_g3, Option.bind_some, if_neg (nI_ge (show 1 + j < 2 ^ n by omega) (by omega)), c_bits (by omega), Option.bind_some]
      simp only [n_eq1 hp5]
      by_cases hc : pc5 (1 + j) = 1
      · rw [if_pos hc, if_pos hc, f_X4_findMeetings_b28, n_sh1 (by omega), n_or, zlet, zlet, nI_1]
        rfl
      · rw [if_neg hc, if_neg hc, f_X4_findMeetings_b28, show (0 : Int32) = nI 0 from rfl, n_or, zlet, zlet, nI_1]
        rfl
    · show f_X4_findMeetings_b4 (f + 1) a (nI (sglz n (2 ^ n - 1))) (nI (1 + (2 ^ n - 1))) (lmk M a (nI (2 ^ n)) st en me) = _
      rw [nI_0] at r1
      rw [show 1 + (2 ^ n - 1) = 2 ^ n by omega, f_X4_findMeetings_b4, lm_g3, Option.bind_some, if_pos (nI_le (Nat.le_refl _) (by omega)), lm_g2, Option.bind_some, ← hsg, f1, Option.bind_some]
      exact r1
  rw [f_X4_findMeetings]
  exact key
end LM2
