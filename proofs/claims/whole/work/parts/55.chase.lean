/-! the lowest bit -/
theorem bcI_p : ∀ l, l < 21 → bcI (nI (2 ^ l) - 1) = nI l := by decide +kernel
theorem low_and {e l : Nat} (he : e < 2 ^ 31) (h1 : e.testBit l = true) (h2 : ∀ i, e.testBit i = true → l ≤ i) : nI e &&& -nI e = nI (2 ^ l) := by
  have hl : l < 31 := bit_lt he h1
  have hm : e % 2 ^ (l + 1) = 2 ^ l := by
    refine eq_bits (t := l + 1) (Nat.mod_lt _ (Nat.two_pow_pos _)) (Nat.pow_lt_pow_right (by decide) (by omega)) (fun i hi => ?_)
    rw [md_bit _ _ i hi, Nat.testBit_two_pow]
    by_cases e2 : l = i
    · subst e2; rw [h1]; simp
    · cases hb : e.testBit i with
      | true => have := h2 i hb; omega
      | false => simp [e2]
  have hd : e = 2 ^ (l + 1) * (e / 2 ^ (l + 1)) + 2 ^ l := by
    have := Nat.div_add_mod e (2 ^ (l + 1))
    omega
  have hp := Nat.two_pow_pos l
  have hq : (2 : Nat) ^ (l + 1) = 2 * 2 ^ l := by rw [Nat.pow_succ]; omega
  have hpos : 0 < e := by
    rw [hd]
    omega
  apply Int32.toBitVec_inj.mp
  rw [Int32.toBitVec_and]
  apply BitVec.eq_of_toNat_eq
  rw [BitVec.toNat_and, pk_tn (by omega), pk_tn (show 2 ^ l < 2 ^ 32 from Nat.pow_lt_pow_right (by decide) (by omega))]
  have hneg : (-nI e).toBitVec.toNat = 2 ^ 32 - (e - 1 + 1) := by
    rw [Int32.toBitVec_neg, BitVec.toNat_neg, pk_tn (by omega)]
    rw [Nat.mod_eq_of_lt (by omega)]
    omega
  rw [hneg]
  apply Nat.eq_of_testBit_eq
  intro i
  rw [Nat.testBit_and, Nat.testBit_two_pow_sub_succ (by omega), Nat.testBit_two_pow]
  have b1 : e.testBit i = if i < l + 1 then (2 ^ l).testBit i else (e / 2 ^ (l + 1)).testBit (i - (l + 1)) := by
    conv => lhs; rw [hd]
    exact Nat.testBit_two_pow_mul_add _ (by omega) i
  have b2 : (e - 1).testBit i = if i < l + 1 then (2 ^ l - 1).testBit i else (e / 2 ^ (l + 1)).testBit (i - (l + 1)) := by
    have : e - 1 = 2 ^ (l + 1) * (e / 2 ^ (l + 1)) + (2 ^ l - 1) := by omega
    conv => lhs; rw [this]
    exact Nat.testBit_two_pow_mul_add _ (by omega) i
  rw [b1, b2]
  by_cases hi : i < l + 1
  · rw [if_pos hi, if_pos hi, Nat.testBit_two_pow, Nat.testBit_two_pow_sub_one]
    by_cases e2 : l = i
    · subst e2; simp; omega
    · simp [e2]
  · rw [if_neg hi, if_neg hi]
    have : ¬ l = i := by omega
    cases (e / 2 ^ (l + 1)).testBit (i - (l + 1)) <;> simp [this]
theorem c_low {e l : Nat} (he : e < 2 ^ 21) (h1 : e.testBit l = true) (h2 : ∀ i, e.testBit i = true → l ≤ i) (M : zMe) : f_X11_lowestBitIndex (nI e) M = some (nI l, M) := by
  rw [f_X11_lowestBitIndex, low_and (by omega) h1 h2, c_bitC, Option.bind_some, bcI_p l (bit_lt he h1)]
theorem ex_low {e : Nat} (h : e ≠ 0) : ∃ l, e.testBit l = true ∧ ∀ i, e.testBit i = true → l ≤ i := by
  obtain ⟨l, h1, h2⟩ := pk_least (fun i => e.testBit i = true) (Nat.exists_testBit_of_ne_zero h)
  refine ⟨l, h1, fun i hi => ?_⟩
  apply Classical.byContradiction
  intro z
  exact h2 i (by omega) hi
/-! an entry: pack, tune, breath -/
def enc (p u b : Nat) : Nat := b * 34359738368 + u * 32768 + p
theorem enc_ok {p u b : Nat} (hp : p < 32768) (hu : u < 1048576) (hb : b < 256) : ((((nI b).toInt64 <<< ((20 : Int32).toInt64 &&& 63)) ||| (nI u).toInt64) <<< ((15 : Int32).toInt64 &&& 63)) ||| (nI p).toInt64 = lN (enc p u b) := by
  rw [nI_l (by omega), nI_l (by omega), nI_l (by omega), l_shl _ s20 (by omega), l_or, n_or_add (k := 20) (by omega), l_shl _ s15 (by omega), l_or, n_or_add (k := 15) (by omega), show (b * 2 ^ 20 + u) * 2 ^ 15 + p = enc p u b by unfold enc; omega]
theorem enc_p {p u b : Nat} (hp : p < 32768) (M : zMe) : f_X0_packOf (lN (enc p u b)) M = some (nI p, M) := by
  rw [f_X0_packOf, lN_i, n_am _ 15 (by omega) (by decide), show enc p u b % 2 ^ 15 = p by unfold enc; omega]
theorem enc_u {p u b : Nat} (hp : p < 32768) (hu : u < 1048576) (hb : b < 256) (M : zMe) : f_X0_tuneOf (lN (enc p u b)) M = some (nI u, M) := by
  have h : enc p u b < 2 ^ 63 := by unfold enc; omega
  rw [f_X0_tuneOf, l_shr h _ s15, lN_i, n_am _ 20 (by omega) (by decide), show enc p u b / 2 ^ 15 % 2 ^ 20 = u by unfold enc; omega]
theorem enc_b {p u b : Nat} (hp : p < 32768) (hu : u < 1048576) (hb : b < 256) (M : zMe) : f_X0_breathOf (lN (enc p u b)) M = some (nI b, M) := by
  have h : enc p u b < 2 ^ 63 := by unfold enc; omega
  rw [f_X0_breathOf, l_shr h _ s35, lN_i, show enc p u b / 2 ^ 35 = b by unfold enc; omega]
/-! the lanes of a chase at c -/
def LaK (M : zMe) (a n sh tg : Nat) (D : Nat → Nat) : Prop := ∃ st en me, M.1 a = some (.inr (4, lnF a (nI (2 ^ n)))) ∧ M.1 (a + 1) = some (.inl (.int, 320, .inl st)) ∧ M.1 (a + 2) = some (.inl (.int, 672, .inl en)) ∧ M.1 (a + 3) = some (.inl (.int, 5, .inl me)) ∧ Lrn st sh D n ∧ Ens en tg (stg sh D n) n
theorem LaK.kept {M M' : zMe} {a n sh tg : Nat} {D : Nat → Nat} (h : LaK M a n sh tg D) (hq : ∀ q, a ≤ q → q ≤ a + 3 → M'.1 q = M.1 q) : LaK M' a n sh tg D := by
  obtain ⟨st, en, me, h0, h1, h2, h3, h4⟩ := h
  exact ⟨st, en, me, by rw [hq a (by omega) (by omega)]; exact h0, by rw [hq _ (by omega) (by omega)]; exact h1, by rw [hq _ (by omega) (by omega)]; exact h2, by rw [hq _ (by omega) (by omega)]; exact h3, h4⟩
def lnA (f : Nat → Option Nat) : zEn := .inl (.object "OneWhistle$Lane", 3, .inr (.inr (.inr (.inr f))))
def LC (M : zMe) (c lc n sh : Nat) (tg : Nat → Nat) (D : Nat → Nat → Nat) : Prop := (∃ f, M.1 (c + 1) = some (lnA f) ∧ ∀ i, i < 3 → f i = some (c + 2 + 4 * i)) ∧ ∀ i, i < lc → LaK M (c + 2 + 4 * i) n sh (tg i) (D i)
theorem LC.kept {M M' : zMe} {c lc n sh : Nat} {tg : Nat → Nat} {D : Nat → Nat → Nat} (h : LC M c lc n sh tg D) (h3 : lc ≤ 3) (hq : ∀ q, c + 1 ≤ q → q ≤ c + 13 → M'.1 q = M.1 q) : LC M' c lc n sh tg D := by
  obtain ⟨⟨f, h1, h2⟩, h4⟩ := h
  exact ⟨⟨f, by rw [hq _ (by omega) (by omega)]; exact h1, h2⟩, fun i hi => (h4 i hi).kept (fun q a b => hq q (by omega) (by omega))⟩
def chF (c ae al : Nat) (lc sp ho m lb fb ft : Nat) : List Value := [.ref (c + 1), .ref (c + 14), .int (nI lc), .int (nI sp), .int (nI ho), .ref ae, .ref al, .int (nI m), .int (nI lb), .int (nI fb), .int (nI ft)]
section KA
variable {M : zMe} {c ae al lc sp ho m lb fb ft : Nat}
theorem ch_ob (h : M.1 c = some (.inr (0, chF c ae al lc sp ho m lb fb ft))) : zob M c 0 = some () := by simp [zob, h]
theorem ch_0 (h : M.1 c = some (.inr (0, chF c ae al lc sp ho m lb fb ft))) : zgN M c [0] 0 = some (c + 1) := by simp [zgN, zg, h, chF]
theorem ch_1 (h : M.1 c = some (.inr (0, chF c ae al lc sp ho m lb fb ft))) : zgN M c [0] 1 = some (c + 14) := by simp [zgN, zg, h, chF]
theorem ch_2 (h : M.1 c = some (.inr (0, chF c ae al lc sp ho m lb fb ft))) : zgI M c [0] 2 = some (nI lc) := by simp [zgI, zg, h, chF]
theorem ch_3 (h : M.1 c = some (.inr (0, chF c ae al lc sp ho m lb fb ft))) : zgI M c [0] 3 = some (nI sp) := by simp [zgI, zg, h, chF]
theorem ch_4 (h : M.1 c = some (.inr (0, chF c ae al lc sp ho m lb fb ft))) : zgI M c [0] 4 = some (nI ho) := by simp [zgI, zg, h, chF]
theorem ch_5 (h : M.1 c = some (.inr (0, chF c ae al lc sp ho m lb fb ft))) : zgN M c [0] 5 = some ae := by simp [zgN, zg, h, chF]
theorem ch_6 (h : M.1 c = some (.inr (0, chF c ae al lc sp ho m lb fb ft))) : zgN M c [0] 6 = some al := by simp [zgN, zg, h, chF]
theorem ch_7 (h : M.1 c = some (.inr (0, chF c ae al lc sp ho m lb fb ft))) : zgI M c [0] 7 = some (nI m) := by simp [zgI, zg, h, chF]
theorem ch_8 (h : M.1 c = some (.inr (0, chF c ae al lc sp ho m lb fb ft))) : zgI M c [0] 8 = some (nI lb) := by simp [zgI, zg, h, chF]
theorem ch_9 (h : M.1 c = some (.inr (0, chF c ae al lc sp ho m lb fb ft))) : zgI M c [0] 9 = some (nI fb) := by simp [zgI, zg, h, chF]
theorem ch_10 (h : M.1 c = some (.inr (0, chF c ae al lc sp ho m lb fb ft))) : zgI M c [0] 10 = some (nI ft) := by simp [zgI, zg, h, chF]
theorem ch_pI (h : M.1 c = some (.inr (0, chF c ae al lc sp ho m lb fb ft))) (k v : Nat) : zpI M c [0] k (nI v) = some (zSet M c (.inr (0, (chF c ae al lc sp ho m lb fb ft).set k (.int (nI v))))) := by
  simp only [zpI, zp, h]
  rw [if_pos (by decide)]
theorem ch_p7 (h : M.1 c = some (.inr (0, chF c ae al lc sp ho m lb fb ft))) (v : Nat) : zpI M c [0] 7 (nI v) = some (zSet M c (.inr (0, chF c ae al lc sp ho v lb fb ft))) := ch_pI h 7 v
theorem ch_p8 (h : M.1 c = some (.inr (0, chF c ae al lc sp ho m lb fb ft))) (v : Nat) : zpI M c [0] 8 (nI v) = some (zSet M c (.inr (0, chF c ae al lc sp ho m v fb ft))) := ch_pI h 8 v
theorem ch_p9 (h : M.1 c = some (.inr (0, chF c ae al lc sp ho m lb fb ft))) (v : Nat) : zpI M c [0] 9 (nI v) = some (zSet M c (.inr (0, chF c ae al lc sp ho m lb v ft))) := ch_pI h 9 v
theorem ch_p10 (h : M.1 c = some (.inr (0, chF c ae al lc sp ho m lb fb ft))) (v : Nat) : zpI M c [0] 10 (nI v) = some (zSet M c (.inr (0, chF c ae al lc sp ho m lb fb v))) := ch_pI h 10 v
theorem ch_p2 (h : M.1 c = some (.inr (0, chF c ae al lc sp ho m lb fb ft))) (v : Nat) : zpI M c [0] 2 (nI v) = some (zSet M c (.inr (0, chF c ae al v sp ho m lb fb ft))) := ch_pI h 2 v
theorem ch_p3 (h : M.1 c = some (.inr (0, chF c ae al lc sp ho m lb fb ft))) (v : Nat) : zpI M c [0] 3 (nI v) = some (zSet M c (.inr (0, chF c ae al lc v ho m lb fb ft))) := ch_pI h 3 v
theorem ch_p4 (h : M.1 c = some (.inr (0, chF c ae al lc sp ho m lb fb ft))) {v : Nat} (hv : v ≤ 1) : zpZ M c [0] 4 (nI v) = some (zSet M c (.inr (0, chF c ae al lc sp v m lb fb ft))) := by
  unfold zpZ
  rw [if_pos (nI_w (by omega))]
  exact ch_pI h 4 v
theorem ch_p5 (h : M.1 c = some (.inr (0, chF c ae al lc sp ho m lb fb ft))) (b : Nat) : zpR M c [0] 5 (some b) = some (zSet M c (.inr (0, chF c b al lc sp ho m lb fb ft))) := by
  simp only [zpR, zp, h]
  rw [if_pos (by decide)]
  rfl
theorem ch_p6 (h : M.1 c = some (.inr (0, chF c ae al lc sp ho m lb fb ft))) (b : Nat) : zpR M c [0] 6 (some b) = some (zSet M c (.inr (0, chF c ae b lc sp ho m lb fb ft))) := by
  simp only [zpR, zp, h]
  rw [if_pos (by decide)]
  rfl
theorem lc_at {n sh : Nat} {tg : Nat → Nat} {D : Nat → Nat → Nat} (hL : LC M c lc n sh tg D) {i : Nat} (hi : i < 3) : zrR M (c + 1) (nI i) = some (some (c + 2 + 4 * i)) := by
  obtain ⟨⟨f, h1, h2⟩, -⟩ := hL
  simp only [zrR, h1, lnA]
  rw [if_neg (nI_in (show i < 3 by omega) (by omega)), nI_clamp (by omega), h2 i hi]
theorem la_ob {a n sh tg : Nat} {D : Nat → Nat} (h : LaK M a n sh tg D) : zob M a 4 = some () := by
  obtain ⟨st, en, me, h0, -⟩ := h
  simp [zob, h0]
theorem la_behind {a n sh tg : Nat} {D : Nat → Nat} (h : LaK M a n sh tg D) (hD : DW n D) (hn : n ≤ 5) {t w s : Nat} (ht : t < 2 ^ 31) (hw : w < 2) (hs : s < 2 ^ n) : f_X4_behind a (nI t) (nI w) (nI s) M = some (nI (stg sh D n w t s), M) := by
  obtain ⟨st, en, me, h0, h1, h2, h3, h4, h5⟩ := h
  have e := lm_self h0 h1 h2 h3
  have := l_behind (M := M) (a := a) (nn := nI (2 ^ n)) (en := en) (me := me) h4 hD hn ht hw hs
  rw [e] at this
  exact this
theorem la_ends {a n sh tg : Nat} {D : Nat → Nat} (h : LaK M a n sh tg D) (hn : n ≤ 5) {t s : Nat} (ht : t ≤ 20) (h1' : 1 ≤ s) (hs : s < 2 ^ n) : f_X4_endsFrom a (nI t) (nI s) M = some (nI (enF tg (stg sh D n) (20 - t) s), M) := by
  obtain ⟨st, en, me, h0, h1, h2, h3, h4, h5⟩ := h
  have e := lm_self h0 h1 h2 h3
  have := l_endsFrom (M := M) (a := a) (nn := nI (2 ^ n)) (st := st) (me := me) h5 hn ht h1' hs
  rw [e] at this
  exact this
theorem n_pst {p i : Nat} (hp : p < 32768) (hi : i < 3) : (nI p >>> (nI (5 * i) &&& 31)) &&& 31 = nI (pst p i) := by
  rw [n_shr (by omega) (by omega), n_a31 (Nat.lt_of_le_of_lt (Nat.div_le_self _ _) (by omega))]
  rfl
theorem k_pack {n sh : Nat} {tg : Nat → Nat} {D : Nat → Nat → Nat} (h : M.1 c = some (.inr (0, chF c ae al lc sp ho m lb fb ft))) (hL : LC M c lc n sh tg D) (hD : ∀ i, i < lc → DW n (D i)) (hn : n ≤ 5) (h3 : lc ≤ 3) {t w p : Nat} (ht : t < 2 ^ 31) (hw : w < 2) (hp : p < 32768) (hps : ∀ i, i < lc → 1 ≤ pst p i ∧ pst p i < 2 ^ n) : f_X0_packBehind c (nI t) (nI w) (nI p) M = some (nI (npk (fun i => stg sh (D i) n) lc w t p), M) := by
  have h32 := p2_32 hn
  have key : f_X0_packBehind_b6 zfu c (nI t) (nI w) (nI p) (nI (mkp (fun i => stg sh (D i) n w t (pst p i)) 0)) (nI 0) M = some (nI (mkp (fun i => stg sh (D i) n w t (pst p i)) lc), M) := by
    refine loopZ (fun fuel j => f_X0_packBehind_b6 fuel c (nI t) (nI w) (nI p) (nI (mkp (fun i => stg sh (D i) n w t (pst p i)) j)) (nI j) M) lc _ (by omega) (fun f j hj => ?_) (fun f => ?_)
    · show f_X0_packBehind_b6 (f + 1) c (nI t) (nI w) (nI p) (nI (mkp (fun i => stg sh (D i) n w t (pst p i)) j)) (nI j) M = _
      obtain ⟨a1, a2⟩ := stg_ok (sh := sh) (t := t) (hD j hj) hw (hps j hj).1 (hps j hj).2
      have hsh : stg sh (D j) n w t (pst p j) * 2 ^ (5 * j) < 2 ^ 32 := by
        have : (2 : Nat) ^ (5 * j) ≤ 2 ^ 10 := p2b (by omega)
        calc _ ≤ 31 * 2 ^ 10 := Nat.mul_le_mul (by omega) this
          _ < 2 ^ 32 := by decide
      rw [f_X0_packBehind_b6, ch_2 h, Option.bind_some, if_neg (nI_ge hj (by omega)), zlet, ch_0 h, Option.bind_some, lc_at hL (by omega), Option.bind_some, zcase, la_ob (hL.2 j hj), Option.bind_some, show (5 : Int32) * nI j = nI (5 * j) from pk_mul 5 j, n_pst hp (by omega), la_behind (hL.2 j hj) (hD j hj) hn ht hw (hps j hj).2, Option.bind_some, n_shl (by omega) hsh, n_or, zlet, zlet, nI_1]
      rfl
    · show f_X0_packBehind_b6 (f + 1) c (nI t) (nI w) (nI p) (nI (mkp (fun i => stg sh (D i) n w t (pst p i)) lc)) (nI lc) M = _
      rw [f_X0_packBehind_b6, ch_2 h, Option.bind_some, if_pos (nI_le (Nat.le_refl lc) (by omega))]
  rw [f_X0_packBehind]
  exact key
/-- an offer, behind the loop over the lanes -/
def offT (x0 : Nat) (x1 x2 x3 x4 x5 : Int32) (M : zMe) : Option zMe :=
  if x5 = 0 then some M else (
    (f_X11_lowestBitIndex x5 M).bind fun q1 =>
    zlet (q1.1 - x1 : Int32) fun v2 =>
    (zgI q1.2 x0 [0] 8).bind fun v3 =>
    (zgI q1.2 x0 [0] 9).bind fun v4 =>
    if (x4 + (v2 * v3)) < v4 then (
      if v2 = 0 then (
        (zpI q1.2 x0 [0] 9 x4).bind fun M1 =>
        (zpI M1 x0 [0] 10 x3).bind fun M2 =>
        f_X0_offer_b129 M2)
      else (
        if x1 < 3 then (
          f_X0_offer_b121 x0 x2 x3 x4 q1.2)
        else (
          (zgN q1.2 x0 [0] 1).bind fun a1 =>
          (zob q1.2 x0 0).bind fun _ =>
          (f_X0_keyOf x0 x1 x2 q1.2).bind fun q2 =>
          (zob q2.2 a1 8).bind fun _ =>
          (f_X8_isLess a1 q2.1 x4 q2.2).bind fun q3 =>
          if q3.1 = 0 then (
            f_X0_offer_b129 q3.2)
          else (
            f_X0_offer_b121 x0 x2 x3 x4 q3.2))))
    else (
      some q1.2))
theorem k_offT {n sh : Nat} {tg : Nat → Nat} {D : Nat → Nat → Nat} (h : M.1 c = some (.inr (0, chF c ae al lc sp ho m lb fb ft))) (hL : LC M c lc n sh tg D) (hn : n ≤ 5) (h3 : lc ≤ 3) {t p : Nat} (ht : t ≤ 20) (hp : p < 32768) (hps : ∀ i, i < lc → 1 ≤ pst p i ∧ pst p i < 2 ^ n) (u b : Int32) : f_X0_offer c (nI t) (nI p) u b M = offT c (nI t) (nI p) u b (nI (emP (fun i => stg sh (D i) n) tg lc t p)) M := by
  have key : f_X0_offer_b6 zfu c (nI t) (nI p) u b (nI (emP (fun i => stg sh (D i) n) tg 0 t p)) (nI 0) M = offT c (nI t) (nI p) u b (nI (emP (fun i => stg sh (D i) n) tg lc t p)) M := by
    refine loopZ (fun fuel j => f_X0_offer_b6 fuel c (nI t) (nI p) u b (nI (emP (fun i => stg sh (D i) n) tg j t p)) (nI j) M) lc _ (by omega) (fun f j hj => ?_) (fun f => ?_)
    · show f_X0_offer_b6 (f + 1) c (nI t) (nI p) u b (nI (emP (fun i => stg sh (D i) n) tg j t p)) (nI j) M = _
      rw [f_X0_offer_b6, ch_2 h, Option.bind_some, if_neg (nI_ge hj (by omega)), ch_0 h, Option.bind_some, lc_at hL (by omega), Option.bind_some, zcase, la_ob (hL.2 j hj), Option.bind_some, show (5 : Int32) * nI j = nI (5 * j) from pk_mul 5 j, n_pst hp (by omega), la_ends (hL.2 j hj) hn ht (hps j hj).1 (hps j hj).2, Option.bind_some, n_and, zlet, zlet, nI_1]
      rfl
    · show f_X0_offer_b6 (f + 1) c (nI t) (nI p) u b (nI (emP (fun i => stg sh (D i) n) tg lc t p)) (nI lc) M = _
      rw [f_X0_offer_b6, ch_2 h, Option.bind_some, if_pos (nI_le (Nat.le_refl lc) (by omega))]
      rfl
  rw [f_X0_offer, show (-1 : Int32) = nI (emP (fun i => stg sh (D i) n) tg 0 t p) from by show (-1 : Int32) = nI 4294967295; decide]
  exact key
theorem k_key (h : M.1 c = some (.inr (0, chF c ae al lc sp ho m lb fb ft))) (hho : ho ≤ 1) {t p : Nat} (ht : t < 2 ^ 31) : f_X0_keyOf c (nI t) (nI p) M = some (nI (ky ho t p), M) := by
  rw [f_X0_keyOf, ch_4 h, Option.bind_some, show (2 : Int32) * nI p = nI (2 * p) from pk_mul 2 p]
  unfold ky
  by_cases e : ho = 0
  · rw [e, if_pos (show nI 0 = 0 from rfl), if_pos rfl, f_X0_keyOf_b17, show (0 : Int32) = nI 0 from rfl, nI_add]
  · rw [if_neg (nI_ne0 (by omega) (by omega)), if_neg e, f_X0_keyOf_b17, n_a1 (by omega), nI_add]
end KA
