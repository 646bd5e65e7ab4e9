/-! an item, both sides -/
theorem wl_1 : ∀ k, k < 6 → 1 ≤ wl k := by decide +kernel
theorem wd_u : ∀ j, j < 6 → ∀ k, k < 6 → wl j = wl k → wc j 0 = wc k 0 → j = k := by decide +kernel
theorem IsW.uniq {T : Nat → Int32} {L kd s e j k : Nat} (hj : j < 6) (hk : k < 6) (h : IsW T L kd s e j) (h' : IsW T L kd s e k) : j = k := by
  have j1 := wl_1 j hj
  have k1 := wl_1 k hk
  have a := h.2.2 0 (by omega)
  have b := h'.2.2 0 (by omega)
  have c := wc_p hj (show 0 < wl j by omega)
  have d := wc_p hk (show 0 < wl k by omega)
  rw [a] at b
  exact wd_u j hj k hk (h.2.1.symm.trans h'.2.1) ((nI_eq (by omega) (by omega)).mp b)
section IV
variable {N : zMe} {m : Nat} {sc : Nat → Int32} {lg : Nat → Int64} {ar : Nat → Nat → Int32} {en : Nat → Int64} {L p : Nat} {T : Nat → Int32}
theorem rv_w (h : TxR sc ar T L) (hp : p ≤ L) : ∃ v, f_X12_verb m (raf N m sc lg ar en T L p) = some (v, raf N m sc lg ar en T L p) ∧ ((∃ j, j < 6 ∧ v = nI j ∧ IsW T L (tkK T L p) (tkS T L p) (tkE T L p) j) ∨ (v = -1 ∧ ∀ j, j < 6 → ¬ IsW T L (tkK T L p) (tkS T L p) (tkE T L p) j)) := by
  have he := tkE_le (T := T) hp
  have es : tkS T L p + (tkE T L p - tkS T L p) = tkE T L p := by omega
  have := rf_verb (N := N) (m := m) (lg := lg) (en := en) (a := tkE T L p) (k := tkK T L p) (s := tkS T L p) (l := tkE T L p - tkS T L p) h (kdz_4 _) (by omega) (fun i h1 h2 => tk_in i h1 (by omega))
  rw [es] at this
  exact this
theorem rv_is (h : TxR sc ar T L) (hp : p ≤ L) {j : Nat} (hj : j < 6) (hw : IsW T L (tkK T L p) (tkS T L p) (tkE T L p) j) : f_X12_verb m (raf N m sc lg ar en T L p) = some (nI j, raf N m sc lg ar en T L p) := by
  obtain ⟨v, e, ⟨i, hi, rfl, hw'⟩ | ⟨-, hx⟩⟩ := rv_w (N := N) (m := m) (lg := lg) (en := en) h hp
  · rw [e, IsW.uniq hi hj hw' hw]
  · exact absurd hw (hx j hj)
theorem rv_no (h : TxR sc ar T L) (hp : p ≤ L) (hw : ∀ j, j < 6 → ¬ IsW T L (tkK T L p) (tkS T L p) (tkE T L p) j) : f_X12_verb m (raf N m sc lg ar en T L p) = some (-1, raf N m sc lg ar en T L p) := by
  obtain ⟨v, e, ⟨i, hi, -, hw'⟩ | ⟨rfl, -⟩⟩ := rv_w (N := N) (m := m) (lg := lg) (en := en) h hp
  · exact absurd hw' (hw i hi)
  · exact e
theorem raf_ob : zob (raf N m sc lg ar en T L p) m 12 = some () := rf_ob
theorem raf_g10 : zgI (raf N m sc lg ar en T L p) m [12] 10 = some (nI (tkK T L p)) := rf_g10
theorem raf_g11 : zgI (raf N m sc lg ar en T L p) m [12] 11 = some (nI (tkS T L p)) := rf_g11
theorem raf_tok (h : TxR sc ar T L) (hp : p ≤ L) : f_X12_token m (raf N m sc lg ar en T L p) = some (raf N m sc lg ar en T L (tkE T L p)) := rf_token h (tkE_le hp).2.1
/-- the reference's item, by what its arguments come to -/
theorem rb_ok (h : TxR sc ar T L) (hp : p ≤ L) {j p' k' s' l' : Nat} {dr : Nat → Int32} {y : Int32} {k46 : Nat → Int32 → zMe → Option (Int32 × zMe)} (hj : j < 6) (hw : IsW T L (tkK T L p) (tkS T L p) (tkE T L p) j) (hy : y = if j = 0 then 1 else 0) (hp' : p' ≤ L) (hi : f_X12_readsItem m (nI j) (raf N m sc lg ar en T L p) = some (1, rfm N m sc lg (updA ar 1 dr) en p' k' s' l')) : f_X12_reads_b57 k46 m y (raf N m sc lg ar en T L p) = if tkK T L p' = 3 then k46 m 0 (raf N m sc lg (updA ar 1 dr) en T L (tkE T L p')) else some (0, raf N m sc lg (updA ar 1 dr) en T L p') := by
  have k4 : tkK T L p' ≤ 4 := kdz_4 _
  have tk : f_X12_token m (rfm N m sc lg (updA ar 1 dr) en p' k' s' l') = some (raf N m sc lg (updA ar 1 dr) en T L p') := rf_token (h.dr dr) hp'
  have b76 : f_X12_reads_b76 k46 m y (nI j) y (raf N m sc lg ar en T L p) = if tkK T L p' = 3 then k46 m 0 (raf N m sc lg (updA ar 1 dr) en T L (tkE T L p')) else some (0, raf N m sc lg (updA ar 1 dr) en T L p') := by
    rw [f_X12_reads_b76, if_pos rfl, raf_ob, Option.bind_some, hi, Option.bind_some, if_neg one0, rf_ob, Option.bind_some, tk, Option.bind_some, raf_g10, Option.bind_some]
    by_cases c : tkK T L p' = 3
    · rw [if_pos (show nI (tkK T L p') = 3 by rw [c]; rfl), if_pos c, raf_ob, Option.bind_some, raf_tok (h.dr dr) hp', Option.bind_some]
    · rw [if_neg (show ¬ nI (tkK T L p') = 3 from fun z => c ((nI_eq (b := 3) (by omega) (by omega)).mp z)), if_neg c]
  rw [f_X12_reads_b57, raf_ob, Option.bind_some, rv_is h hp hj hw, Option.bind_some, if_neg (nI_m1 (by omega))]
  by_cases c : j = 0
  · rw [if_pos c] at hy
    subst hy
    rw [if_pos (show nI j = 0 by rw [c]; rfl)]
    exact b76
  · rw [if_neg c] at hy
    subst hy
    rw [if_neg (show ¬ nI j = 0 from fun z => c ((nI_eq (b := 0) (by omega) (by omega)).mp z))]
    exact b76
theorem rb_x (h : TxR sc ar T L) (hp : p ≤ L) {j : Nat} {y : Int32} {M' : zMe} {k46 : Nat → Int32 → zMe → Option (Int32 × zMe)} (hj : j < 6) (hw : IsW T L (tkK T L p) (tkS T L p) (tkE T L p) j) (hy : y = if j = 0 then 1 else 0) (hi : f_X12_readsItem m (nI j) (raf N m sc lg ar en T L p) = some (0, M')) : f_X12_reads_b57 k46 m y (raf N m sc lg ar en T L p) = some (0, M') := by
  have b76 : f_X12_reads_b76 k46 m y (nI j) y (raf N m sc lg ar en T L p) = some (0, M') := by
    rw [f_X12_reads_b76, if_pos rfl, raf_ob, Option.bind_some, hi, Option.bind_some, if_pos rfl, f_X12_reads_b88]
  rw [f_X12_reads_b57, raf_ob, Option.bind_some, rv_is h hp hj hw, Option.bind_some, if_neg (nI_m1 (by omega))]
  by_cases c : j = 0
  · rw [if_pos c] at hy
    subst hy
    rw [if_pos (show nI j = 0 by rw [c]; rfl)]
    exact b76
  · rw [if_neg c] at hy
    subst hy
    rw [if_neg (show ¬ nI j = 0 from fun z => c ((nI_eq (b := 0) (by omega) (by omega)).mp z))]
    exact b76
/-- no word, or not the one that is due -/
theorem rb_no (h : TxR sc ar T L) (hp : p ≤ L) {y : Int32} {k46 : Nat → Int32 → zMe → Option (Int32 × zMe)} (hy : (y = 1 ∧ ¬ IsW T L (tkK T L p) (tkS T L p) (tkE T L p) 0) ∨ (y = 0 ∧ ∀ j, 1 ≤ j → j < 6 → ¬ IsW T L (tkK T L p) (tkS T L p) (tkE T L p) j)) : f_X12_reads_b57 k46 m y (raf N m sc lg ar en T L p) = some (0, raf N m sc lg ar en T L p) := by
  obtain ⟨v, e, ⟨j, hj, rfl, hw⟩ | ⟨rfl, -⟩⟩ := rv_w (N := N) (m := m) (lg := lg) (en := en) h hp
  · rw [f_X12_reads_b57, raf_ob, Option.bind_some, e, Option.bind_some, if_neg (nI_m1 (by omega))]
    by_cases c : j = 0
    · have y0 : y = 0 := by
        rcases hy with ⟨-, hx⟩ | ⟨hx, -⟩
        · rw [c] at hw; exact absurd hw hx
        · exact hx
      rw [if_pos (show nI j = 0 by rw [c]; rfl), f_X12_reads_b76, y0, if_neg one0, f_X12_reads_b88]
    · have y0 : y = 1 := by
        rcases hy with ⟨hx, -⟩ | ⟨-, hx⟩
        · exact hx
        · exact absurd hw (hx j (by omega) hj)
      rw [if_neg (show ¬ nI j = 0 from fun z => c ((nI_eq (b := 0) (by omega) (by omega)).mp z)), f_X12_reads_b76, y0, if_neg (show ¬ (0 : Int32) = 1 by decide), f_X12_reads_b88]
  · rw [f_X12_reads_b57, raf_ob, Option.bind_some, e, Option.bind_some, if_pos rfl, f_X12_reads_b88]
end IV
section IC
variable {M0 M : zMe} {x4 : Nat} {L p m : Nat} {T tx : Nat → Int32} {B : Nat → Nat} {f : Nat → Option Nat} {sa : Nat → Nat}
/-- what an item comes to on both sides -/
def ItmO (M0 : zMe) (x4 : Nat) (T : Nat → Int32) (L m : Nat) (B : Nat → Nat) (p : Nat) (R : Option zMe) : Prop :=
  (∃ M' B' f' p', R = some (rat M' M0.2.1 x4 (M0.2.1 + 1) T L p' (-1)) ∧ RdG M0 M' B' f' ∧ p < p' ∧ p' ≤ L ∧ ∀ k46 N sc lg ar en, TxR sc ar T L → Bk (ar 1) B → ∃ dr, f_X12_reads_b57 k46 m 0 (raf N m sc lg ar en T L p) = k46 m 0 (raf N m sc lg (updA ar 1 dr) en T L p') ∧ Bk dr B') ∨
  (∃ M' q, R = some (rat M' M0.2.1 x4 (M0.2.1 + 1) T L q (nI (tkS T L q))) ∧ RdF M0 M' ∧ q ≤ L ∧ ∀ k46 N sc lg ar en, TxR sc ar T L → Bk (ar 1) B → ∃ dr, f_X12_reads_b57 k46 m 0 (raf N m sc lg ar en T L p) = some (0, raf N m sc lg (updA ar 1 dr) en T L q))
theorem it_of (ht : TxM M0 x4 tx T L) (hp : p ≤ L) {j : Nat} (hj1 : 1 ≤ j) (hj : j < 6) (hw : IsW T L (tkK T L p) (tkS T L p) (tkE T L p) j) {R : Option zMe} (hA : ArgO M0 x4 T L m B j (tkE T L p) R) : ItmO M0 x4 T L m B p (R.bind fun q => f_X7_readItem_b155 sa M0.2.1 q) := by
  have hL := ht.2.2.2
  have hs := tkS_le (T := T) hp
  have he := tkE_le (T := T) hp
  have hlt : tkS T L p < tkE T L p := he.2.2 (by rw [hw.1]; decide)
  rcases hA with ⟨M', B', f', p', e, hG, h1, h2, hr⟩ | ⟨M', q, e, hF, h2, hr⟩
  · have ob : ∀ ft, zob (rat M' M0.2.1 x4 (M0.2.1 + 1) T L p' ft) M0.2.1 7 = some () := fun _ => rm_ob
    have hT' := hG.rdf.txt ht
    have he' := tkE_le (T := T) h2
    have hs' := tkS_le (T := T) h2
    rw [e, Option.bind_some, f_X7_readItem_b155, ob, Option.bind_some, r_mark hT' h2, Option.bind_some]
    by_cases c : tkK T L p' = 3
    · rw [if_pos c]
      refine Or.inl ⟨M', B', f', tkE T L p', rfl, hG, by omega, he'.2.1, fun k46 N sc lg ar en hR hB => ?_⟩
      obtain ⟨dr, k', s', l', e1, e2⟩ := hr N sc lg ar en (tkK T L p) (tkS T L p) (tkE T L p - tkS T L p) hR hB
      refine ⟨dr, ?_, e2⟩
      rw [rb_ok (y := 0) hR hp hj hw (by rw [if_neg (by omega)]) h2 e1, if_pos c]
    · rw [if_neg c]
      refine Or.inr ⟨M', p', rfl, hG.rdf, h2, fun k46 N sc lg ar en hR hB => ?_⟩
      obtain ⟨dr, k', s', l', e1, e2⟩ := hr N sc lg ar en (tkK T L p) (tkS T L p) (tkE T L p - tkS T L p) hR hB
      refine ⟨dr, ?_⟩
      rw [rb_ok (y := 0) hR hp hj hw (by rw [if_neg (by omega)]) h2 e1, if_neg c]
  · have hs' := tkS_le (T := T) h2
    have ob : ∀ ft, zob (rat M' M0.2.1 x4 (M0.2.1 + 1) T L q ft) M0.2.1 7 = some () := fun _ => rm_ob
    rw [e, Option.bind_some, f_X7_readItem_b155, ob, Option.bind_some, r_markF (nI_m1 (by omega)), Option.bind_some]
    refine Or.inr ⟨M', q, rfl, hF, h2, fun k46 N sc lg ar en hR hB => ?_⟩
    obtain ⟨dr, e1⟩ := hr N sc lg ar en (tkK T L p) (tkS T L p) (tkE T L p - tkS T L p) hR hB
    exact ⟨dr, rb_x (y := 0) hR hp hj hw (by rw [if_neg (by omega)]) e1⟩
theorem r_item (ht : TxM M0 x4 tx T L) (hZ : ZS sa) (hG : RdG M0 M B f) (hp : p ≤ L) : ItmO M0 x4 T L m B p (f_X7_readItem sa M0.2.1 (rat M M0.2.1 x4 (M0.2.1 + 1) T L p (-1))) := by
  have hF := hG.rdf
  have hT := hF.txt ht
  have hL := ht.2.2.2
  have hh := hG.2.2.2.2.1
  have hW := hG.2.2.2.2.2.2.1
  have hs := tkS_le (T := T) hp
  have he := tkE_le (T := T) hp
  have ob : ∀ q (ft : Int32), zob (rat M M0.2.1 x4 (M0.2.1 + 1) T L q ft) M0.2.1 7 = some () := fun _ _ => rm_ob
  have g0 : ∀ q (ft : Int32), zgN (rat M M0.2.1 x4 (M0.2.1 + 1) T L q ft) M0.2.1 [7] 0 = some (M0.2.1 + 1) := fun _ _ => rm_g0
  have hh' : ∀ q (ft : Int32), (rat M M0.2.1 x4 (M0.2.1 + 1) T L q ft).1 (M0.2.1 + 1) = some (.inr (2, ho (nB B) (M0.2.1 + 2))) := fun q ft => by rw [rat_out (Nat.succ_ne_self _)]; exact hh
  have wy : ∀ k, k < 6 → IsW T L (tkK T L p) (tkS T L p) (tkE T L p) k → f_X7_isWord sa M0.2.1 (sa k) (rat M M0.2.1 x4 (M0.2.1 + 1) T L p (-1)) = some (1, rat M M0.2.1 x4 (M0.2.1 + 1) T L p (-1)) := fun k hk hw => by
    obtain ⟨v, e, ⟨rfl, -⟩ | ⟨-, hx⟩⟩ := r_word (to := M0.2.1 + 1) (ft := -1) hT hZ hk (kdz_4 _) he.1 he.2.1
    · exact e
    · exact absurd hw hx
  have wn : ∀ k, k < 6 → ¬ IsW T L (tkK T L p) (tkS T L p) (tkE T L p) k → f_X7_isWord sa M0.2.1 (sa k) (rat M M0.2.1 x4 (M0.2.1 + 1) T L p (-1)) = some (0, rat M M0.2.1 x4 (M0.2.1 + 1) T L p (-1)) := fun k hk hw => by
    obtain ⟨v, e, ⟨-, hx⟩ | ⟨rfl, -⟩⟩ := r_word (to := M0.2.1 + 1) (ft := -1) hT hZ hk (kdz_4 _) he.1 he.2.1
    · exact absurd hx hw
    · exact e
  have b151 : f_X7_readItem_b151 sa M0.2.1 (rat M M0.2.1 x4 (M0.2.1 + 1) T L p (-1)) = some (rat M M0.2.1 x4 (M0.2.1 + 1) T L p (nI (tkS T L p))) := by
    rw [f_X7_readItem_b151, ob, Option.bind_some, rat_fail, Option.bind_some, f_X7_readItem_b155, ob, Option.bind_some, r_markF (nI_m1 (by omega)), Option.bind_some]
  rw [f_X7_readItem, ob, Option.bind_some]
  by_cases w1 : IsW T L (tkK T L p) (tkS T L p) (tkE T L p) 1
  · have hA := it_of (m := m) (sa := sa) ht hp (by omega) (by omega) w1 (a_bit ht hG he.2.1 (Or.inl rfl))
    rw [Option.bind_assoc] at hA
    rw [wy 1 (by omega) w1, Option.bind_some, if_neg one0, ob, Option.bind_some, rat_adv hT hp, Option.bind_some, g0, Option.bind_some, (c_g (hh' _ _)).2.1, Option.bind_some, ob, Option.bind_some]
    exact hA
  · rw [wn 1 (by omega) w1, Option.bind_some, if_pos rfl, ob, Option.bind_some]
    by_cases w2 : IsW T L (tkK T L p) (tkS T L p) (tkE T L p) 2
    · have hA := it_of (m := m) (sa := sa) ht hp (by omega) (by omega) w2 (a_goal ht hG he.2.1)
      rw [Option.bind_assoc] at hA
      rw [wy 2 (by omega) w2, Option.bind_some, if_neg one0, ob, Option.bind_some, rat_adv hT hp, Option.bind_some, g0, Option.bind_some, Option.bind_some, (c_g (hh' _ _)).1, Option.bind_some, ob, Option.bind_some]
      exact hA
    · rw [wn 2 (by omega) w2, Option.bind_some, if_pos rfl, ob, Option.bind_some]
      by_cases w3 : IsW T L (tkK T L p) (tkS T L p) (tkE T L p) 3
      · have hA := it_of (m := m) (sa := sa) ht hp (by omega) (by omega) w3 (a_bit ht hG he.2.1 (Or.inr rfl))
        rw [Option.bind_assoc] at hA
        rw [wy 3 (by omega) w3, Option.bind_some, if_neg one0, ob, Option.bind_some, rat_adv hT hp, Option.bind_some, g0, Option.bind_some, (c_g (hh' _ _)).2.2.2.1, Option.bind_some, ob, Option.bind_some]
        exact hA
      · rw [wn 3 (by omega) w3, Option.bind_some, if_pos rfl, ob, Option.bind_some]
        by_cases w4 : IsW T L (tkK T L p) (tkS T L p) (tkE T L p) 4
        · have hA := it_of (m := m) (sa := sa) ht hp (by omega) (by omega) w4 (a_breath ht hG he.2.1)
          rw [wy 4 (by omega) w4, Option.bind_some, if_neg one0, ob, Option.bind_some, rat_adv hT hp, Option.bind_some, ob, Option.bind_some]
          exact hA
        · rw [wn 4 (by omega) w4, Option.bind_some, if_pos rfl, ob, Option.bind_some]
          by_cases w5 : IsW T L (tkK T L p) (tkS T L p) (tkE T L p) 5
          · rw [wy 5 (by omega) w5, Option.bind_some, if_neg one0, g0, Option.bind_some, c_obh (hh' _ _), Option.bind_some, c_isFull (hh' _ _) hW.nd, Option.bind_some]
            by_cases c3 : B 6 = 3
            · rw [if_pos c3, if_neg one0, b151]
              refine Or.inr ⟨M, p, rfl, hF, hp, fun k46 N sc lg ar en hR hB => ⟨ar 1, ?_⟩⟩
              rw [updA_id]
              refine rb_x (y := 0) hR hp (by omega) w5 (by rw [if_neg (by omega)]) ?_
              exact rf_i5F (by rw [hB 6 (by omega), c3])
            · have hnd := hW.nd
              have hA := it_of (m := m) (sa := sa) ht hp (by omega) (by omega) w5 (a_dog ht hG he.2.1 (by omega))
              rw [if_neg c3, if_pos rfl, ob, Option.bind_some, rat_adv hT hp, Option.bind_some, ob, Option.bind_some]
              exact hA
          · rw [wn 5 (by omega) w5, Option.bind_some, if_pos rfl, b151]
            refine Or.inr ⟨M, p, rfl, hF, hp, fun k46 N sc lg ar en hR hB => ⟨ar 1, ?_⟩⟩
            rw [updA_id]
            refine rb_no hR hp (Or.inr ⟨rfl, fun j j1 j6 hj => ?_⟩)
            rcases (show j = 1 ∨ j = 2 ∨ j = 3 ∨ j = 4 ∨ j = 5 by omega) with rfl | rfl | rfl | rfl | rfl
            · exact w1 hj
            · exact w2 hj
            · exact w3 hj
            · exact w4 hj
            · exact w5 hj
/-- the items to the end -/
theorem r_loop (ht : TxM M0 x4 tx T L) (hZ : ZS sa) : ∀ (n fc i p : Nat) (M : zMe) (B : Nat → Nat) (f : Nat → Option Nat), L - p ≤ n → n < fc → i ≤ p → p ≤ L → RdG M0 M B f →
    (∃ M' B' f' p', f_X7_readHill_b52 sa fc M0.2.1 (nI i) (rat M M0.2.1 x4 (M0.2.1 + 1) T L p (-1)) = some (rat M' M0.2.1 x4 (M0.2.1 + 1) T L p' (-1)) ∧ RdG M0 M' B' f' ∧ ∀ fr N sc lg ar en, n < fr → TxR sc ar T L → Bk (ar 1) B → ∃ dr, f_X12_reads_b46 fr m 0 (raf N m sc lg ar en T L p) = some (1, raf N m sc lg (updA ar 1 dr) en T L p') ∧ Bk dr B') ∨
    (∃ M' q, f_X7_readHill_b52 sa fc M0.2.1 (nI i) (rat M M0.2.1 x4 (M0.2.1 + 1) T L p (-1)) = some (rat M' M0.2.1 x4 (M0.2.1 + 1) T L q (nI (tkS T L q))) ∧ RdF M0 M' ∧ q ≤ L ∧ ∀ fr N sc lg ar en, n < fr → TxR sc ar T L → Bk (ar 1) B → ∃ dr, f_X12_reads_b46 fr m 0 (raf N m sc lg ar en T L p) = some (0, raf N m sc lg (updA ar 1 dr) en T L q))
  | n, 0, i, p, M, B, f, h1, h2, _, _, _ => by omega
  | n, fc + 1, i, p, M, B, f, h1, h2, hi, hp, hG => by
    have hL := ht.2.2.2
    have hs := tkS_le (T := T) hp
    have k4 : tkK T L p ≤ 4 := kdz_4 _
    have ob : zob (rat M M0.2.1 x4 (M0.2.1 + 1) T L p (-1)) M0.2.1 7 = some () := rm_ob
    have g4 : ∀ (M : zMe) q (ft : Int32), zgI (rat M M0.2.1 x4 (M0.2.1 + 1) T L q ft) M0.2.1 [7] 4 = some (nI (tkK T L q)) := fun _ _ _ => rm_g4
    have g1 : ∀ (M : zMe) q (ft : Int32), zgI (rat M M0.2.1 x4 (M0.2.1 + 1) T L q ft) M0.2.1 [7] 1 = some ft := fun _ _ _ => rm_g1
    by_cases c : tkK T L p = 0
    · refine Or.inl ⟨M, B, f, p, ?_, hG, fun fr N sc lg ar en hfr hR hB => ⟨ar 1, ?_, hB⟩⟩
      · rw [f_X7_readHill_b52, f_X7_readHill_b84]
        by_cases c2 : 200 ≤ i
        · rw [if_pos (show (200 : Int32) ≤ nI i from nI_le (a := 200) c2 (by omega))]
        · rw [if_neg (show ¬ (200 : Int32) ≤ nI i from nI_ge (b := 200) (by omega) (by omega)), g4, Option.bind_some, if_pos (show nI (tkK T L p) = 0 by rw [c]; rfl)]
      · obtain ⟨fr', rfl⟩ : ∃ fr', fr = fr' + 1 := ⟨fr - 1, by omega⟩
        rw [f_X12_reads_b46, if_pos rfl, raf_g10, Option.bind_some, if_pos (show nI (tkK T L p) = 0 by rw [c]; rfl), updA_id]
    · have hlt := tkK_pos c
      have nk : ¬ nI (tkK T L p) = 0 := fun z => c ((nI_eq (b := 0) (by omega) (by omega)).mp z)
      have st : f_X7_readHill_b52 sa (fc + 1) M0.2.1 (nI i) (rat M M0.2.1 x4 (M0.2.1 + 1) T L p (-1)) = (f_X7_readItem sa M0.2.1 (rat M M0.2.1 x4 (M0.2.1 + 1) T L p (-1))).bind fun q1 => f_X7_readHill_b52 sa fc M0.2.1 (nI (i + 1)) q1 := by
        rw [f_X7_readHill_b52, if_neg (show ¬ (200 : Int32) ≤ nI i from nI_ge (b := 200) (by omega) (by omega)), g4, Option.bind_some, if_neg nk, g1, Option.bind_some, if_pos rfl, ob, Option.bind_some, nI_1]
        rfl
      have sr : ∀ fr N sc lg ar en, f_X12_reads_b46 (fr + 1) m 0 (raf N m sc lg ar en T L p) = f_X12_reads_b57 (f_X12_reads_b46 fr) m 0 (raf N m sc lg ar en T L p) := fun fr N sc lg ar en => by
        rw [f_X12_reads_b46, if_pos rfl, raf_g10, Option.bind_some, if_neg nk]
      rw [st]
      rcases r_item (m := m) ht hZ hG hp with ⟨M', B', f', p', e, hG', q1, q2, hr⟩ | ⟨M', q, e, hF', q2, hr⟩
      · rw [e, Option.bind_some]
        rcases r_loop ht hZ (n - 1) fc (i + 1) p' M' B' f' (by omega) (by omega) (by omega) q2 hG' with ⟨M2, B2, f2, p2, e2, hG2, hr2⟩ | ⟨M2, q', e2, hF2, q3, hr2⟩
        · refine Or.inl ⟨M2, B2, f2, p2, e2, hG2, fun fr N sc lg ar en hfr hR hB => ?_⟩
          obtain ⟨fr', rfl⟩ : ∃ fr', fr = fr' + 1 := ⟨fr - 1, by omega⟩
          obtain ⟨dr, r1, r2⟩ := hr (f_X12_reads_b46 fr') N sc lg ar en hR hB
          obtain ⟨dr2, r3, r4⟩ := hr2 fr' N sc lg (updA ar 1 dr) en (by omega) (hR.dr dr) (by rw [updA_s]; exact r2)
          exact ⟨dr2, by rw [sr, r1, r3, updA_A], r4⟩
        · refine Or.inr ⟨M2, q', e2, hF2, q3, fun fr N sc lg ar en hfr hR hB => ?_⟩
          obtain ⟨fr', rfl⟩ : ∃ fr', fr = fr' + 1 := ⟨fr - 1, by omega⟩
          obtain ⟨dr, r1, r2⟩ := hr (f_X12_reads_b46 fr') N sc lg ar en hR hB
          obtain ⟨dr2, r3⟩ := hr2 fr' N sc lg (updA ar 1 dr) en (by omega) (hR.dr dr) (by rw [updA_s]; exact r2)
          exact ⟨dr2, by rw [sr, r1, r3, updA_A]⟩
      · have hs' := tkS_le (T := T) q2
        refine Or.inr ⟨M', q, ?_, hF', q2, fun fr N sc lg ar en hfr hR hB => ?_⟩
        · obtain ⟨fc', rfl⟩ : ∃ fc', fc = fc' + 1 := ⟨fc - 1, by omega⟩
          rw [e, Option.bind_some, f_X7_readHill_b52, f_X7_readHill_b84]
          by_cases c2 : (200 : Int32) ≤ nI (i + 1)
          · rw [if_pos c2]
          · rw [if_neg c2, g4, Option.bind_some]
            by_cases c3 : nI (tkK T L q) = 0
            · rw [if_pos c3]
            · rw [if_neg c3, g1, Option.bind_some, if_neg (nI_m1 (by omega))]
        · obtain ⟨fr', rfl⟩ : ∃ fr', fr = fr' + 1 := ⟨fr - 1, by omega⟩
          obtain ⟨dr, r1⟩ := hr (f_X12_reads_b46 fr') N sc lg ar en hR hB
          exact ⟨dr, by rw [sr, r1]⟩
end IC
