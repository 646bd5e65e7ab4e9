/-! the reading: what has been told so far, an item's arguments on both sides -/
def TxM (M0 : zMe) (x4 : Nat) (tx T : Nat → Int32) (L : Nat) : Prop := x4 < M0.2.1 ∧ M0.1 x4 = some (.inl (.byte, 200, .inl tx)) ∧ (∀ k, k < 200 → tx k &&& 255 = T k) ∧ L ≤ 200
/-- nothing of before has changed, some cells are new -/
def RdF (M0 M : zMe) : Prop := (∀ q, q < M0.2.1 → M.1 q = M0.1 q) ∧ M0.2.1 + 3 ≤ M.2.1 ∧ M.2.1 ≤ M0.2.1 + 6 ∧ M.2.2 ≤ M0.2.2 + 36 ∧ ∀ q, M.2.1 ≤ q → M.1 q = none
/-- and the told hill is the book B -/
def RdG (M0 M : zMe) (B : Nat → Nat) (f : Nat → Option Nat) : Prop := (∀ q, q < M0.2.1 → M.1 q = M0.1 q) ∧ (∀ q, M.2.1 ≤ q → M.1 q = none) ∧ M.2.1 = M0.2.1 + 3 + B 6 ∧ M.2.2 ≤ M0.2.2 + 18 + 6 * B 6 ∧ M.1 (M0.2.1 + 1) = some (.inr (2, ho (nB B) (M0.2.1 + 2))) ∧ M.1 (M0.2.1 + 2) = some (dgA f) ∧ WB B ∧ (∀ k, 7 + 6 * B 6 ≤ k → B k = 0) ∧ (∀ k, k < B 6 → f k = some (M0.2.1 + 3 + k) ∧ M.1 (M0.2.1 + 3 + k) = some (dogCell (dg B k))) ∧ ∀ k, B 6 ≤ k → f k = none
theorem WB.up {B : Nat → Nat} (hW : WB B) {j w : Nat} (h : (j = 1 ∧ w < 2 ^ B 0) ∨ (j = 2 ∧ w < B 0) ∨ (j = 3 ∧ w < 2 ^ B 0) ∨ (j = 4 ∧ 1 ≤ w ∧ w ≤ 9) ∨ (j = 5 ∧ 1 ≤ w ∧ w ≤ 9)) : WB (upN B j w) := by
  rcases h with ⟨rfl, h⟩ | ⟨rfl, h⟩ | ⟨rfl, h⟩ | ⟨rfl, h⟩ | ⟨rfl, h⟩
  · exact ⟨hW.n2, hW.n5, h, hW.go, hW.ba, hW.b4, hW.b5, hW.nd, fun e he => by rw [dg_up (by omega)]; exact hW.dw e he⟩
  · exact ⟨hW.n2, hW.n5, hW.sh, h, hW.ba, hW.b4, hW.b5, hW.nd, fun e he => by rw [dg_up (by omega)]; exact hW.dw e he⟩
  · exact ⟨hW.n2, hW.n5, hW.sh, hW.go, h, hW.b4, hW.b5, hW.nd, fun e he => by rw [dg_up (by omega)]; exact hW.dw e he⟩
  · exact ⟨hW.n2, hW.n5, hW.sh, hW.go, hW.ba, h, hW.b5, hW.nd, fun e he => by rw [dg_up (by omega)]; exact hW.dw e he⟩
  · exact ⟨hW.n2, hW.n5, hW.sh, hW.go, hW.ba, hW.b4, h, hW.nd, fun e he => by rw [dg_up (by omega)]; exact hW.dw e he⟩
theorem Bk_up {bk : Nat → Int32} {B : Nat → Nat} (h : Bk bk B) (j w : Nat) : Bk (upd bk j (nI w)) (upN B j w) := fun k hk => by
  by_cases e : k = j
  · rw [e, up_s, upN_s]
  · rw [up_n _ _ e, upN_n _ _ e]; exact h k hk
section RG
variable {M0 M : zMe} {x4 : Nat} {L p m : Nat} {T tx : Nat → Int32} {B : Nat → Nat} {f : Nat → Option Nat}
theorem RdF.txt (h : RdF M0 M) (ht : TxM M0 x4 tx T L) : Txt M x4 M0.2.1 tx T L := ⟨Nat.ne_of_lt ht.1, by rw [h.1 x4 ht.1]; exact ht.2.1, ht.2.2⟩
theorem RdF.set (h : RdF M0 M) {a : Nat} (h1 : M0.2.1 ≤ a) (h2 : a < M.2.1) (e : zEn) : RdF M0 (zSet M a e) := by
  obtain ⟨f1, f2, f3, f4, f5⟩ := h
  refine ⟨fun q hq => by rw [zS_n _ _ (by omega)]; exact f1 q hq, f2, f3, f4, fun q hq => ?_⟩
  have hq' : M.2.1 ≤ q := hq
  rw [zS_n _ _ (by omega)]; exact f5 q hq'
theorem RdG.rdf (h : RdG M0 M B f) : RdF M0 M := by
  obtain ⟨g1, g2, g3, g4, g5, g6, g7, -⟩ := h
  have := g7.nd
  exact ⟨g1, by omega, by omega, by omega, g2⟩
theorem RdG.up (h : RdG M0 M B f) {j w : Nat} (hj : j < 6) (hW : WB (upN B j w)) : RdG M0 (zSet M (M0.2.1 + 1) (.inr (2, ho (nB (upN B j w)) (M0.2.1 + 2)))) (upN B j w) f := by
  obtain ⟨g1, g2, g3, g4, g5, g6, g7, g8, g9, g10⟩ := h
  have e6 : upN B j w 6 = B 6 := upN_n _ _ (by omega)
  refine ⟨fun q hq => by rw [zS_n _ _ (by omega)]; exact g1 q hq, fun q hq => ?_, by rw [e6]; exact g3, by rw [e6]; exact g4, zS_s _ _ _, by rw [zS_n _ _ (by omega)]; exact g6, hW, fun k hk => ?_, fun k hk => ?_, fun k hk => ?_⟩
  · have hq' : M.2.1 ≤ q := hq
    rw [zS_n _ _ (by omega)]; exact g2 q hq'
  · rw [e6] at hk
    rw [upN_n _ _ (by omega)]; exact g8 k hk
  · rw [e6] at hk
    obtain ⟨k1, k2⟩ := g9 k hk
    exact ⟨k1, by rw [zS_n _ _ (by omega), dg_up (by omega)]; exact k2⟩
  · rw [e6] at hk; exact g10 k hk
/-- what an item's arguments come to on both sides -/
def ArgO (M0 : zMe) (x4 : Nat) (T : Nat → Int32) (L m : Nat) (B : Nat → Nat) (j p : Nat) (R : Option zMe) : Prop :=
  (∃ M' B' f' p', R = some (rat M' M0.2.1 x4 (M0.2.1 + 1) T L p' (-1)) ∧ RdG M0 M' B' f' ∧ p ≤ p' ∧ p' ≤ L ∧ ∀ N sc lg ar en k s l, TxR sc ar T L → Bk (ar 1) B → ∃ dr k' s' l', f_X12_readsItem m (nI j) (rfm N m sc lg ar en p k s l) = some (1, rfm N m sc lg (updA ar 1 dr) en p' k' s' l') ∧ Bk dr B') ∨
  (∃ M' q, R = some (rat M' M0.2.1 x4 (M0.2.1 + 1) T L q (nI (tkS T L q))) ∧ RdF M0 M' ∧ q ≤ L ∧ ∀ N sc lg ar en k s l, TxR sc ar T L → Bk (ar 1) B → ∃ dr, f_X12_readsItem m (nI j) (rfm N m sc lg ar en p k s l) = some (0, raf N m sc lg (updA ar 1 dr) en T L q))
theorem r_pbit {r to d : Nat} (h : Txt M x4 r tx T L) (hto : to ≠ r) (hh : M.1 to = some (.inr (2, ho (nB B) d))) (hn : 1 ≤ B 0) (hn5 : B 0 ≤ 5) (hp : p ≤ L) : (∃ v, NmA T L p v ∧ v ≤ B 0 - 1 ∧ f_X7_takePlaceBit r (rat M r x4 to T L p (-1)) = some (nI (2 ^ v), rat M r x4 to T L (tkE T L p) (-1))) ∨ ((∀ v, NmA T L p v → v < 0 ∨ B 0 - 1 < v) ∧ f_X7_takePlaceBit r (rat M r x4 to T L p (-1)) = some (nI (2 ^ 0), rat M r x4 to T L p (nI (tkS T L p)))) := by
  have hh' : (rat M r x4 to T L p (-1)).1 to = some (.inr (2, ho (nB B) d)) := by rw [rat_out hto]; exact hh
  have hg := c_g hh'
  have g0 : zgN (rat M r x4 to T L p (-1)) r [7] 0 = some to := rm_g0
  have ob : zob (rat M r x4 to T L p (-1)) r 7 = some () := rm_ob
  have em : nI (B 0) - 1 = nI (B 0 - 1) := n_subz (b := 1) hn
  rcases nm_case T L p 0 (B 0 - 1) with ⟨v, v1, -, v2⟩ | hx
  · have t1 : f_X7_takeNumber r 0 (nI (B 0 - 1)) (rat M r x4 to T L p (-1)) = some (nI v, rat M r x4 to T L (tkE T L p) (-1)) := r_numS (lo := 0) h hp v1 (Nat.zero_le _) v2 (by omega)
    refine Or.inl ⟨v, v1, v2, ?_⟩
    rw [f_X7_takePlaceBit, g0, Option.bind_some, hg.1, Option.bind_some, ob, Option.bind_some, em, t1, Option.bind_some, n_sh1 (by omega)]
  · have t1 : f_X7_takeNumber r 0 (nI (B 0 - 1)) (rat M r x4 to T L p (-1)) = some (nI 0, rat M r x4 to T L p (nI (tkS T L p))) := r_numB (lo := 0) h hp hx (by omega) (by omega)
    refine Or.inr ⟨hx, ?_⟩
    rw [f_X7_takePlaceBit, g0, Option.bind_some, hg.1, Option.bind_some, ob, Option.bind_some, em, t1, Option.bind_some, n_sh1 (by omega)]
/-- shut, barks -/
theorem a_bit (ht : TxM M0 x4 tx T L) (hG : RdG M0 M B f) (hp : p ≤ L) {j : Nat} (hj : j = 1 ∨ j = 3) : ArgO M0 x4 T L m B j p ((f_X7_takePlaceBit M0.2.1 (rat M M0.2.1 x4 (M0.2.1 + 1) T L p (-1))).bind fun q => zpI q.2 (M0.2.1 + 1) [2] j (nI (B j) ||| q.1)) := by
  have hF := hG.rdf
  have hT := hF.txt ht
  have he := tkE_le (T := T) hp
  have hs := tkS_le (T := T) hp
  have hh := hG.2.2.2.2.1
  have hW := hG.2.2.2.2.2.2.1
  have hn2 := hW.n2
  have hn5 := hW.n5
  rcases r_pbit hT (Nat.succ_ne_self _) hh (by omega) hn5 hp with ⟨v, v1, v2, e⟩ | ⟨hx, e⟩
  · have hv : 2 ^ v < 2 ^ B 0 := Nat.pow_lt_pow_right (by decide) (by omega)
    have hW' : WB (upN B j (B j ||| 2 ^ v)) := hW.up (by
      rcases hj with rfl | rfl
      · exact Or.inl ⟨rfl, Nat.or_lt_two_pow hW.sh hv⟩
      · exact Or.inr (Or.inr (Or.inl ⟨rfl, Nat.or_lt_two_pow hW.ba hv⟩)))
    refine Or.inl ⟨_, upN B j (B j ||| 2 ^ v), f, tkE T L p, ?_, hG.up (by omega) hW', by omega, he.2.1, fun N sc lg ar en k s l hR hB => ⟨_, _, _, _, rf_itemB hR hp (hB 0 (by omega)) (by omega) hn5 hj v1 v2, ?_⟩⟩
    · rw [e, Option.bind_some, n_or, rat_put (Nat.succ_ne_self _) hh (by omega)]
    · rw [hB j (by omega), n_or]
      exact Bk_up hB _ _
  · refine Or.inr ⟨_, p, by rw [e, Option.bind_some, n_or, rat_put (Nat.succ_ne_self _) hh (by omega)], hF.set (by omega) (by have := hG.2.2.1; omega) _, hp, fun N sc lg ar en k s l hR hB => ⟨ar 1, ?_⟩⟩
    rw [updA_id, rf_itemX hR hp (hB 0 (by omega)) (by omega) hn5 (by omega) hx]
/-- goal -/
theorem a_goal (ht : TxM M0 x4 tx T L) (hG : RdG M0 M B f) (hp : p ≤ L) : ArgO M0 x4 T L m B 2 p ((f_X7_takeNumber M0.2.1 0 (nI (B 0) - 1) (rat M M0.2.1 x4 (M0.2.1 + 1) T L p (-1))).bind fun q => zpI q.2 (M0.2.1 + 1) [2] 2 q.1) := by
  have hF := hG.rdf
  have hT := hF.txt ht
  have he := tkE_le (T := T) hp
  have hs := tkS_le (T := T) hp
  have hh := hG.2.2.2.2.1
  have hW := hG.2.2.2.2.2.2.1
  have hn2 := hW.n2
  have hn5 := hW.n5
  have em : nI (B 0) - 1 = nI (B 0 - 1) := n_subz (b := 1) (by omega)
  rw [em]
  rcases nm_case T L p 0 (B 0 - 1) with ⟨v, v1, -, v2⟩ | hx
  · have t1 : f_X7_takeNumber M0.2.1 0 (nI (B 0 - 1)) (rat M M0.2.1 x4 (M0.2.1 + 1) T L p (-1)) = some (nI v, rat M M0.2.1 x4 (M0.2.1 + 1) T L (tkE T L p) (-1)) := r_numS (lo := 0) hT hp v1 (Nat.zero_le _) v2 (by omega)
    have hW' : WB (upN B 2 v) := hW.up (Or.inr (Or.inl ⟨rfl, by omega⟩))
    refine Or.inl ⟨_, upN B 2 v, f, tkE T L p, ?_, hG.up (by omega) hW', by omega, he.2.1, fun N sc lg ar en k s l hR hB => ⟨_, _, _, _, rf_itemG hR hp (hB 0 (by omega)) (by omega) hn5 v1 v2, Bk_up hB _ _⟩⟩
    rw [t1, Option.bind_some, rat_put (Nat.succ_ne_self _) hh (by omega)]
  · have t1 : f_X7_takeNumber M0.2.1 0 (nI (B 0 - 1)) (rat M M0.2.1 x4 (M0.2.1 + 1) T L p (-1)) = some (nI 0, rat M M0.2.1 x4 (M0.2.1 + 1) T L p (nI (tkS T L p))) := r_numB (lo := 0) hT hp hx (by omega) (by omega)
    refine Or.inr ⟨_, p, by rw [t1, Option.bind_some, rat_put (Nat.succ_ne_self _) hh (by omega)], hF.set (by omega) (by have := hG.2.2.1; omega) _, hp, fun N sc lg ar en k s l hR hB => ⟨ar 1, ?_⟩⟩
    rw [updA_id, rf_itemX hR hp (hB 0 (by omega)) (by omega) hn5 (by omega) hx]
end RG
section RB
variable {N : zMe} {m : Nat} {sc : Nat → Int32} {lg : Nat → Int64} {ar : Nat → Nat → Int32} {en : Nat → Int64} {k s l L p n : Nat} {T : Nat → Int32}
theorem rf_breS (h : TxR sc ar T L) (hp : p ≤ L) {v w : Nat} (hv : NmA T L p v) (hv1 : v ≤ 1) (hw : NmA T L (tkE T L p) w) (hw1 : 1 ≤ w) (hw9 : w ≤ 9) : f_X12_readsItem m (nI 4) (rfm N m sc lg ar en p k s l) = some (1, raf N m sc lg (updA ar 1 (upd (ar 1) (4 + v) (nI w))) en T L (tkE T L p)) := by
  have he := tkE_le (T := T) hp
  have t1 : f_X12_figure m 0 1 (rfm N m sc lg ar en p k s l) = some (nI v, raf N m sc lg ar en T L p) := rf_numS (lo := 0) (hi := 1) h hp hv (Nat.zero_le _) hv1 (by omega)
  have t2 : f_X12_figure m 1 9 (raf N m sc lg ar en T L p) = some (nI w, raf N m sc lg ar en T L (tkE T L p)) := rf_numS (lo := 1) (hi := 9) h he.2.1 hw hw1 hw9 (by omega)
  have ob : zob (raf N m sc lg ar en T L p) m 12 = some () := rf_ob
  have e4 : (4 : Int32) + nI v = nI (4 + v) := nI_add 4 v
  rw [f_X12_readsItem, if_neg (show ¬ nI 4 = 5 by decide), if_neg (show ¬ nI 4 = 0 by decide), if_pos (show nI 4 = 4 from rfl), rf_ob, Option.bind_some, t1, Option.bind_some, f_X12_readsItem_b50, if_neg (nI_m1 (by omega)), if_neg (show ¬ nI 4 = 0 by decide), if_neg (show ¬ nI 4 = 1 by decide), if_neg (show ¬ nI 4 = 2 by decide), if_neg (show ¬ nI 4 = 3 by decide), ob, Option.bind_some, t2, Option.bind_some, if_neg (nI_m1 (by omega)), raf_g1, Option.bind_some, e4, raf_w (by omega), Option.bind_some, f_X12_readsItem_b151]
theorem rf_breX (h : TxR sc ar T L) (hp : p ≤ L) (hv : ∀ v, NmA T L p v → v < 0 ∨ 1 < v) : f_X12_readsItem m (nI 4) (rfm N m sc lg ar en p k s l) = some (0, raf N m sc lg ar en T L p) := by
  have t1 : f_X12_figure m 0 1 (rfm N m sc lg ar en p k s l) = some (-1, raf N m sc lg ar en T L p) := rf_numX (lo := 0) (hi := 1) h hp hv (by omega) (by omega)
  rw [f_X12_readsItem, if_neg (show ¬ nI 4 = 5 by decide), if_neg (show ¬ nI 4 = 0 by decide), if_pos (show nI 4 = 4 from rfl), rf_ob, Option.bind_some, t1, Option.bind_some, f_X12_readsItem_b50, if_pos rfl]
theorem rf_breY (h : TxR sc ar T L) (hp : p ≤ L) {v : Nat} (hv : NmA T L p v) (hv1 : v ≤ 1) (hw : ∀ v, NmA T L (tkE T L p) v → v < 1 ∨ 9 < v) : f_X12_readsItem m (nI 4) (rfm N m sc lg ar en p k s l) = some (0, raf N m sc lg ar en T L (tkE T L p)) := by
  have he := tkE_le (T := T) hp
  have t1 : f_X12_figure m 0 1 (rfm N m sc lg ar en p k s l) = some (nI v, raf N m sc lg ar en T L p) := rf_numS (lo := 0) (hi := 1) h hp hv (Nat.zero_le _) hv1 (by omega)
  have t2 : f_X12_figure m 1 9 (raf N m sc lg ar en T L p) = some (-1, raf N m sc lg ar en T L (tkE T L p)) := rf_numX (lo := 1) (hi := 9) h he.2.1 hw (by omega) (by omega)
  have ob : zob (raf N m sc lg ar en T L p) m 12 = some () := rf_ob
  rw [f_X12_readsItem, if_neg (show ¬ nI 4 = 5 by decide), if_neg (show ¬ nI 4 = 0 by decide), if_pos (show nI 4 = 4 from rfl), rf_ob, Option.bind_some, t1, Option.bind_some, f_X12_readsItem_b50, if_neg (nI_m1 (by omega)), if_neg (show ¬ nI 4 = 0 by decide), if_neg (show ¬ nI 4 = 1 by decide), if_neg (show ¬ nI 4 = 2 by decide), if_neg (show ¬ nI 4 = 3 by decide), ob, Option.bind_some, t2, Option.bind_some, if_pos rfl]
end RB
/-- breath -/
theorem a_breath {M0 M : zMe} {x4 : Nat} {L p m : Nat} {T tx : Nat → Int32} {B : Nat → Nat} {f : Nat → Option Nat} (ht : TxM M0 x4 tx T L) (hG : RdG M0 M B f) (hp : p ≤ L) : ArgO M0 x4 T L m B 4 p (f_X7_readBreath M0.2.1 (rat M M0.2.1 x4 (M0.2.1 + 1) T L p (-1))) := by
  have hF := hG.rdf
  have hT := hF.txt ht
  have he := tkE_le (T := T) hp
  have hs := tkS_le (T := T) hp
  have he2 := tkE_le (T := T) he.2.1
  have hs2 := tkS_le (T := T) he.2.1
  have hh := hG.2.2.2.2.1
  have hW := hG.2.2.2.2.2.2.1
  rcases r_breath hT (Nat.succ_ne_self _) hh hp with ⟨v, w, v1, w1, w9, nv, nw, e⟩ | ⟨q, j, w, q1, j1, e, x1, x2⟩
  · have hW' : WB (upN B (4 + v) w) := hW.up (by
      rcases (show v = 0 ∨ v = 1 by omega) with rfl | rfl
      · exact Or.inr (Or.inr (Or.inr (Or.inl ⟨rfl, w1, w9⟩)))
      · exact Or.inr (Or.inr (Or.inr (Or.inr ⟨rfl, w1, w9⟩))))
    exact Or.inl ⟨_, upN B (4 + v) w, f, tkE T L (tkE T L p), e, hG.up (by omega) hW', by omega, he2.2.1, fun N sc lg ar en k s l hR hB => ⟨_, _, _, _, rf_breS hR hp nv v1 nw w1 w9, Bk_up hB _ _⟩⟩
  · by_cases z : q = p
    · subst z
      refine Or.inr ⟨_, q, e, hF.set (by omega) (by have := hG.2.2.1; omega) _, hp, fun N sc lg ar en k s l hR hB => ⟨ar 1, ?_⟩⟩
      rw [updA_id, rf_breX hR hp (fun v hv => Or.inr (x1 rfl v hv))]
    · obtain ⟨q2, v, v1, nv⟩ := q1.resolve_left z
      refine Or.inr ⟨_, q, e, hF.set (by omega) (by have := hG.2.2.1; omega) _, by rw [q2]; exact he.2.1, fun N sc lg ar en k s l hR hB => ⟨ar 1, ?_⟩⟩
      subst q2
      rw [updA_id, rf_breY hR hp nv v1 (x2 rfl z)]
