/-! a dog that is told: the reference's side -/
theorem rwz_cong {b c : Nat → Nat} : ∀ n, (∀ i, i < n → b i = c i) → rwz b n = rwz c n
  | 0, _ => rfl
  | n + 1, h => by rw [rwz, rwz, rwz_cong n (fun i hi => h i (by omega)), h n (by omega)]
theorem rwz_31 {T : Nat → Int32} {L n p : Nat} {b : Nat → Nat} (hn : n ≤ 5) (h : RwA T L n p b) : rwz b n < 2 ^ 31 := by
  have h1 := rwz_lt n (fun i hi => by have := (h.2.2 i hi).1; show b i < 8; omega)
  have h2 : (2 : Nat) ^ (3 * n) ≤ 2 ^ 15 := Nat.pow_le_pow_right (by decide) (by omega)
  omega
theorem rwA_ok {T : Nat → Int32} {L n p : Nat} {b : Nat → Nat} (hn : n ≤ 5) (h : RwA T L n p b) : RowOK n (rwz b n) := rwz_ok hn (fun i hi => (h.2.2 i hi).1)
section DR
variable {N : zMe} {m : Nat} {sc : Nat → Int32} {lg : Nat → Int64} {ar : Nat → Nat → Int32} {en : Nat → Int64} {k s l L p n dd : Nat} {T : Nat → Int32}
theorem TxR.dr (h : TxR sc ar T L) (dr : Nat → Int32) : TxR sc (updA ar 1 dr) T L := ⟨h.1, h.2.1, by rw [updA_n _ _ (by decide)]; exact h.2.2⟩
theorem rf_rowS (h : TxR sc ar T L) (hn : n ≤ 5) (hp : p ≤ L) (ha : ar 1 0 = nI n) {b : Nat → Nat} (hb : RwA T L n p b) : f_X12_row m (rfm N m sc lg ar en p k s l) = some (nI (rwz b n), raf N m sc lg ar en T L p) := by
  rcases rf_row (N := N) (m := m) (lg := lg) (en := en) (k := k) (s := s) (l := l) h hn hp ha with ⟨b', hb', e⟩ | ⟨hx, -⟩
  · rw [e, rwz_cong n (RwA.uniq hn hb' hb)]
  · exact absurd hb (hx b)
theorem rf_rowX (h : TxR sc ar T L) (hn : n ≤ 5) (hp : p ≤ L) (ha : ar 1 0 = nI n) (hb : ∀ b, ¬ RwA T L n p b) : f_X12_row m (rfm N m sc lg ar en p k s l) = some (-1, raf N m sc lg ar en T L p) := by
  rcases rf_row (N := N) (m := m) (lg := lg) (en := en) (k := k) (s := s) (l := l) h hn hp ha with ⟨b', hb', -⟩ | ⟨-, e⟩
  · exact absurd hb' (hb b')
  · exact e
theorem rf_d78 {y i F fu : Nat} (hF : F = fu + 1) (hy : y ≤ 1) (M : zMe) : f_X12_readsDog_b67 F m (nI dd) (nI y) (nI i) M = f_X12_readsDog_b78 (f_X12_readsDog_b67 fu) m (nI dd) (nI y) (nI i) (nI (3 + 2 * y)) (nI i) M := by
  rw [hF, f_X12_readsDog_b67]
  rcases (show y = 0 ∨ y = 1 by omega) with rfl | rfl
  · rw [if_pos (show nI 0 = 0 from rfl)]; rfl
  · rw [if_neg (show ¬ nI 1 = 0 by decide)]; rfl
/-- one row more -/
theorem rf_dl (h : TxR sc ar T L) (hp : p ≤ L) (hn : n ≤ 5) (ha : ar 1 0 = nI n) (hdd : dd ≤ 19) {y i F fu : Nat} (hF : F = fu + 1) (hy : y ≤ 1) (hi : i < 3 + 2 * y) {b : Nat → Nat} (hb : RwA T L n p b) : f_X12_readsDog_b67 F m (nI dd) (nI y) (nI i) (rfm N m sc lg ar en p k s l) = f_X12_readsDog_b67 fu m (nI dd) (nI y) (nI (i + 1)) (raf N m sc lg (updA ar 1 (upd (ar 1) (dd + i) (nI (rwz b n)))) en T L p) := by
  rw [rf_d78 hF hy, f_X12_readsDog_b78, if_neg (nI_ge (by omega) (by omega)), rf_ob, Option.bind_some, rf_rowS h hn hp ha hb, Option.bind_some, if_neg (nI_m1 (rwz_31 hn hb)), raf_g1, Option.bind_some, nI_add, raf_w (by omega), Option.bind_some, nI_1, zlet]
theorem rf_dlX (h : TxR sc ar T L) (hp : p ≤ L) (hn : n ≤ 5) (ha : ar 1 0 = nI n) {y i F fu : Nat} (hF : F = fu + 1) (hy : y ≤ 1) (hi : i < 3 + 2 * y) (hb : ∀ b, ¬ RwA T L n p b) : f_X12_readsDog_b67 F m (nI dd) (nI y) (nI i) (rfm N m sc lg ar en p k s l) = some (0, raf N m sc lg ar en T L p) := by
  rw [rf_d78 hF hy, f_X12_readsDog_b78, if_neg (nI_ge (by omega) (by omega)), rf_ob, Option.bind_some, rf_rowX h hn hp ha hb, Option.bind_some, if_pos rfl]
theorem rf_d142 : f_X12_readsDog_b142 m (raf N m sc lg ar en T L p) = some (1, raf N m sc lg (updA ar 1 (upd (ar 1) 6 (ar 1 6 + 1))) en T L p) := by
  have r6 : zrI (raf N m sc lg ar en T L p) (m + 2) 6 = some (ar 1 6) := raf_r (j := 6) (by omega)
  have w6 : zwI (raf N m sc lg ar en T L p) (m + 2) 6 (ar 1 6 + 1) = _ := raf_w (j := 6) (by omega)
  rw [f_X12_readsDog_b142, raf_g1, Option.bind_some, r6, Option.bind_some, w6, Option.bind_some]
/-- two rows are the end -/
theorem rf_dE0 {F fu : Nat} (hF : F = fu + 1) : f_X12_readsDog_b67 F m (nI dd) (nI 0) (nI 3) (raf N m sc lg ar en T L p) = some (1, raf N m sc lg (updA ar 1 (upd (ar 1) 6 (ar 1 6 + 1))) en T L p) := by
  rw [rf_d78 hF (by omega), f_X12_readsDog_b78, if_pos (nI_le (by omega) (by omega)), if_pos (show nI 0 = 0 from rfl), rf_d142]
/-- four rows and a number -/
theorem rf_dE1 (h : TxR sc ar T L) (hp : p ≤ L) (hdd : dd ≤ 19) {F fu : Nat} (hF : F = fu + 1) {v : Nat} (hv : NmA T L p v) (hv1 : 1 ≤ v) (hv3 : v ≤ 3) : f_X12_readsDog_b67 F m (nI dd) (nI 1) (nI 5) (rfm N m sc lg ar en p k s l) = some (1, raf N m sc lg (updA ar 1 (upd (upd (ar 1) (dd + 5) (nI v)) 6 (upd (ar 1) (dd + 5) (nI v) 6 + 1))) en T L p) := by
  have t1 : f_X12_figure m 1 3 (rfm N m sc lg ar en p k s l) = some (nI v, raf N m sc lg ar en T L p) := rf_numS (lo := 1) (hi := 3) h hp hv hv1 hv3 (by omega)
  have e5 : nI dd + 5 = nI (dd + 5) := nI_add dd 5
  rw [rf_d78 hF (by omega), f_X12_readsDog_b78, if_pos (nI_le (by omega) (by omega)), if_neg (show ¬ nI 1 = 0 by decide), rf_ob, Option.bind_some, t1, Option.bind_some, if_neg (nI_m1 (by omega)), raf_g1, Option.bind_some, e5, raf_w (by omega), Option.bind_some, rf_d142, updA_s, updA_A]
theorem rf_dE1X (h : TxR sc ar T L) (hp : p ≤ L) {F fu : Nat} (hF : F = fu + 1) (hv : ∀ v, NmA T L p v → v < 1 ∨ 3 < v) : f_X12_readsDog_b67 F m (nI dd) (nI 1) (nI 5) (rfm N m sc lg ar en p k s l) = some (0, raf N m sc lg ar en T L p) := by
  have t1 : f_X12_figure m 1 3 (rfm N m sc lg ar en p k s l) = some (-1, raf N m sc lg ar en T L p) := rf_numX (lo := 1) (hi := 3) h hp hv (by omega) (by omega)
  rw [rf_d78 hF (by omega), f_X12_readsDog_b78, if_pos (nI_le (by omega) (by omega)), if_neg (show ¬ nI 1 = 0 by decide), rf_ob, Option.bind_some, t1, Option.bind_some, if_pos rfl]
def yng (k : Nat) : Nat := if k = 2 ∨ k = 3 then 1 else 0
/-- the kind is read -/
theorem rf_dK (h : TxR sc ar T L) (hp : p ≤ L) {c : Nat} (h6 : ar 1 6 = nI c) (hc : c < 3) {kd : Nat} (hv : NmA T L p kd) (hv4 : kd ≤ 4) : f_X12_readsDog m (rfm N m sc lg ar en p k s l) = f_X12_readsDog_b67 zfu m (nI (7 + 6 * c)) (nI (yng kd)) (nI 1) (raf N m sc lg (updA ar 1 (upd (ar 1) (7 + 6 * c) (nI kd))) en T L p) := by
  have g1 : zgN (rfm N m sc lg ar en p k s l) m [12] 1 = some (m + 2) := mm_gN1
  have r6 : zrI (rfm N m sc lg ar en p k s l) (m + 2) 6 = some (nI c) := by
    show zrI (mmk N m _ lg ar en) (m + 2) (nI 6) = _
    rw [mm_rN2 (by omega), h6]
  have r6' : zrI (raf N m sc lg ar en T L p) (m + 2) 6 = some (nI c) := by rw [← h6]; exact raf_r (j := 6) (by omega)
  have t1 : f_X12_figure m 0 4 (rfm N m sc lg ar en p k s l) = some (nI kd, raf N m sc lg ar en T L p) := rf_numS (lo := 0) (hi := 4) h hp hv (Nat.zero_le _) hv4 (by omega)
  have e6 : (7 : Int32) + 6 * nI c = nI (7 + 6 * c) := by rw [show (6 : Int32) * nI c = nI (6 * c) from pk_mul 6 c]; exact nI_add 7 _
  have b56 : ∀ y, f_X12_readsDog_b56 m (nI kd) (nI (7 + 6 * c)) y (raf N m sc lg ar en T L p) = f_X12_readsDog_b67 zfu m (nI (7 + 6 * c)) y 1 (raf N m sc lg (updA ar 1 (upd (ar 1) (7 + 6 * c) (nI kd))) en T L p) := fun y => by
    rw [f_X12_readsDog_b56, raf_g1, Option.bind_some, raf_w (by omega), Option.bind_some]
  rw [f_X12_readsDog, g1, Option.bind_some, r6, Option.bind_some, if_neg (show ¬ nI c = 3 from fun z => by have := (nI_eq (b := 3) (by omega) (by omega)).mp z; omega), rf_ob, Option.bind_some, t1, Option.bind_some, if_neg (nI_m1 (by omega)), raf_g1, Option.bind_some, r6', Option.bind_some, e6, zlet]
  unfold yng
  by_cases k2 : kd = 2
  · rw [if_pos (show nI kd = 2 by rw [k2]; rfl), f_X12_readsDog_b51, b56, if_pos (Or.inl k2)]; rfl
  · rw [if_neg (show ¬ nI kd = 2 from fun z => k2 ((nI_eq (b := 2) (by omega) (by omega)).mp z))]
    by_cases k3 : kd = 3
    · rw [if_pos (show nI kd = 3 by rw [k3]; rfl), f_X12_readsDog_b51, b56, if_pos (Or.inr k3)]; rfl
    · rw [if_neg (show ¬ nI kd = 3 from fun z => k3 ((nI_eq (b := 3) (by omega) (by omega)).mp z)), b56, if_neg (by omega)]; rfl
theorem rf_dKX (h : TxR sc ar T L) (hp : p ≤ L) {c : Nat} (h6 : ar 1 6 = nI c) (hc : c < 3) (hv : ∀ v, NmA T L p v → v < 0 ∨ 4 < v) : f_X12_readsDog m (rfm N m sc lg ar en p k s l) = some (0, raf N m sc lg ar en T L p) := by
  have g1 : zgN (rfm N m sc lg ar en p k s l) m [12] 1 = some (m + 2) := mm_gN1
  have r6 : zrI (rfm N m sc lg ar en p k s l) (m + 2) 6 = some (nI c) := by
    show zrI (mmk N m _ lg ar en) (m + 2) (nI 6) = _
    rw [mm_rN2 (by omega), h6]
  have t1 : f_X12_figure m 0 4 (rfm N m sc lg ar en p k s l) = some (-1, raf N m sc lg ar en T L p) := rf_numX (lo := 0) (hi := 4) h hp hv (by omega) (by omega)
  rw [f_X12_readsDog, g1, Option.bind_some, r6, Option.bind_some, if_neg (show ¬ nI c = 3 from fun z => by have := (nI_eq (b := 3) (by omega) (by omega)).mp z; omega), rf_ob, Option.bind_some, t1, Option.bind_some, if_pos rfl]
theorem rf_i5 {r : Int32} {M' : zMe} (hr : r = 0 ∨ r = 1) (h : f_X12_readsDog m (rfm N m sc lg ar en p k s l) = some (r, M')) : f_X12_readsItem m (nI 5) (rfm N m sc lg ar en p k s l) = some (r, M') := by
  rw [f_X12_readsItem, if_pos (show nI 5 = 5 from rfl), rf_ob, Option.bind_some, h, Option.bind_some]
  exact if_pos hr
theorem rf_i5F (h6 : ar 1 6 = nI 3) : f_X12_readsItem m (nI 5) (rfm N m sc lg ar en p k s l) = some (0, rfm N m sc lg ar en p k s l) := by
  have g1 : zgN (rfm N m sc lg ar en p k s l) m [12] 1 = some (m + 2) := mm_gN1
  have r6 : zrI (rfm N m sc lg ar en p k s l) (m + 2) 6 = some (nI 3) := by
    show zrI (mmk N m _ lg ar en) (m + 2) (nI 6) = _
    rw [mm_rN2 (by omega), h6]
  refine rf_i5 (Or.inl rfl) ?_
  rw [f_X12_readsDog, g1, Option.bind_some, r6, Option.bind_some, if_pos (show nI 3 = 3 from rfl)]
end DR
/-- the draft with a dog more -/
theorem Bk_dog3 {bk : Nat → Int32} {B : Nat → Nat} (hB : Bk bk B) (hz : ∀ k, 7 + 6 * B 6 ≤ k → B k = 0) (k r0 r1 : Nat) : Bk (upd (upd (upd (upd bk (7 + 6 * B 6) (nI k)) (7 + 6 * B 6 + 1) (nI r0)) (7 + 6 * B 6 + 2) (nI r1)) 6 (bk 6 + 1)) (bD B (mkD k r0 r1 0 0 0)) := by
  intro j hj
  by_cases e6 : j = 6
  · rw [e6, up_s, bD_6, hB 6 (by omega), nI_1]
  · rw [up_n _ _ e6]
    by_cases hin : 7 + 6 * B 6 ≤ j ∧ j < 7 + 6 * B 6 + 6
    · have eb : bD B (mkD k r0 r1 0 0 0) j = mkD k r0 r1 0 0 0 (j - (7 + 6 * B 6)) := by unfold bD; rw [if_neg e6, if_pos hin]
      rw [eb]
      rcases (show j = 7 + 6 * B 6 ∨ j = 7 + 6 * B 6 + 1 ∨ j = 7 + 6 * B 6 + 2 ∨ j = 7 + 6 * B 6 + 3 ∨ j = 7 + 6 * B 6 + 4 ∨ j = 7 + 6 * B 6 + 5 by omega) with e | e | e | e | e | e
      · rw [e, up_n _ _ (by omega), up_n _ _ (by omega), up_s, Nat.sub_self]; rfl
      · rw [e, up_n _ _ (by omega), up_s, Nat.add_sub_cancel_left]; rfl
      · rw [e, up_s, Nat.add_sub_cancel_left]; rfl
      · rw [e, up_n _ _ (by omega), up_n _ _ (by omega), up_n _ _ (by omega), hB _ (by omega), hz _ (by omega), Nat.add_sub_cancel_left]; rfl
      · rw [e, up_n _ _ (by omega), up_n _ _ (by omega), up_n _ _ (by omega), hB _ (by omega), hz _ (by omega), Nat.add_sub_cancel_left]; rfl
      · rw [e, up_n _ _ (by omega), up_n _ _ (by omega), up_n _ _ (by omega), hB _ (by omega), hz _ (by omega), Nat.add_sub_cancel_left]; rfl
    · have eb : bD B (mkD k r0 r1 0 0 0) j = B j := by unfold bD; rw [if_neg e6, if_neg hin]
      rw [eb, up_n _ _ (by omega), up_n _ _ (by omega), up_n _ _ (by omega)]
      exact hB j hj
theorem Bk_dog6 {bk : Nat → Int32} {B : Nat → Nat} (hB : Bk bk B) (k r0 r1 s0 s1 l : Nat) : Bk (upd (upd (upd (upd (upd (upd (upd bk (7 + 6 * B 6) (nI k)) (7 + 6 * B 6 + 1) (nI r0)) (7 + 6 * B 6 + 2) (nI r1)) (7 + 6 * B 6 + 3) (nI s0)) (7 + 6 * B 6 + 4) (nI s1)) (7 + 6 * B 6 + 5) (nI l)) 6 (bk 6 + 1)) (bD B (mkD k r0 r1 s0 s1 l)) := by
  intro j hj
  by_cases e6 : j = 6
  · rw [e6, up_s, bD_6, hB 6 (by omega), nI_1]
  · rw [up_n _ _ e6]
    by_cases hin : 7 + 6 * B 6 ≤ j ∧ j < 7 + 6 * B 6 + 6
    · have eb : bD B (mkD k r0 r1 s0 s1 l) j = mkD k r0 r1 s0 s1 l (j - (7 + 6 * B 6)) := by unfold bD; rw [if_neg e6, if_pos hin]
      rw [eb]
      rcases (show j = 7 + 6 * B 6 ∨ j = 7 + 6 * B 6 + 1 ∨ j = 7 + 6 * B 6 + 2 ∨ j = 7 + 6 * B 6 + 3 ∨ j = 7 + 6 * B 6 + 4 ∨ j = 7 + 6 * B 6 + 5 by omega) with e | e | e | e | e | e
      · rw [e, up_n _ _ (by omega), up_n _ _ (by omega), up_n _ _ (by omega), up_n _ _ (by omega), up_n _ _ (by omega), up_s, Nat.sub_self]; rfl
      · rw [e, up_n _ _ (by omega), up_n _ _ (by omega), up_n _ _ (by omega), up_n _ _ (by omega), up_s, Nat.add_sub_cancel_left]; rfl
      · rw [e, up_n _ _ (by omega), up_n _ _ (by omega), up_n _ _ (by omega), up_s, Nat.add_sub_cancel_left]; rfl
      · rw [e, up_n _ _ (by omega), up_n _ _ (by omega), up_s, Nat.add_sub_cancel_left]; rfl
      · rw [e, up_n _ _ (by omega), up_s, Nat.add_sub_cancel_left]; rfl
      · rw [e, up_s, Nat.add_sub_cancel_left]; rfl
    · have eb : bD B (mkD k r0 r1 s0 s1 l) j = B j := by unfold bD; rw [if_neg e6, if_neg hin]
      rw [eb, up_n _ _ (by omega), up_n _ _ (by omega), up_n _ _ (by omega), up_n _ _ (by omega), up_n _ _ (by omega), up_n _ _ (by omega)]
      exact hB j hj
/-! the class's side -/
def dgM (M0 M : zMe) (B : Nat → Nat) (f : Nat → Option Nat) (D : Nat → Nat) (n : Nat) : zMe := zSet (zSet (zAdd M (dogCell D) n) (M0.2.1 + 2) (dgA (va_up f (B 6) (some M.2.1)))) (M0.2.1 + 1) (.inr (2, ho (nB (bD B D)) (M0.2.1 + 2)))
section DC
variable {M0 M : zMe} {x4 : Nat} {L p m : Nat} {T tx : Nat → Int32} {B : Nat → Nat} {f : Nat → Option Nat} {ft : Int32}
theorem RdG.dogF (h : RdG M0 M B f) (h3 : B 6 < 3) (D : Nat → Nat) {n : Nat} (hn : n ≤ 6) : RdF M0 (dgM M0 M B f D n) := by
  obtain ⟨g1, g2, g3, g4, g5, g6, g7, g8, g9, g10⟩ := h
  have e1 : (dgM M0 M B f D n).2.1 = M.2.1 + 1 := rfl
  have e2 : (dgM M0 M B f D n).2.2 = M.2.2 + n := rfl
  refine ⟨fun q hq => ?_, by omega, by omega, by omega, fun q hq => ?_⟩
  · unfold dgM
    rw [zS_n _ _ (by omega), zS_n _ _ (by omega), zA_n _ _ _ (by omega)]; exact g1 q hq
  · rw [e1] at hq
    unfold dgM
    rw [zS_n _ _ (by omega), zS_n _ _ (by omega), zA_n _ _ _ (by omega)]; exact g2 q (by omega)
theorem RdG.dog (h : RdG M0 M B f) (h3 : B 6 < 3) {D : Nat → Nat} (hD : DW (B 0) D) {n : Nat} (hn : n ≤ 6) : RdG M0 (dgM M0 M B f D n) (bD B D) (va_up f (B 6) (some M.2.1)) := by
  have hF := h.dogF h3 D hn
  obtain ⟨g1, g2, g3, g4, g5, g6, g7, g8, g9, g10⟩ := h
  have e1 : (dgM M0 M B f D n).2.1 = M.2.1 + 1 := rfl
  have e2 : (dgM M0 M B f D n).2.2 = M.2.2 + n := rfl
  refine ⟨hF.1, hF.2.2.2.2, by rw [bD_6]; omega, by rw [bD_6]; omega, zS_s _ _ _, ?_, bD_wb g7 h3 hD, fun k hk => ?_, fun k hk => ?_, fun k hk => ?_⟩
  · unfold dgM
    rw [zS_n _ _ (by omega), zS_s]
  · rw [bD_6] at hk
    unfold bD
    rw [if_neg (by omega), if_neg (by omega)]; exact g8 k (by omega)
  · rw [bD_6] at hk
    by_cases e : k = B 6
    · have ee : dogCell (dg (bD B D) k) = dogCell D := dogCell_congr (fun j hj => by rw [e]; exact bD_new j hj)
      refine ⟨by rw [e, va_up_self, g3], ?_⟩
      rw [ee, e, ← g3]
      unfold dgM
      rw [zS_n _ _ (by omega), zS_n _ _ (by omega), zA_s]
    · obtain ⟨k1, k2⟩ := g9 k (by omega)
      have ee : dogCell (dg (bD B D) k) = dogCell (dg B k) := dogCell_congr (bD_old (by omega))
      refine ⟨by rw [va_up_ne _ _ e]; exact k1, ?_⟩
      rw [ee]
      unfold dgM
      rw [zS_n _ _ (by omega), zS_n _ _ (by omega), zA_n _ _ _ (by omega)]; exact k2
  · rw [bD_6] at hk
    rw [va_up_ne _ _ (by omega)]; exact g10 k (by omega)
theorem r_fin3 (hG : RdG M0 M B f) (h3 : B 6 < 3) {k r0 r1 : Nat} (hk : k = 0 ∨ k = 1 ∨ k = 4) : ((zgN (rat M M0.2.1 x4 (M0.2.1 + 1) T L p ft) M0.2.1 [7] 0).bind fun a3 => (f_X11_bred (nI k) (nI r0) (nI r1) (rat M M0.2.1 x4 (M0.2.1 + 1) T L p ft)).bind fun q10 => zcase q10.1 none fun a4 => (zob q10.2 a3 2).bind fun _ => (f_X2_addDog a3 a4 q10.2).bind fun q11 => some q11.2) = some (rat (dgM M0 M B f (mkD k r0 r1 0 0 0) 3) M0.2.1 x4 (M0.2.1 + 1) T L p ft) := by
  have hF := hG.rdf
  obtain ⟨g1, g2, g3, g4, g5, g6, g7, g8, g9, g10⟩ := hG
  have g0 : zgN (rat M M0.2.1 x4 (M0.2.1 + 1) T L p ft) M0.2.1 [7] 0 = some (M0.2.1 + 1) := rm_g0
  have e21 : (rat M M0.2.1 x4 (M0.2.1 + 1) T L p ft).2.1 = M.2.1 := rfl
  have k4 : mkD k r0 r1 0 0 0 0 ≤ 4 := by show k ≤ 4; omega
  have ob : zob (rat (zAdd M (dogCell (mkD k r0 r1 0 0 0)) 3) M0.2.1 x4 (M0.2.1 + 1) T L p ft) (M0.2.1 + 1) 2 = some () := by
    refine c_obh (bk := nB B) (d := M0.2.1 + 2) ?_
    rw [rat_out (by omega), zA_n _ _ _ (by omega)]; exact g5
  rw [g0, Option.bind_some, c_bred hk, Option.bind_some, e21, rat_add (by omega)]
  show ((zob (rat (zAdd M (dogCell (mkD k r0 r1 0 0 0)) 3) M0.2.1 x4 (M0.2.1 + 1) T L p ft) (M0.2.1 + 1) 2).bind fun _ => (f_X2_addDog (M0.2.1 + 1) M.2.1 (rat (zAdd M (dogCell (mkD k r0 r1 0 0 0)) 3) M0.2.1 x4 (M0.2.1 + 1) T L p ft)).bind fun q11 => some q11.2) = _
  rw [ob, Option.bind_some, rat_dog (by omega) (by omega) (by omega) (by omega) (by omega) g5 g6 h3 k4, Option.bind_some]
  rfl
theorem r_fin6 (hG : RdG M0 M B f) (h3 : B 6 < 3) {k r0 r1 s0 s1 l : Nat} (hk : k = 2 ∨ k = 3) : ((zgN (rat M M0.2.1 x4 (M0.2.1 + 1) T L p ft) M0.2.1 [7] 0).bind fun a3 => (f_X11_bredLearning (nI k) (nI r0) (nI r1) (nI s0) (nI s1) (nI l) (rat M M0.2.1 x4 (M0.2.1 + 1) T L p ft)).bind fun q10 => zcase q10.1 none fun a4 => (zob q10.2 a3 2).bind fun _ => (f_X2_addDog a3 a4 q10.2).bind fun q11 => some q11.2) = some (rat (dgM M0 M B f (mkD k r0 r1 s0 s1 l) 6) M0.2.1 x4 (M0.2.1 + 1) T L p ft) := by
  have hF := hG.rdf
  obtain ⟨g1, g2, g3, g4, g5, g6, g7, g8, g9, g10⟩ := hG
  have g0 : zgN (rat M M0.2.1 x4 (M0.2.1 + 1) T L p ft) M0.2.1 [7] 0 = some (M0.2.1 + 1) := rm_g0
  have e21 : (rat M M0.2.1 x4 (M0.2.1 + 1) T L p ft).2.1 = M.2.1 := rfl
  have k4 : mkD k r0 r1 s0 s1 l 0 ≤ 4 := by show k ≤ 4; omega
  have ob : zob (rat (zAdd M (dogCell (mkD k r0 r1 s0 s1 l)) 6) M0.2.1 x4 (M0.2.1 + 1) T L p ft) (M0.2.1 + 1) 2 = some () := by
    refine c_obh (bk := nB B) (d := M0.2.1 + 2) ?_
    rw [rat_out (by omega), zA_n _ _ _ (by omega)]; exact g5
  rw [g0, Option.bind_some, c_bredL hk, Option.bind_some, e21, rat_add (by omega)]
  show ((zob (rat (zAdd M (dogCell (mkD k r0 r1 s0 s1 l)) 6) M0.2.1 x4 (M0.2.1 + 1) T L p ft) (M0.2.1 + 1) 2).bind fun _ => (f_X2_addDog (M0.2.1 + 1) M.2.1 (rat (zAdd M (dogCell (mkD k r0 r1 s0 s1 l)) 6) M0.2.1 x4 (M0.2.1 + 1) T L p ft)).bind fun q11 => some q11.2) = _
  rw [ob, Option.bind_some, rat_dog (by omega) (by omega) (by omega) (by omega) (by omega) g5 g6 h3 k4, Option.bind_some]
  rfl
/-- a row is taken, or the fault is told -/
theorem r_rowC (h : Txt M x4 M0.2.1 tx T L) (hG : RdG M0 M B f) (hp : p ≤ L) : (∃ b, RwA T L (B 0) p b ∧ f_X7_takeRow M0.2.1 (rat M M0.2.1 x4 (M0.2.1 + 1) T L p (-1)) = some (nI (rwz b (B 0)), rat M M0.2.1 x4 (M0.2.1 + 1) T L (tkE T L p) (-1))) ∨ ((∀ b, ¬ RwA T L (B 0) p b) ∧ f_X7_takeRow M0.2.1 (rat M M0.2.1 x4 (M0.2.1 + 1) T L p (-1)) = some (nI 0, rat M M0.2.1 x4 (M0.2.1 + 1) T L p (nI (tkS T L p)))) := by
  rcases r_row (ft := -1) h (Nat.succ_ne_self _) hG.2.2.2.2.1 hG.2.2.2.2.2.2.1.n5 hp with ⟨b, hb, e⟩ | ⟨hx, e⟩
  · exact Or.inl ⟨b, hb, by rw [e, rat_adv h hp, Option.bind_some]⟩
  · exact Or.inr ⟨hx, by rw [e, rat_fail, Option.bind_some]; rfl⟩
end DC
