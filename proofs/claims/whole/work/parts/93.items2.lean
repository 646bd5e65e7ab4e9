/-! items of the text, the reference's side -/
section IR
variable {N : zMe} {m : Nat} {sc : Nat → Int32} {lg : Nat → Int64} {ar : Nat → Nat → Int32} {en : Nat → Int64} {k s l L p n : Nat} {T : Nat → Int32}
theorem raf_g1 : zgN (raf N m sc lg ar en T L p) m [12] 1 = some (m + 2) := mm_gN1
theorem raf_r {j : Nat} (hj : j < 25) : zrI (raf N m sc lg ar en T L p) (m + 2) (nI j) = some (ar 1 j) := mm_rN2 hj
theorem raf_w {j : Nat} {v : Int32} (hj : j < 25) : zwI (raf N m sc lg ar en T L p) (m + 2) (nI j) v = some (raf N m sc lg (updA ar 1 (upd (ar 1) j v)) en T L p) := mm_wN2 hj
theorem rf_item_pre (ha : ar 1 0 = nI n) (hn : 1 ≤ n) {j : Nat} (hj : j = 1 ∨ j = 2 ∨ j = 3) : f_X12_readsItem m (nI j) (rfm N m sc lg ar en p k s l) = (f_X12_figure m (nI 0) (nI (n - 1)) (rfm N m sc lg ar en p k s l)).bind fun q => f_X12_readsItem_b50 m (nI j) q.1 q.2 := by
  have g1 : zgN (rfm N m sc lg ar en p k s l) m [12] 1 = some (m + 2) := mm_gN1
  have r0 : zrI (rfm N m sc lg ar en p k s l) (m + 2) 0 = some (nI n) := by
    show zrI (mmk N m _ lg ar en) (m + 2) (nI 0) = _
    rw [mm_rN2 (by omega), ha]
  have em : nI n - 1 = nI (n - 1) := n_subz (b := 1) hn
  rw [f_X12_readsItem]
  rcases hj with rfl | rfl | rfl
  · rw [if_neg (show ¬ nI 1 = 5 by decide), if_neg (show ¬ nI 1 = 0 by decide), if_neg (show ¬ nI 1 = 4 by decide), g1, Option.bind_some, r0, Option.bind_some, rf_ob, Option.bind_some, em, nI_0]
  · rw [if_neg (show ¬ nI 2 = 5 by decide), if_neg (show ¬ nI 2 = 0 by decide), if_neg (show ¬ nI 2 = 4 by decide), g1, Option.bind_some, r0, Option.bind_some, rf_ob, Option.bind_some, em, nI_0]
  · rw [if_neg (show ¬ nI 3 = 5 by decide), if_neg (show ¬ nI 3 = 0 by decide), if_neg (show ¬ nI 3 = 4 by decide), g1, Option.bind_some, r0, Option.bind_some, rf_ob, Option.bind_some, em, nI_0]
/-- no place: the answer is no -/
theorem rf_itemX (h : TxR sc ar T L) (hp : p ≤ L) (ha : ar 1 0 = nI n) (hn : 1 ≤ n) (hn5 : n ≤ 5) {j : Nat} (hj : j = 1 ∨ j = 2 ∨ j = 3) (hv : ∀ v, NmA T L p v → v < 0 ∨ n - 1 < v) : f_X12_readsItem m (nI j) (rfm N m sc lg ar en p k s l) = some (0, raf N m sc lg ar en T L p) := by
  rw [rf_item_pre ha hn hj, rf_numX h hp hv (by omega) (by omega), Option.bind_some, f_X12_readsItem_b50, if_pos rfl]
/-- shut, barks -/
theorem rf_itemB (h : TxR sc ar T L) (hp : p ≤ L) (ha : ar 1 0 = nI n) (hn : 1 ≤ n) (hn5 : n ≤ 5) {j v : Nat} (hj : j = 1 ∨ j = 3) (hv : NmA T L p v) (hv2 : v ≤ n - 1) : f_X12_readsItem m (nI j) (rfm N m sc lg ar en p k s l) = some (1, raf N m sc lg (updA ar 1 (upd (ar 1) j (ar 1 j ||| nI (2 ^ v)))) en T L p) := by
  rw [rf_item_pre ha hn (by omega), rf_numS h hp hv (Nat.zero_le _) hv2 (by omega), Option.bind_some, f_X12_readsItem_b50, if_neg (nI_m1 (by omega)), n_sh1 (by omega)]
  rcases hj with rfl | rfl
  · have r1 : zrI (raf N m sc lg ar en T L p) (m + 2) 1 = some (ar 1 1) := raf_r (j := 1) (by omega)
    have w1 : zwI (raf N m sc lg ar en T L p) (m + 2) 1 (ar 1 1 ||| nI (2 ^ v)) = _ := raf_w (j := 1) (by omega)
    rw [if_neg (show ¬ nI 1 = 0 by decide), if_pos (show nI 1 = 1 from rfl), raf_g1, Option.bind_some, r1, Option.bind_some, w1, Option.bind_some, f_X12_readsItem_b151]
  · have r1 : zrI (raf N m sc lg ar en T L p) (m + 2) 3 = some (ar 1 3) := raf_r (j := 3) (by omega)
    have w1 : zwI (raf N m sc lg ar en T L p) (m + 2) 3 (ar 1 3 ||| nI (2 ^ v)) = _ := raf_w (j := 3) (by omega)
    rw [if_neg (show ¬ nI 3 = 0 by decide), if_neg (show ¬ nI 3 = 1 by decide), if_neg (show ¬ nI 3 = 2 by decide), if_pos (show nI 3 = 3 from rfl), raf_g1, Option.bind_some, r1, Option.bind_some, w1, Option.bind_some, f_X12_readsItem_b151]
/-- goal -/
theorem rf_itemG (h : TxR sc ar T L) (hp : p ≤ L) (ha : ar 1 0 = nI n) (hn : 1 ≤ n) (hn5 : n ≤ 5) {v : Nat} (hv : NmA T L p v) (hv2 : v ≤ n - 1) : f_X12_readsItem m (nI 2) (rfm N m sc lg ar en p k s l) = some (1, raf N m sc lg (updA ar 1 (upd (ar 1) 2 (nI v))) en T L p) := by
  have w1 : zwI (raf N m sc lg ar en T L p) (m + 2) 2 (nI v) = _ := raf_w (j := 2) (by omega)
  rw [rf_item_pre ha hn (by omega), rf_numS h hp hv (Nat.zero_le _) hv2 (by omega), Option.bind_some, f_X12_readsItem_b50, if_neg (nI_m1 (by omega)), if_neg (show ¬ nI 2 = 0 by decide), if_neg (show ¬ nI 2 = 1 by decide), if_pos (show nI 2 = 2 from rfl), raf_g1, Option.bind_some, w1, Option.bind_some, f_X12_readsItem_b151]
end IR
