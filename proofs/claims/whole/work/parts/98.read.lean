/-! THE CALL read -/
theorem nI_any (v : Int32) : ∃ n, v = nI n := ⟨v.toBitVec.toNat, by
  rw [← Int32.toBitVec_inj]
  show v.toBitVec = BitVec.ofNat 32 v.toBitVec.toNat
  rw [BitVec.ofNat_toNat]
  simp⟩
def B00 : Nat → Nat := fun k => if k = 0 then 5 else if k = 4 then 1 else if k = 5 then 1 else 0
def Bz0 : Nat → Nat := fun k => if k = 4 then 1 else if k = 5 then 1 else 0
theorem B00_wb : WB B00 := ⟨by decide, by decide, by decide, by decide, by decide, by decide, by decide, by decide, fun d hd => absurd hd (by show ¬ d < 0; omega)⟩
theorem Bpl_wb {v : Nat} (h2 : 2 ≤ v) (h5 : v ≤ 5) : WB (Bpl B00 v) := ⟨h2, h5, (by show 0 < 2 ^ v; exact Nat.two_pow_pos v), (by show 0 < v; omega), (by show 0 < 2 ^ v; exact Nat.two_pow_pos v), B00_wb.b4, B00_wb.b5, (by show 0 ≤ 3; omega), fun d hd => absurd hd (by show ¬ d < 0; omega)⟩
theorem Bpl_bk {g : Nat → Int32} (hg : Bk g Bz0) (v : Nat) : Bk (upd g 0 (nI v)) (Bpl B00 v) := fun k hk => by
  by_cases e : k = 0
  · rw [e, up_s]; rfl
  · rw [up_n _ _ e, hg k hk]
    unfold Bz0 Bpl
    rw [if_neg e]
    by_cases e4 : k = 4
    · rw [if_pos e4, if_pos e4]; rfl
    · rw [if_neg e4, if_neg e4]
      by_cases e5 : k = 5
      · rw [if_pos e5, if_pos e5]; rfl
      · rw [if_neg e5, if_neg e5]
section RI
variable {M0 : zMe} {x4 L : Nat}
/-- the new reader -/
theorem r_new (hf : ∀ q, M0.2.1 ≤ q → M0.1 q = none) (hx : x4 < M0.2.1) : ∃ Mi, f_X7_init M0.2.1 x4 (nI L) (zAdd M0 (.inr (7, [.null, .int 0, .null, .int 0, .int 0, .int 0, .int 0])) 7) = some (rmk Mi M0.2.1 x4 (M0.2.1 + 1) (-1) L 0 0 0) ∧ RdG M0 Mi B00 (fun _ => none) := by
  obtain ⟨M1, hM1⟩ : ∃ M1, M1 = zAdd M0 (.inr (7, [.null, .int 0, .null, .int 0, .int 0, .int 0, .int 0])) 7 := ⟨_, rfl⟩
  obtain ⟨M2, hM2⟩ : ∃ M2, M2 = zAdd M1 (.inr (2, [.int 0, .int 0, .int 0, .int 0, .int 0, .int 0, .int 0, .null])) 8 := ⟨_, rfl⟩
  have m1 : M1.2 = (M0.2.1 + 1, M0.2.2 + 7) := by rw [hM1]; rfl
  have m11 : M1.2.1 = M0.2.1 + 1 := by rw [m1]
  have m2 : M2.2 = (M0.2.1 + 2, M0.2.2 + 15) := by rw [hM2]; show (M1.2.1 + 1, M1.2.2 + 8) = _; rw [m1]
  have m21 : M2.2.1 = M0.2.1 + 2 := by rw [m2]
  obtain ⟨M3, e1, e2, e3, e4, e5⟩ := t_x2init (M0.2.1 + 1) M2 (by rw [hM2, ← m11]; exact zA_s _ _ _) (by omega)
  have m3 : M3.2 = (M0.2.1 + 3, M0.2.2 + 18) := by rw [e4, m2]
  have m31 : M3.2.1 = M0.2.1 + 3 := by rw [m3]
  have m32 : M3.2.2 = M0.2.2 + 18 := by rw [m3]
  have o2 : ∀ q, q ≠ M0.2.1 → q ≠ M0.2.1 + 1 → M2.1 q = M0.1 q := fun q q1 q2 => by
    rw [hM2, zA_n _ _ _ (by omega), hM1, zA_n _ _ _ q1]
  have hr : M3.1 M0.2.1 = some (.inr (7, [.null, .int 0, .null, .int 0, .int 0, .int 0, .int 0])) := by
    rw [e5 _ (by omega) (by omega), hM2, zA_n _ _ _ (by omega), hM1]
    exact zA_s _ _ _
  refine ⟨M3, ?_, fun q hq => ?_, fun q hq => ?_, m31, by rw [m32]; show _ ≤ M0.2.2 + 18 + 6 * 0; omega, by rw [e2, m21]; rfl, by rw [m21] at e3; exact e3, B00_wb, fun k hk => ?_, fun k hk => absurd hk (by show ¬ k < 0; omega), fun _ _ => rfl⟩
  · rw [← hM1]
    rw [f_X7_init, m11, ← hM2, zlet, e1, Option.bind_some]
    simp only [zpR, zpI, zp_at hr, Option.bind_some, zp_at (zS_s _ _ _), zSS, List.set]
    rfl
  · rw [e5 q (by omega) (by omega), o2 q (by omega) (by omega)]
  · rw [m31] at hq
    rw [e5 q (by omega) (by omega), o2 q (by omega) (by omega)]
    exact hf q (by omega)
  · have hk' : 7 + 6 * 0 ≤ k := hk
    unfold B00
    rw [if_neg (by omega), if_neg (by omega), if_neg (by omega)]
end RI
section RP
variable {N : zMe} {m : Nat} {sc : Nat → Int32} {lg : Nat → Int64} {ar : Nat → Nat → Int32} {en : Nat → Int64} {k s l L p : Nat} {T : Nat → Int32}
theorem rf_plS (h : TxR sc ar T L) (hp : p ≤ L) {v : Nat} (hv : NmA T L p v) (hv1 : 2 ≤ v) (hv5 : v ≤ 5) : f_X12_readsItem m (nI 0) (rfm N m sc lg ar en p k s l) = some (1, raf N m sc lg (updA ar 1 (upd (ar 1) 0 (nI v))) en T L p) := by
  have t1 : f_X12_figure m 2 5 (rfm N m sc lg ar en p k s l) = some (nI v, raf N m sc lg ar en T L p) := rf_numS (lo := 2) (hi := 5) h hp hv hv1 hv5 (by omega)
  have w0 : zwI (raf N m sc lg ar en T L p) (m + 2) 0 (nI v) = _ := raf_w (j := 0) (by omega)
  rw [f_X12_readsItem, if_neg (show ¬ nI 0 = 5 by decide), if_pos (show nI 0 = 0 from rfl), rf_ob, Option.bind_some, t1, Option.bind_some, f_X12_readsItem_b50, if_neg (nI_m1 (by omega)), if_pos (show nI 0 = 0 from rfl), raf_g1, Option.bind_some, w0, Option.bind_some, f_X12_readsItem_b151]
theorem rf_plX (h : TxR sc ar T L) (hp : p ≤ L) (hv : ∀ v, NmA T L p v → v < 2 ∨ 5 < v) : f_X12_readsItem m (nI 0) (rfm N m sc lg ar en p k s l) = some (0, raf N m sc lg ar en T L p) := by
  have t1 : f_X12_figure m 2 5 (rfm N m sc lg ar en p k s l) = some (-1, raf N m sc lg ar en T L p) := rf_numX (lo := 2) (hi := 5) h hp hv (by omega) (by omega)
  rw [f_X12_readsItem, if_neg (show ¬ nI 0 = 5 by decide), if_pos (show nI 0 = 0 from rfl), rf_ob, Option.bind_some, t1, Option.bind_some, f_X12_readsItem_b50, if_pos rfl]
/-- the reference begins -/
theorem rf_begin (h : TxR sc ar T L) : ∃ g, Bk g Bz0 ∧ f_X12_reads m (mmk N m sc lg ar en) = f_X12_reads_b46 zfu m 1 (raf N m sc lg (updA ar 1 g) en T L 0) := by
  have hL := h.2.1
  have lp := loopX (S := Nat → Int32) (R := Option (Int32 × zMe)) (fun fuel j g => f_X12_reads_b2 fuel m (nI j) (mmk N m sc lg (updA ar 1 g) en)) 25 (fun j g => ∀ k, k < j → g k = 0) (fun Q => ∃ g, Bk g Bz0 ∧ Q = f_X12_reads_b46 zfu m 1 (raf N m sc lg (updA ar 1 g) en T L 0)) (by omega) (fun fu j g hj hI => Or.inl ?_) (fun fu g hI => ?_) (ar 1) (fun k hk => by omega)
  · rw [updA_id] at lp
    exact lp
  · refine ⟨upd g j 0, ?_, fun k hk => ?_⟩
    · show f_X12_reads_b2 (fu + 1) m (nI j) (mmk N m sc lg (updA ar 1 g) en) = f_X12_reads_b2 fu m (nI (j + 1)) (mmk N m sc lg (updA ar 1 (upd g j 0)) en)
      rw [f_X12_reads_b2, if_neg (show ¬ (25 : Int32) ≤ nI j from nI_ge (b := 25) hj (by omega)), mm_gN1, Option.bind_some, mm_wN2 hj, Option.bind_some, nI_1, zlet, updA_s, updA_A]
    · by_cases e : k = j
      · rw [e, up_s]
      · rw [up_n _ _ e]; exact hI k (by omega)
  · have hI : ∀ k, k < 25 → g k = 0 := hI
    obtain ⟨k2, h2⟩ := nI_any (sc 2)
    obtain ⟨k3, h3⟩ := nI_any (sc 3)
    obtain ⟨k4, h4⟩ := nI_any (sc 4)
    refine ⟨upd (upd g 4 1) 5 1, fun k hk => ?_, ?_⟩
    · unfold Bz0
      by_cases e5 : k = 5
      · rw [e5, up_s]; rfl
      · rw [up_n _ _ e5]
        by_cases e4 : k = 4
        · rw [e4, up_s]; rfl
        · rw [up_n _ _ e4, if_neg e4, if_neg e5]
          exact hI k hk
    · show f_X12_reads_b2 (fu + 1) m (nI 25) (mmk N m sc lg (updA ar 1 g) en) = f_X12_reads_b46 zfu m 1 (raf N m sc lg (updA ar 1 (upd (upd g 4 1) 5 1)) en T L 0)
      have w4 : zwI (mmk N m sc lg (updA ar 1 g) en) (m + 2) 4 1 = some (mmk N m sc lg (updA ar 1 (upd g 4 1)) en) := by
        have := mm_wN2 (M := N) (m := m) (sc := sc) (lg := lg) (ar := updA ar 1 g) (en := en) (k := 4) (v := 1) (by omega)
        rw [updA_s, updA_A] at this
        exact this
      have w5 : zwI (mmk N m sc lg (updA ar 1 (upd g 4 1)) en) (m + 2) 5 1 = some (mmk N m sc lg (updA ar 1 (upd (upd g 4 1) 5 1)) en) := by
        have := mm_wN2 (M := N) (m := m) (sc := sc) (lg := lg) (ar := updA ar 1 (upd g 4 1)) (en := en) (k := 5) (v := 1) (by omega)
        rw [updA_s, updA_A] at this
        exact this
      have es : upd sc 1 0 = scz sc 0 k2 k3 k4 := by
        funext i
        unfold scz
        by_cases i1 : i = 1
        · rw [i1, up_s]; rfl
        · rw [up_n _ _ i1, if_neg i1]
          by_cases i2 : i = 2
          · rw [if_pos i2, i2, h2]
          · rw [if_neg i2]
            by_cases i3 : i = 3
            · rw [if_pos i3, i3, h3]
            · rw [if_neg i3]
              by_cases i4 : i = 4
              · rw [if_pos i4, i4, h4]
              · rw [if_neg i4]
      have p9 : zpI (mmk N m sc lg (updA ar 1 (upd (upd g 4 1) 5 1)) en) m [12] 9 0 = some (rfm N m sc lg (updA ar 1 (upd (upd g 4 1) 5 1)) en 0 k2 k3 k4) := by rw [mm_pI9, es]; rfl
      have tk : f_X12_token m (rfm N m sc lg (updA ar 1 (upd (upd g 4 1) 5 1)) en 0 k2 k3 k4) = some (raf N m sc lg (updA ar 1 (upd (upd g 4 1) 5 1)) en T L 0) := rf_token (h.dr _) (Nat.zero_le _)
      rw [f_X12_reads_b2, if_pos (show (25 : Int32) ≤ nI 25 from nI_le (a := 25) (by omega) (by omega)), mm_gN1, Option.bind_some, w4, Option.bind_some, mm_gN1, Option.bind_some, w5, Option.bind_some, p9, Option.bind_some, rf_ob, Option.bind_some, tk, Option.bind_some]
/-- the draft becomes the book -/
theorem rf_done {sc : Nat → Int32} : ∃ g, (∀ k, k < 25 → g k = ar 1 k) ∧ f_X12_read_b17 zfu m 0 (mmk N m sc lg ar en) = some (g 6, mmk N m sc lg (updA ar 0 g) en) := by
  have lp := loopX (S := Nat → Int32) (R := Option (Int32 × zMe)) (fun fuel j g => f_X12_read_b17 fuel m (nI j) (mmk N m sc lg (updA ar 0 g) en)) 25 (fun j g => ∀ k, k < j → g k = ar 1 k) (fun Q => ∃ g, (∀ k, k < 25 → g k = ar 1 k) ∧ Q = some (g 6, mmk N m sc lg (updA ar 0 g) en)) (by omega) (fun fu j g hj hI => Or.inl ?_) (fun fu g hI => ⟨g, hI, ?_⟩) (ar 0) (fun k hk => by omega)
  · rw [updA_id] at lp
    exact lp
  · refine ⟨upd g j (ar 1 j), ?_, fun k hk => ?_⟩
    · show f_X12_read_b17 (fu + 1) m (nI j) (mmk N m sc lg (updA ar 0 g) en) = f_X12_read_b17 fu m (nI (j + 1)) (mmk N m sc lg (updA ar 0 (upd g j (ar 1 j))) en)
      rw [f_X12_read_b17, if_neg (show ¬ (25 : Int32) ≤ nI j from nI_ge (b := 25) hj (by omega)), mm_gN0, Option.bind_some, mm_gN1, Option.bind_some, mm_rN2 hj, Option.bind_some, mm_wN1 hj, Option.bind_some, nI_1, zlet, updA_s, updA_A, updA_n _ _ (by decide)]
    · by_cases e : k = j
      · rw [e, up_s]
      · rw [up_n _ _ e]; exact hI k (by omega)
  · show f_X12_read_b17 (fu + 1) m (nI 25) (mmk N m sc lg (updA ar 0 g) en) = _
    have r6 : zrI (mmk N m sc lg (updA ar 0 g) en) (m + 1) 6 = some (g 6) := by
      show zrI (mmk N m sc lg (updA ar 0 g) en) (m + 1) (nI 6) = _
      rw [mm_rN1 (by omega), updA_s]
    rw [f_X12_read_b17, if_pos (show (25 : Int32) ≤ nI 25 from nI_le (a := 25) (by omega) (by omega)), mm_gN0, Option.bind_some, r6, Option.bind_some]
end RP
section RH
variable {M0 M : zMe} {x4 : Nat} {L m : Nat} {T tx : Nat → Int32} {f : Nat → Option Nat} {sa : Nat → Nat}
theorem RdG.pl (h : RdG M0 M B00 f) {v : Nat} (h2 : 2 ≤ v) (h5 : v ≤ 5) : RdG M0 (zSet M (M0.2.1 + 1) (.inr (2, ho (nB (Bpl B00 v)) (M0.2.1 + 2)))) (Bpl B00 v) f := by
  obtain ⟨g1, g2, g3, g4, g5, g6, g7, g8, g9, g10⟩ := h
  have g3' : M.2.1 = M0.2.1 + 3 + 0 := g3
  refine ⟨fun q hq => by rw [zS_n _ _ (by omega)]; exact g1 q hq, fun q hq => ?_, g3, g4, zS_s _ _ _, by rw [zS_n _ _ (by omega)]; exact g6, Bpl_wb h2 h5, fun k hk => ?_, fun k hk => absurd hk (by show ¬ k < 0; omega), g10⟩
  · have hq' : M.2.1 ≤ q := hq
    rw [zS_n _ _ (by omega)]; exact g2 q hq'
  · have hk' : 7 + 6 * 0 ≤ k := hk
    unfold Bpl
    rw [if_neg (by omega), if_neg (by omega), if_neg (by omega)]
theorem r_hill (ht : TxM M0 x4 tx T L) (hZ : ZS sa) (hG : RdG M0 M B00 f) :
    (∃ M' B' f' p', f_X7_readHill sa M0.2.1 (rmk M M0.2.1 x4 (M0.2.1 + 1) (-1) L 0 0 0) = some (rat M' M0.2.1 x4 (M0.2.1 + 1) T L p' (-1)) ∧ RdG M0 M' B' f' ∧ ∀ N sc lg ar en, TxR sc ar T L → ∃ dr, f_X12_reads m (mmk N m sc lg ar en) = some (1, raf N m sc lg (updA ar 1 dr) en T L p') ∧ Bk dr B') ∨
    (∃ M' q, f_X7_readHill sa M0.2.1 (rmk M M0.2.1 x4 (M0.2.1 + 1) (-1) L 0 0 0) = some (rat M' M0.2.1 x4 (M0.2.1 + 1) T L q (nI (tkS T L q))) ∧ RdF M0 M' ∧ q ≤ L ∧ ∀ N sc lg ar en, TxR sc ar T L → ∃ dr, f_X12_reads m (mmk N m sc lg ar en) = some (0, raf N m sc lg (updA ar 1 dr) en T L q)) := by
  have hF := hG.rdf
  have hT := hF.txt ht
  have hL := ht.2.2.2
  have hh := hG.2.2.2.2.1
  have l0 : 0 ≤ L := Nat.zero_le _
  have s0 := tkS_le (T := T) l0
  have e0 := tkE_le (T := T) l0
  have ob : ∀ (M : zMe) q (ft : Int32), zob (rat M M0.2.1 x4 (M0.2.1 + 1) T L q ft) M0.2.1 7 = some () := fun _ _ _ => rm_ob
  have g1 : ∀ (M : zMe) q (ft : Int32), zgI (rat M M0.2.1 x4 (M0.2.1 + 1) T L q ft) M0.2.1 [7] 1 = some ft := fun _ _ _ => rm_g1
  have g0 : ∀ (M : zMe) q (ft : Int32), zgN (rat M M0.2.1 x4 (M0.2.1 + 1) T L q ft) M0.2.1 [7] 0 = some (M0.2.1 + 1) := fun _ _ _ => rm_g0
  have ad : f_X7_advance M0.2.1 (rmk M M0.2.1 x4 (M0.2.1 + 1) (-1) L 0 0 0) = some (rat M M0.2.1 x4 (M0.2.1 + 1) T L 0 (-1)) := r_adv hT l0
  obtain ⟨F, hfu⟩ : ∃ F, zfu = F + 1 := ⟨999999, rfl⟩
  have hF9 : F = 999999 := by unfold zfu at hfu; omega
  have bg : ∀ N sc lg ar en, TxR sc ar T L → ∃ g, Bk g Bz0 ∧ f_X12_reads m (mmk N m sc lg ar en) = f_X12_reads_b57 (f_X12_reads_b46 F) m 1 (raf N m sc lg (updA ar 1 g) en T L 0) := fun N sc lg ar en hR => by
    obtain ⟨g, b1, b2⟩ := rf_begin (N := N) (m := m) (lg := lg) (en := en) hR
    exact ⟨g, b1, by rw [b2, hfu, f_X12_reads_b46, if_neg one0]⟩
  rw [f_X7_readHill, rm_ob, Option.bind_some, ad, Option.bind_some, ob, Option.bind_some]
  obtain ⟨v, ew, ⟨rfl, hw⟩ | ⟨rfl, hw⟩⟩ := r_word (to := M0.2.1 + 1) (ft := -1) hT hZ (k := 0) (by omega) (kdz_4 _) e0.1 e0.2.1
  · have ew : f_X7_isWord sa M0.2.1 (sa 0) (rat M M0.2.1 x4 (M0.2.1 + 1) T L 0 (-1)) = some (1, rat M M0.2.1 x4 (M0.2.1 + 1) T L 0 (-1)) := ew
    have hw : IsW T L (tkK T L 0) (tkS T L 0) (tkE T L 0) 0 := hw
    obtain ⟨p1, hp1⟩ : ∃ p1, p1 = tkE T L 0 := ⟨_, rfl⟩
    have l1 : p1 ≤ L := by rw [hp1]; exact e0.2.1
    have s1 := tkS_le (T := T) l1
    have e1 := tkE_le (T := T) l1
    rw [ew, Option.bind_some, if_neg one0, ob, Option.bind_some, rat_adv hT l0, Option.bind_some, ob, Option.bind_some, ← hp1]
    rcases nm_case T L p1 2 5 with ⟨v, nv, v2, v5⟩ | hx
    · have t1 : f_X7_takeNumber M0.2.1 2 5 (rat M M0.2.1 x4 (M0.2.1 + 1) T L p1 (-1)) = some (nI v, rat M M0.2.1 x4 (M0.2.1 + 1) T L (tkE T L p1) (-1)) := r_numS (lo := 2) (hi := 5) hT l1 nv v2 v5 (by omega)
      obtain ⟨p2, hp2⟩ : ∃ p2, p2 = tkE T L p1 := ⟨_, rfl⟩
      have l2 : p2 ≤ L := by rw [hp2]; exact e1.2.1
      have s2 := tkS_le (T := T) l2
      have e2 := tkE_le (T := T) l2
      have rr : ∀ N sc lg ar en g, TxR sc ar T L → Bk g Bz0 → f_X12_reads_b57 (f_X12_reads_b46 F) m 1 (raf N m sc lg (updA ar 1 g) en T L 0) = if tkK T L p2 = 3 then f_X12_reads_b46 F m 0 (raf N m sc lg (updA ar 1 (upd g 0 (nI v))) en T L (tkE T L p2)) else some (0, raf N m sc lg (updA ar 1 (upd g 0 (nI v))) en T L p2) := fun N sc lg ar en g hR hg => by
        have hi : f_X12_readsItem m (nI 0) (raf N m sc lg (updA ar 1 g) en T L 0) = some (1, raf N m sc lg (updA (updA ar 1 g) 1 (upd (updA ar 1 g 1) 0 (nI v))) en T L p1) := by
          rw [hp1]
          exact rf_plS (hR.dr g) e0.2.1 (by rw [← hp1]; exact nv) v2 v5
        rw [rb_ok (y := 1) (hR.dr g) l0 (by omega) hw (by rw [if_pos rfl]) (p' := tkE T L p1) (by rw [← hp2]; exact l2) hi, updA_s, updA_A, hp2]
      rw [t1, Option.bind_some, ob, Option.bind_some, ← hp2, r_mark hT l2, Option.bind_some]
      by_cases c : tkK T L p2 = 3
      · have hh' : (rat M M0.2.1 x4 (M0.2.1 + 1) T L (tkE T L p2) (-1)).1 (M0.2.1 + 1) = some (.inr (2, ho (nB B00) (M0.2.1 + 2))) := by rw [rat_out (Nat.succ_ne_self _)]; exact hh
        have st : f_X2_settle (M0.2.1 + 1) (nI v) (rat M M0.2.1 x4 (M0.2.1 + 1) T L (tkE T L p2) (-1)) = some (rat (zSet M (M0.2.1 + 1) (.inr (2, ho (nB (Bpl B00 v)) (M0.2.1 + 2)))) M0.2.1 x4 (M0.2.1 + 1) T L (tkE T L p2) (-1)) := by
          rw [c_settle hh', rat_set (Nat.succ_ne_self _)]
          rfl
        rw [if_pos c, g1, Option.bind_some, if_pos rfl, g0, Option.bind_some, c_obh hh', Option.bind_some, st, Option.bind_some]
        rcases r_loop (m := m) ht hZ L zfu 0 (tkE T L p2) _ _ _ (by omega) (by unfold zfu; omega) (Nat.zero_le _) e2.2.1 (hG.pl v2 v5) with ⟨M', B', f', p', e, hG', hr⟩ | ⟨M', q, e, hF', q2, hr⟩
        · refine Or.inl ⟨M', B', f', p', e, hG', fun N sc lg ar en hR => ?_⟩
          obtain ⟨g, b1, b2⟩ := bg N sc lg ar en hR
          obtain ⟨dr, r1, r2⟩ := hr F N sc lg (updA ar 1 (upd g 0 (nI v))) en (by omega) (hR.dr _) (by rw [updA_s]; exact Bpl_bk b1 v)
          exact ⟨dr, by rw [b2, rr N sc lg ar en g hR b1, if_pos c, r1, updA_A], r2⟩
        · refine Or.inr ⟨M', q, e, hF', q2, fun N sc lg ar en hR => ?_⟩
          obtain ⟨g, b1, b2⟩ := bg N sc lg ar en hR
          obtain ⟨dr, r1⟩ := hr F N sc lg (updA ar 1 (upd g 0 (nI v))) en (by omega) (hR.dr _) (by rw [updA_s]; exact Bpl_bk b1 v)
          exact ⟨dr, by rw [b2, rr N sc lg ar en g hR b1, if_pos c, r1, updA_A]⟩
      · rw [if_neg c, g1, Option.bind_some, if_neg (nI_m1 (by omega))]
        refine Or.inr ⟨M, p2, rfl, hF, l2, fun N sc lg ar en hR => ?_⟩
        obtain ⟨g, b1, b2⟩ := bg N sc lg ar en hR
        exact ⟨_, by rw [b2, rr N sc lg ar en g hR b1, if_neg c]⟩
    · have t1 : f_X7_takeNumber M0.2.1 2 5 (rat M M0.2.1 x4 (M0.2.1 + 1) T L p1 (-1)) = some (nI 2, rat M M0.2.1 x4 (M0.2.1 + 1) T L p1 (nI (tkS T L p1))) := r_numB (lo := 2) (hi := 5) hT l1 hx (by omega) (by omega)
      rw [t1, Option.bind_some, ob, Option.bind_some, r_markF (nI_m1 (by omega)), Option.bind_some, g1, Option.bind_some, if_neg (nI_m1 (by omega))]
      refine Or.inr ⟨M, p1, rfl, hF, l1, fun N sc lg ar en hR => ?_⟩
      obtain ⟨g, b1, b2⟩ := bg N sc lg ar en hR
      refine ⟨g, ?_⟩
      rw [b2]
      refine rb_x (y := 1) (hR.dr g) l0 (by omega) hw (by rw [if_pos rfl]) ?_
      rw [hp1]
      exact rf_plX (hR.dr g) e0.2.1 (by rw [← hp1]; exact hx)
  · have ew : f_X7_isWord sa M0.2.1 (sa 0) (rat M M0.2.1 x4 (M0.2.1 + 1) T L 0 (-1)) = some (0, rat M M0.2.1 x4 (M0.2.1 + 1) T L 0 (-1)) := ew
    have hw : ¬ IsW T L (tkK T L 0) (tkS T L 0) (tkE T L 0) 0 := hw
    rw [ew, Option.bind_some, if_pos rfl, ob, Option.bind_some, rat_fail, Option.bind_some]
    refine Or.inr ⟨M, 0, rfl, hF, l0, fun N sc lg ar en hR => ?_⟩
    obtain ⟨g, b1, b2⟩ := bg N sc lg ar en hR
    exact ⟨g, by rw [b2, rb_no (hR.dr g) l0 (Or.inl ⟨rfl, hw⟩)]⟩
end RH
section SR
variable {M M' : zMe} {x : Nat} {A Z : Nat → Nat} {sr h d : Nat} {P : PS} {f : Nat → Option Nat} {tx : Nat → Int32} {fi : Nat → Option Nat} {sa : Nat → Nat}
/-- cells that are new change nothing -/
theorem CJ.grow (hc : CJ M x P A Z sr h d f tx fi) (hq : ∀ q, q < M.2.1 → M'.1 q = M.1 q) (hm : M.2.1 ≤ M'.2.1) (hf : ∀ q, M'.2.1 ≤ q → M'.1 q = none) : CJ M' x P A Z sr h d f tx fi := by
  have halt : ∀ i, i < 3 → A i < M.2.1 := fun i hi => hc.alt hi
  obtain ⟨c1, c2, c3, c4, c5, c6, c7, c8, c9, c10⟩ := hc
  have hk : ∀ {h1 d1 : Nat} {B : Nat → Nat} {f : Nat → Option Nat}, Hl M x h1 d1 B f → Hl M' x h1 d1 B f := fun hl => by
    have := hl.2.2.2.2.2
    exact hl.keep hm (hq _ (by omega)) (hq _ (by omega)) (fun a D hd => hq a hd.2.2)
  refine ⟨by rw [hq x (by omega)]; exact c1, hk c2, by rw [hq _ (by omega)]; exact c3, fun i hi => ?_, by rw [hq _ (by omega)]; exact c5, c6, c7, c8.kept (fun q a b => hq q (by omega)) (fun i hi => hq _ (halt i hi)) hm, by omega, hf⟩
  rcases c4 i hi with z | ⟨a, e, g, y1, y2, y3, y4⟩
  · exact Or.inl z
  · exact Or.inr ⟨a, e, g, y1, y2, hk y3, y4⟩
theorem ML.dr {sc : Nat → Int32} {lg : Nat → Int64} {ar : Nat → Nat → Int32} (hm : ML P sc lg ar) (dr : Nat → Int32) (a k s l : Nat) : ML P (scz sc a k s l) lg (updA ar 1 dr) := by
  obtain ⟨h1, h2, h3, h4, h5, h6, h7, h8, h9, h10, h11, h12⟩ := hm
  refine ⟨by rw [updA_n _ _ (by decide)]; exact h1, h2, h3, h4, h5, h6, by rw [updA_n _ _ (by decide)]; exact h7, by rw [updA_n _ _ (by decide)]; exact h8, by rw [updA_n _ _ (by decide)]; exact h9, by rw [updA_n _ _ (by decide)]; exact h10, ?_, ?_⟩
  · rw [updA_n _ _ (by decide), updA_n _ _ (by decide)]; exact h11
  · rw [updA_n _ _ (by decide), updA_n _ _ (by decide)]; exact h12
theorem S_read (hc : CJ M x P A Z sr h d f tx fi) (hZ : ZS sa) : St M x P A Z sr (f_X11_read sa x) (f_X12_read (x + 31)) := by
  have hm44 := hc.m44
  have hnone := hc.2.2.2.2.2.2.2.2.2
  have ht : TxM M (x + 4) tx P.2.2.2.2.1 P.2.1 := ⟨by omega, hc.2.2.2.2.1, hc.2.2.2.2.2.1, hc.2.2.2.2.2.2.1⟩
  have hL := ht.2.2.2
  have hR : ∀ {sc lg ar}, ML P sc lg ar → TxR sc ar P.2.2.2.2.1 P.2.1 := fun hm => ⟨hm.2.2.1, hm.2.2.2.1, hm.2.2.2.2.2.2.2.1⟩
  obtain ⟨Mi, ei, hGi⟩ := r_new (L := P.2.1) hnone ht.1
  have x1 : (zAdd M (.inr (7, [.null, .int 0, .null, .int 0, .int 0, .int 0, .int 0])) 7).1 x = some (.inr (11, xo x h (nI P.2.1) P.2.2.1.1 P.2.2.1.2 (P.2.2.2.1 0) (P.2.2.2.1 1) (P.2.2.2.1 2))) := by rw [zA_n _ _ _ (by omega)]; exact hc.1
  have a1 : zgN (zAdd M (.inr (7, [.null, .int 0, .null, .int 0, .int 0, .int 0, .int 0])) 7) x [11] 2 = some (x + 4) := by simp [zgN, zg, x1, xo]
  have a2 : zgI (zAdd M (.inr (7, [.null, .int 0, .null, .int 0, .int 0, .int 0, .int 0])) 7) x [11] 3 = some (nI P.2.1) := by simp [zgI, zg, x1, xo]
  have pre : ∀ M1, f_X7_readHill sa M.2.1 (rmk Mi M.2.1 (x + 4) (M.2.1 + 1) (-1) P.2.1 0 0 0) = some M1 → f_X11_read sa x M = (zgI M1 M.2.1 [7] 1).bind fun v2 => if v2 = (-1) then ((zgN M1 M.2.1 [7] 0).bind fun a2 => (zpR M1 x [11] 0 (some a2)).bind fun M2 => (zgN M2 x [11] 0).bind fun a3 => (zgI M2 a3 [2] 6).bind fun v3 => some (v3, M2)) else ((zgI M1 M.2.1 [7] 1).bind fun v4 => some ((-10) - v4, M1)) := fun M1 hM1 => by
    rw [f_X11_read, zlet, a1, Option.bind_some, a2, Option.bind_some, ei, Option.bind_some, rm_ob, Option.bind_some, hM1, Option.bind_some]
  rcases r_hill (m := x + 31) ht hZ hGi with ⟨M', B', f', p', e, hG, hr⟩ | ⟨M', q, e, hF, q2, hr⟩
  · have hF := hG.rdf
    have g1 : zgI (rat M' M.2.1 (x + 4) (M.2.1 + 1) P.2.2.2.2.1 P.2.1 p' (-1)) M.2.1 [7] 1 = some (-1) := rm_g1
    have g0 : zgN (rat M' M.2.1 (x + 4) (M.2.1 + 1) P.2.2.2.2.1 P.2.1 p' (-1)) M.2.1 [7] 0 = some (M.2.1 + 1) := rm_g0
    obtain ⟨Mr, hMr⟩ : ∃ Mr, Mr = rat M' M.2.1 (x + 4) (M.2.1 + 1) P.2.2.2.2.1 P.2.1 p' (-1) := ⟨_, rfl⟩
    have hFr : RdF M Mr := by rw [hMr]; exact hF.set (Nat.le_refl _) (by have := hF.2.1; omega) _
    rw [← hMr] at e g1 g0
    obtain ⟨w1, w2, w3, w4, w5, w6, w7, w8, w9, w10⟩ := hG
    have mr : Mr.2 = M'.2 := by rw [hMr]; rfl
    have mr1 : Mr.2.1 = M.2.1 + 3 + B' 6 := by rw [mr]; exact w3
    have ro : ∀ q, q ≠ M.2.1 → Mr.1 q = M'.1 q := fun q hq => by rw [hMr]; exact rat_out hq
    have hnd := w7.nd
    have xr : Mr.1 x = some (.inr (11, xo x h (nI P.2.1) P.2.2.1.1 P.2.2.1.2 (P.2.2.2.1 0) (P.2.2.2.1 1) (P.2.2.2.1 2))) := by rw [hFr.1 x (by omega)]; exact hc.1
    obtain ⟨M2, hM2⟩ : ∃ M2, M2 = zSet Mr x (.inr (11, xo x (M.2.1 + 1) (nI P.2.1) P.2.2.1.1 P.2.2.1.2 (P.2.2.2.1 0) (P.2.2.2.1 1) (P.2.2.2.1 2))) := ⟨_, rfl⟩
    have pR : zpR Mr x [11] 0 (some (M.2.1 + 1)) = some M2 := by rw [zpR, zp_at xr, hM2]; rfl
    have m2 : M2.2 = Mr.2 := by rw [hM2]; rfl
    have m21 : M2.2.1 = M.2.1 + 3 + B' 6 := by rw [m2]; exact mr1
    have o2 : ∀ q, q ≠ x → M2.1 q = Mr.1 q := fun q hq => by rw [hM2]; exact zS_n _ _ hq
    have xx : M2.1 x = some (.inr (11, xo x (M.2.1 + 1) (nI P.2.1) P.2.2.1.1 P.2.2.1.2 (P.2.2.2.1 0) (P.2.2.2.1 1) (P.2.2.2.1 2))) := by rw [hM2]; exact zS_s _ _ _
    have lo : ∀ q, q < M.2.1 → q ≠ x → M2.1 q = M.1 q := fun q h1 h2 => by rw [o2 q h2, hFr.1 q h1]
    have t2 : M2.1 (M.2.1 + 1) = some (.inr (2, ho (nB B') (M.2.1 + 2))) := by rw [o2 _ (by omega), ro _ (by omega)]; exact w5
    have hF11 : f_X11_read sa x M = some (nI (B' 6), M2) := by
      rw [pre Mr e, g1, Option.bind_some, if_pos rfl, g0, Option.bind_some, pR, Option.bind_some, c_h xx, Option.bind_some, (c_g t2).2.2.2.2.2.2.1, Option.bind_some]
    have halt : ∀ i, i < 3 → A i < M.2.1 := fun i hi => hc.alt hi
    obtain ⟨c1, c2, c3, c4, c5, c6, c7, c8, c9, c10⟩ := hc
    have hk : ∀ {h1 d1 : Nat} {B : Nat → Nat} {f : Nat → Option Nat}, Hl M x h1 d1 B f → Hl M2 x h1 d1 B f := fun hl => by
      have := hl.2.2.2.2.2
      exact hl.keep (by omega) (lo _ (by omega) (by omega)) (lo _ (by omega) (by omega)) (fun a D hd => lo a hd.2.2 (by have := hd.2.1; omega))
    have dgs : ∀ k, k < B' 6 → f' k = some (M.2.1 + 3 + k) ∧ Dg M2 x (M.2.1 + 3 + k) (dg B' k) := fun k hk => by
      obtain ⟨k1, k2⟩ := w9 k hk
      exact ⟨k1, by rw [o2 _ (by omega), ro _ (by omega)]; exact k2, by omega, by omega⟩
    have hnew : Hl M2 x (M.2.1 + 1) (M.2.1 + 2) B' f' := by
      refine ⟨t2, w7, by rw [o2 _ (by omega), ro _ (by omega)]; exact w6, fun k hk => ⟨_, dgs k hk⟩, fun k hk a ha => ?_, Or.inr (by omega), Or.inr (by omega), by omega, by omega⟩
      by_cases z : k < B' 6
      · obtain ⟨k1, k2⟩ := dgs k z
        rw [k1] at ha
        cases ha
        exact ⟨dg B' k, (w7.dw k z).1, k2⟩
      · rw [w10 k (by omega)] at ha
        cases ha
    refine ⟨nI (B' 6), M2, (B', P.2), A, Z, sr, hF11, ⟨M.2.1 + 1, M.2.1 + 2, f', tx, fi, xx, hnew, by rw [lo _ (by omega) (by omega)]; exact c3, fun j hj => ?_, by rw [lo _ (by omega) (by omega)]; exact c5, c6, c7, c8.kept (fun q a b => lo q (by omega) (by omega)) (fun i hi => lo _ (halt i hi) (by have := c8.2.2.2.2.2.2.2 i hi; omega)) (by omega), by omega, fun q hq => ?_⟩, fun q q1 q2 => lo q (by omega) (by omega), ⟨by omega, ?_, by omega⟩, fun N sc lg ar en hm => ?_⟩
    · rcases c4 j hj with z | ⟨a, e, g, y1, y2, y3, y4⟩
      · exact Or.inl z
      · have := y3.2.2.2.2.2.2.2
        exact Or.inr ⟨a, e, g, y1, y2, hk y3, by omega, by omega⟩
    · rw [o2 q (by omega)]
      exact hFr.2.2.2.2 q (by rw [mr1]; omega)
    · have := hFr.2.2.2.1
      rw [m2]
      omega
    · obtain ⟨dr, r1, r2⟩ := hr N sc lg ar en (hR hm)
      obtain ⟨g, gd, ge⟩ := rf_done (N := N) (m := x + 31) (lg := lg) (ar := updA ar 1 dr) (en := en) (sc := scz sc (tkE P.2.2.2.2.1 P.2.1 p') (tkK P.2.2.2.2.1 P.2.1 p') (tkS P.2.2.2.2.1 P.2.1 p') (tkE P.2.2.2.2.1 P.2.1 p' - tkS P.2.2.2.2.1 P.2.1 p'))
      have gB : Bk g B' := fun k hk => by rw [gd k hk, updA_s]; exact r2 k hk
      refine ⟨_, lg, _, en, ?_, (hm.dr dr (tkE P.2.2.2.2.1 P.2.1 p') (tkK P.2.2.2.2.1 P.2.1 p') (tkS P.2.2.2.2.1 P.2.1 p') (tkE P.2.2.2.2.1 P.2.1 p' - tkS P.2.2.2.2.1 P.2.1 p')).book gB w7⟩
      rw [f_X12_read, mm_ob, Option.bind_some, r1, Option.bind_some, if_neg one0, ← gB 6 (by omega)]
      exact ge
  · have hs := tkS_le (T := P.2.2.2.2.1) q2
    have g1 : zgI (rat M' M.2.1 (x + 4) (M.2.1 + 1) P.2.2.2.2.1 P.2.1 q (nI (tkS P.2.2.2.2.1 P.2.1 q))) M.2.1 [7] 1 = some (nI (tkS P.2.2.2.2.1 P.2.1 q)) := rm_g1
    obtain ⟨Mr, hMr⟩ : ∃ Mr, Mr = rat M' M.2.1 (x + 4) (M.2.1 + 1) P.2.2.2.2.1 P.2.1 q (nI (tkS P.2.2.2.2.1 P.2.1 q)) := ⟨_, rfl⟩
    have hFr : RdF M Mr := by rw [hMr]; exact hF.set (Nat.le_refl _) (by have := hF.2.1; omega) _
    rw [← hMr] at e g1
    obtain ⟨r1, r2, r3, r4, r5⟩ := hFr
    refine ⟨(-10) - nI (tkS P.2.2.2.2.1 P.2.1 q), Mr, P, A, Z, sr, ?_, (hc.grow r1 (by omega) r5).ci, fun q q1 q2 => r1 q (by omega), ⟨by omega, by omega, by omega⟩, fun N sc lg ar en hm => ?_⟩
    · rw [pre Mr e, g1, Option.bind_some, if_neg (nI_m1 (by omega)), Option.bind_some]
    · obtain ⟨dr, d1⟩ := hr N sc lg ar en (hR hm)
      refine ⟨_, lg, _, en, ?_, hm.dr dr (tkE P.2.2.2.2.1 P.2.1 q) (tkK P.2.2.2.2.1 P.2.1 q) (tkS P.2.2.2.2.1 P.2.1 q) (tkE P.2.2.2.2.1 P.2.1 q - tkS P.2.2.2.2.1 P.2.1 q)⟩
      rw [f_X12_read, mm_ob, Option.bind_some, d1, Option.bind_some, if_pos rfl, raf_g11, Option.bind_some]
      rfl
end SR
