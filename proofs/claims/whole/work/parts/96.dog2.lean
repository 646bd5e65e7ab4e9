/-! a dog that is told: both sides -/
section DG
variable {N : zMe} {m : Nat} {sc : Nat → Int32} {lg : Nat → Int64} {ar : Nat → Nat → Int32} {en : Nat → Int64} {L p n dd : Nat} {T : Nat → Int32} {dr : Nat → Int32}
theorem rg_dl (h : TxR sc ar T L) (hp : p ≤ L) (hn : n ≤ 5) (hd0 : dr 0 = nI n) (hdd : dd ≤ 19) {y i F fu : Nat} (hF : F = fu + 1) (hy : y ≤ 1) (hi : i < 3 + 2 * y) {b : Nat → Nat} (hb : RwA T L n (tkE T L p) b) : f_X12_readsDog_b67 F m (nI dd) (nI y) (nI i) (raf N m sc lg (updA ar 1 dr) en T L p) = f_X12_readsDog_b67 fu m (nI dd) (nI y) (nI (i + 1)) (raf N m sc lg (updA ar 1 (upd dr (dd + i) (nI (rwz b n)))) en T L (tkE T L p)) := by
  have e : f_X12_readsDog_b67 F m (nI dd) (nI y) (nI i) (raf N m sc lg (updA ar 1 dr) en T L p) = _ := rf_dl (h.dr dr) (tkE_le hp).2.1 hn (by rw [updA_s]; exact hd0) hdd hF hy hi hb
  rw [e, updA_s, updA_A]
theorem rg_dlX (h : TxR sc ar T L) (hp : p ≤ L) (hn : n ≤ 5) (hd0 : dr 0 = nI n) {y i F fu : Nat} (hF : F = fu + 1) (hy : y ≤ 1) (hi : i < 3 + 2 * y) (hb : ∀ b, ¬ RwA T L n (tkE T L p) b) : f_X12_readsDog_b67 F m (nI dd) (nI y) (nI i) (raf N m sc lg (updA ar 1 dr) en T L p) = some (0, raf N m sc lg (updA ar 1 dr) en T L (tkE T L p)) :=
  rf_dlX (h.dr dr) (tkE_le hp).2.1 hn (by rw [updA_s]; exact hd0) hF hy hi hb
theorem rg_dE0 {F fu : Nat} (hF : F = fu + 1) : f_X12_readsDog_b67 F m (nI dd) (nI 0) (nI 3) (raf N m sc lg (updA ar 1 dr) en T L p) = some (1, raf N m sc lg (updA ar 1 (upd dr 6 (dr 6 + 1))) en T L p) := by
  rw [rf_dE0 hF, updA_s, updA_A]
theorem rg_dE1 (h : TxR sc ar T L) (hp : p ≤ L) (hdd : dd ≤ 19) {F fu : Nat} (hF : F = fu + 1) {v : Nat} (hv : NmA T L (tkE T L p) v) (hv1 : 1 ≤ v) (hv3 : v ≤ 3) : f_X12_readsDog_b67 F m (nI dd) (nI 1) (nI 5) (raf N m sc lg (updA ar 1 dr) en T L p) = some (1, raf N m sc lg (updA ar 1 (upd (upd dr (dd + 5) (nI v)) 6 (upd dr (dd + 5) (nI v) 6 + 1))) en T L (tkE T L p)) := by
  have e : f_X12_readsDog_b67 F m (nI dd) (nI 1) (nI 5) (raf N m sc lg (updA ar 1 dr) en T L p) = _ := rf_dE1 (h.dr dr) (tkE_le hp).2.1 hdd hF hv hv1 hv3
  rw [e, updA_s, updA_A]
theorem rg_dE1X (h : TxR sc ar T L) (hp : p ≤ L) {F fu : Nat} (hF : F = fu + 1) (hv : ∀ v, NmA T L (tkE T L p) v → v < 1 ∨ 3 < v) : f_X12_readsDog_b67 F m (nI dd) (nI 1) (nI 5) (raf N m sc lg (updA ar 1 dr) en T L p) = some (0, raf N m sc lg (updA ar 1 dr) en T L (tkE T L p)) :=
  rf_dE1X (h.dr dr) (tkE_le hp).2.1 hF hv
end DG
/-- the class's end of a dog -/
def rdU (x0 : Nat) (k r0 r1 s0 s1 l : Int32) (M : zMe) : Option zMe :=
  (zgN M x0 [7] 0).bind fun a1 => (f_X11_bredLearning k r0 r1 s0 s1 l M).bind fun q8 => zcase q8.1 none fun a2 => (zob q8.2 a1 2).bind fun _ => (f_X2_addDog a1 a2 q8.2).bind fun q9 => some q9.2
def rdV (x0 : Nat) (k r0 r1 : Int32) (M : zMe) : Option zMe :=
  (zgN M x0 [7] 0).bind fun a3 => (f_X11_bred k r0 r1 M).bind fun q10 => zcase q10.1 none fun a4 => (zob q10.2 a3 2).bind fun _ => (f_X2_addDog a3 a4 q10.2).bind fun q11 => some q11.2
def rdT (x0 : Nat) (k r0 r1 : Int32) (M : zMe) : Option zMe :=
  (f_X11_isRowsKind k M).bind fun q4 =>
  if q4.1 = 0 then (
    (zob q4.2 x0 7).bind fun _ =>
    (f_X7_takeRow x0 q4.2).bind fun q5 =>
    (zob q5.2 x0 7).bind fun _ =>
    (f_X7_takeRow x0 q5.2).bind fun q6 =>
    (zob q6.2 x0 7).bind fun _ =>
    (f_X7_takeNumber x0 1 3 q6.2).bind fun q7 => rdU x0 k r0 r1 q5.1 q6.1 q7.1 q7.2)
  else rdV x0 k r0 r1 q4.2
theorem rd_eq (x0 : Nat) (M : zMe) : f_X7_readDog x0 M = (zob M x0 7).bind fun _ => (f_X7_takeNumber x0 0 4 M).bind fun q1 => (zob q1.2 x0 7).bind fun _ => (f_X7_takeRow x0 q1.2).bind fun q2 => (zob q2.2 x0 7).bind fun _ => (f_X7_takeRow x0 q2.2).bind fun q3 => rdT x0 q1.1 q2.1 q3.1 q3.2 := rfl
section DD
variable {M0 M : zMe} {x4 : Nat} {L p m : Nat} {T tx : Nat → Int32} {B : Nat → Nat} {f : Nat → Option Nat} {ft : Int32}
theorem r_V (hG : RdG M0 M B f) (h3 : B 6 < 3) {k r0 r1 : Nat} (hk : k = 0 ∨ k = 1 ∨ k = 4) : rdV M0.2.1 (nI k) (nI r0) (nI r1) (rat M M0.2.1 x4 (M0.2.1 + 1) T L p ft) = some (rat (dgM M0 M B f (mkD k r0 r1 0 0 0) 3) M0.2.1 x4 (M0.2.1 + 1) T L p ft) := r_fin3 hG h3 hk
theorem r_U (hG : RdG M0 M B f) (h3 : B 6 < 3) {k r0 r1 s0 s1 l : Nat} (hk : k = 2 ∨ k = 3) : rdU M0.2.1 (nI k) (nI r0) (nI r1) (nI s0) (nI s1) (nI l) (rat M M0.2.1 x4 (M0.2.1 + 1) T L p ft) = some (rat (dgM M0 M B f (mkD k r0 r1 s0 s1 l) 6) M0.2.1 x4 (M0.2.1 + 1) T L p ft) := r_fin6 hG h3 hk
theorem ck_3 {k : Nat} (hk : k = 0 ∨ k = 1 ∨ k = 4) : ¬ ckind (nI k) = 0 := by rcases hk with rfl | rfl | rfl <;> decide
theorem ck_6 {k : Nat} (hk : k = 2 ∨ k = 3) : ckind (nI k) = 0 := by rcases hk with rfl | rfl <;> decide
/-- behind a fault the rest stands still -/
theorem r_TF (hT : Txt M x4 M0.2.1 tx T L) (hG : RdG M0 M B f) (h3 : B 6 < 3) (hp : p ≤ L) (hf : ft ≠ -1) {k : Nat} (hk : k ≤ 4) (r0 r1 : Nat) : ∃ M', rdT M0.2.1 (nI k) (nI r0) (nI r1) (rat M M0.2.1 x4 (M0.2.1 + 1) T L p ft) = some (rat M' M0.2.1 x4 (M0.2.1 + 1) T L p ft) ∧ RdF M0 M' := by
  have ob : zob (rat M M0.2.1 x4 (M0.2.1 + 1) T L p ft) M0.2.1 7 = some () := rm_ob
  rw [rdT, c_rowsKind, Option.bind_some]
  by_cases c : k = 0 ∨ k = 1 ∨ k = 4
  · rw [if_neg (ck_3 c), r_V hG h3 c]
    exact ⟨_, rfl, hG.dogF h3 _ (by omega)⟩
  · have c' : k = 2 ∨ k = 3 := by omega
    obtain ⟨v, ev⟩ := r_rowF (ft := ft) hT (Nat.succ_ne_self _) hG.2.2.2.2.1 hG.2.2.2.2.2.2.1.n5 hp hf
    obtain ⟨w, w1, w2, ew⟩ := r_numF (M := M) (to := M0.2.1 + 1) hT hp hf (lo := 1) (hi := 3) (by omega) (by omega)
    have ew : f_X7_takeNumber M0.2.1 1 3 (rat M M0.2.1 x4 (M0.2.1 + 1) T L p ft) = _ := ew
    rw [if_pos (ck_6 c'), ob, Option.bind_some, ev, Option.bind_some, ob, Option.bind_some, ev, Option.bind_some, ob, Option.bind_some, ew, Option.bind_some, r_U hG h3 c']
    exact ⟨_, rfl, hG.dogF h3 _ (by omega)⟩
set_option maxHeartbeats 1000000 in
theorem a_dog (ht : TxM M0 x4 tx T L) (hG : RdG M0 M B f) (hp : p ≤ L) (h3 : B 6 < 3) : ArgO M0 x4 T L m B 5 p (f_X7_readDog M0.2.1 (rat M M0.2.1 x4 (M0.2.1 + 1) T L p (-1))) := by
  have hF := hG.rdf
  have hT := hF.txt ht
  have hL := ht.2.2.2
  have hh := hG.2.2.2.2.1
  have hW := hG.2.2.2.2.2.2.1
  have hz := hG.2.2.2.2.2.2.2.1
  have hn5 := hW.n5
  have ob : ∀ q (ft : Int32), zob (rat M M0.2.1 x4 (M0.2.1 + 1) T L q ft) M0.2.1 7 = some () := fun _ _ => rm_ob
  have rF : ∀ q (ft : Int32), q ≤ L → ft ≠ -1 → ∃ v, f_X7_takeRow M0.2.1 (rat M M0.2.1 x4 (M0.2.1 + 1) T L q ft) = some (nI v, rat M M0.2.1 x4 (M0.2.1 + 1) T L q ft) := fun q ft hq hf => r_rowF (ft := ft) hT (Nat.succ_ne_self _) hh hn5 hq hf
  obtain ⟨F0, hfu⟩ : ∃ F0, zfu = F0 + 6 := ⟨999994, rfl⟩
  rw [rd_eq, ob, Option.bind_some]
  have s0 := tkS_le (T := T) hp
  have e0 := tkE_le (T := T) hp
  rcases nm_case T L p 0 4 with ⟨kd, nk, -, k4⟩ | hx
  · have t0 : f_X7_takeNumber M0.2.1 0 4 (rat M M0.2.1 x4 (M0.2.1 + 1) T L p (-1)) = some (nI kd, rat M M0.2.1 x4 (M0.2.1 + 1) T L (tkE T L p) (-1)) := r_numS (lo := 0) (hi := 4) hT hp nk (Nat.zero_le _) k4 (by omega)
    have hy : yng kd ≤ 1 := by unfold yng; split <;> omega
    have eK : ∀ {N sc lg ar en k s l}, TxR sc ar T L → Bk (ar 1) B → f_X12_readsDog m (rfm N m sc lg ar en p k s l) = f_X12_readsDog_b67 (F0 + 6) m (nI (7 + 6 * B 6)) (nI (yng kd)) (nI 1) (raf N m sc lg (updA ar 1 (upd (ar 1) (7 + 6 * B 6) (nI kd))) en T L p) := fun hR hB => by rw [rf_dK hR hp (hB 6 (by omega)) h3 nk k4, hfu]
    obtain ⟨p1, hp1⟩ : ∃ p1, p1 = tkE T L p := ⟨_, rfl⟩
    have l1 : p1 ≤ L := by rw [hp1]; exact e0.2.1
    have s1 := tkS_le (T := T) l1
    have e1 := tkE_le (T := T) l1
    rw [t0, Option.bind_some, ob, Option.bind_some, ← hp1]
    rcases r_rowC hT hG l1 with ⟨b1, hb1, t1⟩ | ⟨hx, t1⟩
    · obtain ⟨p2, hp2⟩ : ∃ p2, p2 = tkE T L p1 := ⟨_, rfl⟩
      have l2 : p2 ≤ L := by rw [hp2]; exact e1.2.1
      have s2 := tkS_le (T := T) l2
      have e2 := tkE_le (T := T) l2
      rw [t1, Option.bind_some, ob, Option.bind_some, ← hp2]
      have eL1 : ∀ {N sc lg ar en k s l}, TxR sc ar T L → Bk (ar 1) B → f_X12_readsDog m (rfm N m sc lg ar en p k s l) = f_X12_readsDog_b67 (F0 + 5) m (nI (7 + 6 * B 6)) (nI (yng kd)) (nI 2) (raf N m sc lg (updA ar 1 (upd (upd (ar 1) (7 + 6 * B 6) (nI kd)) (7 + 6 * B 6 + 1) (nI (rwz b1 (B 0))))) en T L p1) := fun hR hB => by
        rw [hp1]
        exact (eK hR hB).trans (rg_dl (i := 1) hR hp hn5 (by rw [up_n _ _ (by omega)]; exact hB 0 (by omega)) (by omega) rfl hy (by omega) (by rw [← hp1]; exact hb1))
      rcases r_rowC hT hG l2 with ⟨b2, hb2, t2⟩ | ⟨hx, t2⟩
      · obtain ⟨p3, hp3⟩ : ∃ p3, p3 = tkE T L p2 := ⟨_, rfl⟩
        have l3 : p3 ≤ L := by rw [hp3]; exact e2.2.1
        have s3 := tkS_le (T := T) l3
        have e3 := tkE_le (T := T) l3
        have eL2 : ∀ {N sc lg ar en k s l}, TxR sc ar T L → Bk (ar 1) B → f_X12_readsDog m (rfm N m sc lg ar en p k s l) = f_X12_readsDog_b67 (F0 + 4) m (nI (7 + 6 * B 6)) (nI (yng kd)) (nI 3) (raf N m sc lg (updA ar 1 (upd (upd (upd (ar 1) (7 + 6 * B 6) (nI kd)) (7 + 6 * B 6 + 1) (nI (rwz b1 (B 0)))) (7 + 6 * B 6 + 2) (nI (rwz b2 (B 0))))) en T L p2) := fun hR hB => by
          rw [hp2]
          exact (eL1 hR hB).trans (rg_dl (i := 2) hR l1 hn5 (by rw [up_n _ _ (by omega), up_n _ _ (by omega)]; exact hB 0 (by omega)) (by omega) rfl hy (by omega) (by rw [← hp2]; exact hb2))
        rw [t2, Option.bind_some, ← hp3, rdT, c_rowsKind, Option.bind_some]
        by_cases c : kd = 0 ∨ kd = 1 ∨ kd = 4
        · have y0 : yng kd = 0 := by unfold yng; rw [if_neg (by omega)]
          have hD : DW (B 0) (mkD kd (rwz b1 (B 0)) (rwz b2 (B 0)) 0 0 0) := by
            refine ⟨k4, rwA_ok hn5 hb1, rwA_ok hn5 hb2, fun o => ?_, fun _ => ⟨rfl, rfl, rfl⟩⟩
            have o' : kd = 2 ∨ kd = 3 := o
            omega
          rw [if_neg (ck_3 c), r_V hG h3 c]
          refine Or.inl ⟨_, _, _, p3, rfl, hG.dog h3 hD (by omega), by omega, l3, fun N sc lg ar en k s l hR hB => ?_⟩
          have e := (eL2 (N := N) (lg := lg) (en := en) (k := k) (s := s) (l := l) hR hB)
          rw [y0, rg_dE0 (fu := F0 + 3) rfl] at e
          have e6 : upd (upd (upd (ar 1) (7 + 6 * B 6) (nI kd)) (7 + 6 * B 6 + 1) (nI (rwz b1 (B 0)))) (7 + 6 * B 6 + 2) (nI (rwz b2 (B 0))) 6 = ar 1 6 := by rw [up_n _ _ (by omega), up_n _ _ (by omega), up_n _ _ (by omega)]
          rw [e6] at e
          refine ⟨_, tkK T L p2, tkS T L p2, tkE T L p2 - tkS T L p2, ?_, Bk_dog3 hB hz _ _ _⟩
          rw [hp3]
          exact rf_i5 (Or.inr rfl) e
        · have c' : kd = 2 ∨ kd = 3 := by omega
          have y1 : yng kd = 1 := by unfold yng; rw [if_pos c']
          rw [if_pos (ck_6 c'), ob, Option.bind_some]
          rcases r_rowC hT hG l3 with ⟨b3, hb3, t3⟩ | ⟨hx, t3⟩
          · obtain ⟨p4, hp4⟩ : ∃ p4, p4 = tkE T L p3 := ⟨_, rfl⟩
            have l4 : p4 ≤ L := by rw [hp4]; exact e3.2.1
            have s4 := tkS_le (T := T) l4
            have e4 := tkE_le (T := T) l4
            have eL3 : ∀ {N sc lg ar en k s l}, TxR sc ar T L → Bk (ar 1) B → f_X12_readsDog m (rfm N m sc lg ar en p k s l) = f_X12_readsDog_b67 (F0 + 3) m (nI (7 + 6 * B 6)) (nI (yng kd)) (nI 4) (raf N m sc lg (updA ar 1 (upd (upd (upd (upd (ar 1) (7 + 6 * B 6) (nI kd)) (7 + 6 * B 6 + 1) (nI (rwz b1 (B 0)))) (7 + 6 * B 6 + 2) (nI (rwz b2 (B 0)))) (7 + 6 * B 6 + 3) (nI (rwz b3 (B 0))))) en T L p3) := fun hR hB => by
              rw [hp3]
              exact (eL2 hR hB).trans (rg_dl (i := 3) hR l2 hn5 (by rw [up_n _ _ (by omega), up_n _ _ (by omega), up_n _ _ (by omega)]; exact hB 0 (by omega)) (by omega) rfl hy (by omega) (by rw [← hp3]; exact hb3))
            rw [t3, Option.bind_some, ob, Option.bind_some, ← hp4]
            rcases r_rowC hT hG l4 with ⟨b4, hb4, t4⟩ | ⟨hx, t4⟩
            · obtain ⟨p5, hp5⟩ : ∃ p5, p5 = tkE T L p4 := ⟨_, rfl⟩
              have l5 : p5 ≤ L := by rw [hp5]; exact e4.2.1
              have s5 := tkS_le (T := T) l5
              have e5 := tkE_le (T := T) l5
              have eL4 : ∀ {N sc lg ar en k s l}, TxR sc ar T L → Bk (ar 1) B → f_X12_readsDog m (rfm N m sc lg ar en p k s l) = f_X12_readsDog_b67 (F0 + 2) m (nI (7 + 6 * B 6)) (nI (yng kd)) (nI 5) (raf N m sc lg (updA ar 1 (upd (upd (upd (upd (upd (ar 1) (7 + 6 * B 6) (nI kd)) (7 + 6 * B 6 + 1) (nI (rwz b1 (B 0)))) (7 + 6 * B 6 + 2) (nI (rwz b2 (B 0)))) (7 + 6 * B 6 + 3) (nI (rwz b3 (B 0)))) (7 + 6 * B 6 + 4) (nI (rwz b4 (B 0))))) en T L p4) := fun hR hB => by
                rw [hp4]
                exact (eL3 hR hB).trans (rg_dl (i := 4) hR l3 hn5 (by rw [up_n _ _ (by omega), up_n _ _ (by omega), up_n _ _ (by omega), up_n _ _ (by omega)]; exact hB 0 (by omega)) (by omega) rfl hy (by omega) (by rw [← hp4]; exact hb4))
              rw [t4, Option.bind_some, ob, Option.bind_some, ← hp5]
              rcases nm_case T L p5 1 3 with ⟨v, nv, v1, v3⟩ | hx
              · have t5 : f_X7_takeNumber M0.2.1 1 3 (rat M M0.2.1 x4 (M0.2.1 + 1) T L p5 (-1)) = some (nI v, rat M M0.2.1 x4 (M0.2.1 + 1) T L (tkE T L p5) (-1)) := r_numS (lo := 1) (hi := 3) hT l5 nv v1 v3 (by omega)
                have hD : DW (B 0) (mkD kd (rwz b1 (B 0)) (rwz b2 (B 0)) (rwz b3 (B 0)) (rwz b4 (B 0)) v) := ⟨k4, rwA_ok hn5 hb1, rwA_ok hn5 hb2, fun _ => ⟨rwA_ok hn5 hb3, rwA_ok hn5 hb4, v1, v3⟩, fun o => absurd c' o⟩
                rw [t5, Option.bind_some, r_U hG h3 c']
                refine Or.inl ⟨_, _, _, tkE T L p5, rfl, hG.dog h3 hD (by omega), by omega, e5.2.1, fun N sc lg ar en k s l hR hB => ?_⟩
                have e := (eL4 (N := N) (lg := lg) (en := en) (k := k) (s := s) (l := l) hR hB)
                rw [y1, rg_dE1 (fu := F0 + 1) hR l4 (by omega) rfl (by rw [← hp5]; exact nv) v1 v3] at e
                have e6 : upd (upd (upd (upd (upd (upd (ar 1) (7 + 6 * B 6) (nI kd)) (7 + 6 * B 6 + 1) (nI (rwz b1 (B 0)))) (7 + 6 * B 6 + 2) (nI (rwz b2 (B 0)))) (7 + 6 * B 6 + 3) (nI (rwz b3 (B 0)))) (7 + 6 * B 6 + 4) (nI (rwz b4 (B 0)))) (7 + 6 * B 6 + 5) (nI v) 6 = ar 1 6 := by rw [up_n _ _ (by omega), up_n _ _ (by omega), up_n _ _ (by omega), up_n _ _ (by omega), up_n _ _ (by omega), up_n _ _ (by omega)]
                rw [e6, ← hp5] at e
                exact ⟨_, tkK T L p5, tkS T L p5, tkE T L p5 - tkS T L p5, rf_i5 (Or.inr rfl) e, Bk_dog6 hB _ _ _ _ _ _⟩
              · have t5 : f_X7_takeNumber M0.2.1 1 3 (rat M M0.2.1 x4 (M0.2.1 + 1) T L p5 (-1)) = some (nI 1, rat M M0.2.1 x4 (M0.2.1 + 1) T L p5 (nI (tkS T L p5))) := r_numB (lo := 1) (hi := 3) hT l5 hx (by omega) (by omega)
                rw [t5, Option.bind_some, r_U hG h3 c']
                refine Or.inr ⟨_, p5, rfl, hG.dogF h3 _ (by omega), l5, fun N sc lg ar en k s l hR hB => ?_⟩
                · have e := (eL4 (N := N) (lg := lg) (en := en) (k := k) (s := s) (l := l) hR hB)
                  rw [y1, rg_dE1X (fu := F0 + 1) hR l4 rfl (by rw [← hp5]; exact hx), ← hp5] at e
                  exact ⟨_, rf_i5 (Or.inl rfl) e⟩
            · have hf : nI (tkS T L p4) ≠ -1 := nI_m1 (by omega)
              obtain ⟨w, w1, w2, ew⟩ := r_numF (M := M) (to := M0.2.1 + 1) hT l4 hf (lo := 1) (hi := 3) (by omega) (by omega)
              have ew : f_X7_takeNumber M0.2.1 1 3 (rat M M0.2.1 x4 (M0.2.1 + 1) T L p4 (nI (tkS T L p4))) = _ := ew
              rw [t4, Option.bind_some, ob, Option.bind_some, ew, Option.bind_some, r_U hG h3 c']
              refine Or.inr ⟨_, p4, rfl, hG.dogF h3 _ (by omega), l4, fun N sc lg ar en k s l hR hB => ?_⟩
              · have e := (eL3 (N := N) (lg := lg) (en := en) (k := k) (s := s) (l := l) hR hB)
                rw [rg_dlX (i := 4) (fu := F0 + 2) hR l3 hn5 (by rw [up_n _ _ (by omega), up_n _ _ (by omega), up_n _ _ (by omega), up_n _ _ (by omega)]; exact hB 0 (by omega)) rfl hy (by omega) (by rw [← hp4]; exact hx), ← hp4] at e
                exact ⟨_, rf_i5 (Or.inl rfl) e⟩
          · have hf : nI (tkS T L p3) ≠ -1 := nI_m1 (by omega)
            obtain ⟨v, ev⟩ := rF p3 _ l3 hf
            obtain ⟨w, w1, w2, ew⟩ := r_numF (M := M) (to := M0.2.1 + 1) hT l3 hf (lo := 1) (hi := 3) (by omega) (by omega)
            have ew : f_X7_takeNumber M0.2.1 1 3 (rat M M0.2.1 x4 (M0.2.1 + 1) T L p3 (nI (tkS T L p3))) = _ := ew
            rw [t3, Option.bind_some, ob, Option.bind_some, ev, Option.bind_some, ob, Option.bind_some, ew, Option.bind_some, r_U hG h3 c']
            refine Or.inr ⟨_, p3, rfl, hG.dogF h3 _ (by omega), l3, fun N sc lg ar en k s l hR hB => ?_⟩
            · have e := (eL2 (N := N) (lg := lg) (en := en) (k := k) (s := s) (l := l) hR hB)
              rw [rg_dlX (i := 3) (fu := F0 + 3) hR l2 hn5 (by rw [up_n _ _ (by omega), up_n _ _ (by omega), up_n _ _ (by omega)]; exact hB 0 (by omega)) rfl hy (by omega) (by rw [← hp3]; exact hx), ← hp3] at e
              exact ⟨_, rf_i5 (Or.inl rfl) e⟩
      · have hf : nI (tkS T L p2) ≠ -1 := nI_m1 (by omega)
        obtain ⟨M', eT, hM'⟩ := r_TF hT hG h3 l2 hf k4 (rwz b1 (B 0)) 0
        rw [t2, Option.bind_some, eT]
        refine Or.inr ⟨_, p2, rfl, hM', l2, fun N sc lg ar en k s l hR hB => ?_⟩
        · have e := (eL1 (N := N) (lg := lg) (en := en) (k := k) (s := s) (l := l) hR hB)
          rw [rg_dlX (i := 2) (fu := F0 + 4) hR l1 hn5 (by rw [up_n _ _ (by omega), up_n _ _ (by omega)]; exact hB 0 (by omega)) rfl hy (by omega) (by rw [← hp2]; exact hx), ← hp2] at e
          exact ⟨_, rf_i5 (Or.inl rfl) e⟩
    · have hf : nI (tkS T L p1) ≠ -1 := nI_m1 (by omega)
      obtain ⟨v, ev⟩ := rF p1 _ l1 hf
      obtain ⟨M', eT, hM'⟩ := r_TF hT hG h3 l1 hf k4 0 v
      rw [t1, Option.bind_some, ob, Option.bind_some, ev, Option.bind_some, eT]
      refine Or.inr ⟨_, p1, rfl, hM', l1, fun N sc lg ar en k s l hR hB => ?_⟩
      · have e := (eK (N := N) (lg := lg) (en := en) (k := k) (s := s) (l := l) hR hB)
        rw [rg_dlX (i := 1) (fu := F0 + 5) hR hp hn5 (by rw [up_n _ _ (by omega)]; exact hB 0 (by omega)) rfl hy (by omega) (by rw [← hp1]; exact hx), ← hp1] at e
        exact ⟨_, rf_i5 (Or.inl rfl) e⟩
  · have hf : nI (tkS T L p) ≠ -1 := nI_m1 (by omega)
    have t0 : f_X7_takeNumber M0.2.1 0 4 (rat M M0.2.1 x4 (M0.2.1 + 1) T L p (-1)) = some (nI 0, rat M M0.2.1 x4 (M0.2.1 + 1) T L p (nI (tkS T L p))) := r_numB (lo := 0) (hi := 4) hT hp hx (by omega) (by omega)
    obtain ⟨v, ev⟩ := rF p _ hp hf
    obtain ⟨M', eT, hM'⟩ := r_TF hT hG h3 hp hf (k := 0) (by omega) v v
    rw [t0, Option.bind_some, ob, Option.bind_some, ev, Option.bind_some, ob, Option.bind_some, ev, Option.bind_some, eT]
    refine Or.inr ⟨_, p, rfl, hM', hp, fun N sc lg ar en k s l hR hB => ⟨ar 1, ?_⟩⟩
    rw [updA_id]
    exact rf_i5 (Or.inl rfl) (rf_dKX hR hp (hB 6 (by omega)) h3 hx)
end DD
