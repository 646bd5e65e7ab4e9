def f_X4_findMeetings_b70   (M : zMe) : Option zMe :=
  some M
set_option maxHeartbeats 4000000 in
set_option maxRecDepth 100000 in
theorem s_X4_findMeetings_b70 {g : zG} (hC : zC g)   (M : zMe) (q : zMe) (h : f_X4_findMeetings_b70   M = some q) : zW g mX4_findMeetings 70 [.retAddr 0, .retAddr 0, .retAddr 0, .retAddr 0] [] M none q := by
  unfold f_X4_findMeetings_b70 at h
  obtain rfl := Option.some.inj h
  exact z_ret rfl dX4_findMeetings_70
def f_X4_findMeetings_b48  : Nat → Nat → Int32 → Int32 → zMe → Option zMe
  | 0, _, _, _, _ => none
  | n + 1, x0, x2, x3, M =>
    if 160 < x3 then (
      f_X4_findMeetings_b70 M)
    else (
      if x2 = 0 then (
        f_X4_findMeetings_b70 M)
      else (
        (zob M x0 4).bind fun _ =>
        (f_X4_growMeetings x0 M).bind fun q1 =>
        zlet (x3 + 1) fun v1 =>
        f_X4_findMeetings_b48 n x0 q1.1 v1 q1.2))
set_option maxHeartbeats 4000000 in
set_option maxRecDepth 100000 in
theorem s_X4_findMeetings_b48 {g : zG} (hC : zC g)  : ∀ (n : Nat) (x0 : Nat) (x2 : Int32) (x3 : Int32) (M : zMe) (q : zMe), f_X4_findMeetings_b48  n x0 x2 x3 M = some q → zW g mX4_findMeetings 48 [.ref x0, .retAddr 0, .int x2, .int x3] [] M none q := by
  intro n
  induction n with
  | zero => intro x0 x2 x3 M q h; cases h
  | succ n ih =>
    intro x0 x2 x3 M q h
    rw [f_X4_findMeetings_b48] at h
    refine z_iload_n (x := x3) rfl dX4_findMeetings_48 ?_
    refine z_sipush 160 (by decide) dX4_findMeetings_49 ?_
    refine z_icmp_gt (tgt := 70) dX4_findMeetings_52 (by decide) (fun c1 => ?_) (fun c1 => ?_)
    · have h := zift h c1
      refine zweak [false, false, false, false] ?_
      exact s_X4_findMeetings_b70 hC _ _ h
    · have h := zife h c1
      refine z_iload_n (x := x2) rfl dX4_findMeetings_55 ?_
      refine z_if_eq (tgt := 70) dX4_findMeetings_56 (by decide) (fun c2 => ?_) (fun c2 => ?_)
      · have h := zift h c2
        refine zweak [false, false, false, false] ?_
        exact s_X4_findMeetings_b70 hC _ _ h
      · have h := zife h c2
        refine z_aload_n (x := x0) rfl dX4_findMeetings_59 ?_
        obtain ⟨_, hb, h⟩ := zbind h
        obtain ⟨fs, hb⟩ := zob_some hb
        obtain ⟨q1, h1, h⟩ := zbind h
        refine z_callV (av := []) (rest := []) hC zcl_4 hb (s_X4_growMeetings hC h1) lk_X4_60 im_X4_growMeetings se_X4_growMeetings cd_X4_growMeetings ⟨by decide, by decide, (Nat.le_of_ble_eq_true rfl)⟩ dX4_findMeetings_60 ?_
        clear hb fs
        refine zeqS (stk2 := [.int q1.1]) rfl ?_
        refine z_istore_n dX4_findMeetings_63 (by decide) ?_
        refine zeqL (L2 := [.ref x0, .retAddr 0, .int q1.1, .int x3]) rfl ?_
        obtain ⟨v1, hv⟩ : ∃ z : Int32, z = x3 + 1 := ⟨_, rfl⟩
        have h := zlet_use h hv
        refine z_iinc (v := v1) dX4_findMeetings_64 (x := x3) rfl (by rw [hv]; rfl) ?_
        clear hv
        refine zeqL (L2 := [.ref x0, .retAddr 0, .int q1.1, .int v1]) rfl ?_
        refine z_goto (tgt := 48) dX4_findMeetings_67 (by decide) ?_
        exact ih _ _ _ _ _ h
def f_X4_findMeetings_b28 (k4 : Nat → Int32 → Int32 → zMe → Option zMe) (x0 : Nat) (x2 : Int32) (y0 : Int32) (y1 : Int32) (M : zMe) : Option zMe :=
  zlet (y1 ||| y0 : Int32) fun v1 =>
  zlet (x2 + 1) fun v2 =>
  k4 x0 v1 v2 M
set_option maxHeartbeats 4000000 in
set_option maxRecDepth 100000 in
theorem s_X4_findMeetings_b28 {g : zG} (hC : zC g) {k4 : Nat → Int32 → Int32 → zMe → Option zMe} (hk4 : ∀ (x0 : Nat) (x1 : Int32) (x2 : Int32) (M : zMe) (q : zMe), k4 x0 x1 x2 M = some q → zW g mX4_findMeetings 4 [.ref x0, .int x1, .int x2, .retAddr 0] [] M none q) (x0 : Nat) (x2 : Int32) (y0 : Int32) (y1 : Int32) (M : zMe) (q : zMe) (h : f_X4_findMeetings_b28 k4 x0 x2 y0 y1 M = some q) : zW g mX4_findMeetings 28 [.ref x0, .retAddr 0, .int x2, .retAddr 0] [.int y0, .int y1] M none q := by
  unfold f_X4_findMeetings_b28 at h
  refine z_ior dX4_findMeetings_28 ?_
  refine z_nameI (fun v1 hv => ?_)
  have h := zlet_use h hv
  clear hv
  refine z_istore_n dX4_findMeetings_29 (by decide) ?_
  refine zeqL (L2 := [.ref x0, .int v1, .int x2, .retAddr 0]) rfl ?_
  obtain ⟨v2, hv⟩ : ∃ z : Int32, z = x2 + 1 := ⟨_, rfl⟩
  have h := zlet_use h hv
  refine z_iinc (v := v2) dX4_findMeetings_30 (x := x2) rfl (by rw [hv]; rfl) ?_
  clear hv
  refine zeqL (L2 := [.ref x0, .int v1, .int v2, .retAddr 0]) rfl ?_
  refine z_goto (tgt := 4) dX4_findMeetings_33 (by decide) ?_
  exact hk4 _ _ _ _ _ h
def f_X4_findMeetings_b4  : Nat → Nat → Int32 → Int32 → zMe → Option zMe
  | 0, _, _, _, _ => none
  | n + 1, x0, x1, x2, M =>
    (zgI M x0 [4] 3).bind fun v1 =>
    if v1 ≤ x2 then (
      (zgN M x0 [4] 2).bind fun a1 =>
      (f_J7_fill_53178 a1 x1 M).bind fun q1 =>
      f_X4_findMeetings_b48 zfu x0 1 0 q1)
    else (
      (f_J6_bitCount_0f7a4 x2 M).bind fun q2 =>
      if q2.1 = 1 then (
        f_X4_findMeetings_b28 (f_X4_findMeetings_b4 n) x0 x2 ((1 : Int32) <<< (x2 &&& 31)) x1 q2.2)
      else (
        f_X4_findMeetings_b28 (f_X4_findMeetings_b4 n) x0 x2 0 x1 q2.2))
set_option maxHeartbeats 4000000 in
set_option maxRecDepth 100000 in
theorem s_X4_findMeetings_b4 {g : zG} (hC : zC g)  : ∀ (n : Nat) (x0 : Nat) (x1 : Int32) (x2 : Int32) (M : zMe) (q : zMe), f_X4_findMeetings_b4  n x0 x1 x2 M = some q → zW g mX4_findMeetings 4 [.ref x0, .int x1, .int x2, .retAddr 0] [] M none q := by
  intro n
  induction n with
  | zero => intro x0 x1 x2 M q h; cases h
  | succ n ih =>
    intro x0 x1 x2 M q h
    rw [f_X4_findMeetings_b4] at h
    refine z_iload_n (x := x2) rfl dX4_findMeetings_4 ?_
    refine z_aload_n (x := x0) rfl dX4_findMeetings_5 ?_
    obtain ⟨v1, h1, h⟩ := zbind h
    refine z_gI hC fs_X4_21 h1 dX4_findMeetings_6 ?_
    refine z_icmp_ge (tgt := 36) dX4_findMeetings_9 (by decide) (fun c1 => ?_) (fun c1 => ?_)
    · have h := zift h c1
      refine z_aload_n (x := x0) rfl dX4_findMeetings_36 ?_
      obtain ⟨a1, h2, h⟩ := zbind h
      refine z_gN hC fs_X4_18 h2 dX4_findMeetings_37 ?_
      refine z_iload_n (x := x1) rfl dX4_findMeetings_40 ?_
      obtain ⟨q1, h3, h⟩ := zbind h
      refine z_callS (av := [.ref a1, .int x1]) (rest := []) hC (s_J7_fill_53178 hC h3) lk_X4_54 st_J7_fill_53178 cd_J7_fill_53178 ⟨by decide, by decide, (Nat.le_of_ble_eq_true rfl)⟩ dX4_findMeetings_41 ?_
      refine zeqS (stk2 := []) rfl ?_
      refine z_iconst 1 (by decide) dX4_findMeetings_44 ?_
      refine z_istore_n dX4_findMeetings_45 (by decide) ?_
      refine zeqL (L2 := [.ref x0, .int x1, .int 1, .retAddr 0]) rfl ?_
      refine z_iconst 0 (by decide) dX4_findMeetings_46 ?_
      refine z_istore_n dX4_findMeetings_47 (by decide) ?_
      refine zeqL (L2 := [.ref x0, .int x1, .int 1, .int 0]) rfl ?_
      refine zweak [true, false, true, true] ?_
      exact s_X4_findMeetings_b48 hC _ _ _ _ _ _ h
    · have h := zife h c1
      refine z_iload_n (x := x1) rfl dX4_findMeetings_12 ?_
      refine z_iload_n (x := x2) rfl dX4_findMeetings_13 ?_
      obtain ⟨q2, h4, h⟩ := zbind h
      refine z_callS (av := [.int x2]) (rest := [.int x1]) hC (s_J6_bitCount_0f7a4 hC h4) lk_X4_49 st_J6_bitCount_0f7a4 cd_J6_bitCount_0f7a4 ⟨by decide, by decide, (Nat.le_of_ble_eq_true rfl)⟩ dX4_findMeetings_14 ?_
      refine zeqS (stk2 := [.int q2.1, .int x1]) rfl ?_
      refine z_iconst 1 (by decide) dX4_findMeetings_17 ?_
      refine z_icmp_ne (tgt := 27) dX4_findMeetings_18 (by decide) (fun c2 => ?_) (fun c2 => ?_)
      · have h := zife h c2
        refine z_iconst 0 (by decide) dX4_findMeetings_27 ?_
        refine zweak [true, false, true, false] ?_
        exact s_X4_findMeetings_b28 hC ih _ _ _ _ _ _ h
      · have h := zift h c2
        refine z_iconst 1 (by decide) dX4_findMeetings_21 ?_
        refine z_iload_n (x := x2) rfl dX4_findMeetings_22 ?_
        refine z_ishl dX4_findMeetings_23 ?_
        refine z_goto (tgt := 28) dX4_findMeetings_24 (by decide) ?_
        refine zweak [true, false, true, false] ?_
        exact s_X4_findMeetings_b28 hC ih _ _ _ _ _ _ h
def f_X4_findMeetings (x0 : Nat) (M : zMe) : Option zMe :=
  f_X4_findMeetings_b4 zfu x0 0 1 M
set_option maxHeartbeats 4000000 in
set_option maxRecDepth 100000 in
theorem s_X4_findMeetings {g : zG} (hC : zC g) {x0 : Nat} {M : zMe} {q : zMe} (h : f_X4_findMeetings x0 M = some q) : zMet g yX4_findMeetings mX4_findMeetings [.ref x0] M none q := by
  refine z_entry (by decide +kernel) rfl rfl (Nat.le_of_ble_eq_true rfl) ?_
  refine zeqL (L2 := [.ref x0, .retAddr 0, .retAddr 0, .retAddr 0]) rfl ?_
  unfold f_X4_findMeetings at h
  refine z_iconst 0 (by decide) dX4_findMeetings_0 ?_
  refine z_istore_n dX4_findMeetings_1 (by decide) ?_
  refine zeqL (L2 := [.ref x0, .int 0, .retAddr 0, .retAddr 0]) rfl ?_
  refine z_iconst 1 (by decide) dX4_findMeetings_2 ?_
  refine z_istore_n dX4_findMeetings_3 (by decide) ?_
  refine zeqL (L2 := [.ref x0, .int 0, .int 1, .retAddr 0]) rfl ?_
  exact s_X4_findMeetings_b4 hC _ _ _ _ _ _ h
def f_X4_canMeet (x0 : Nat) (x1 : Int32) (x2 : Int32) (M : zMe) : Option (Int32 × zMe) :=
  (zgN M x0 [4] 2).bind fun a1 =>
  (zrI M a1 0).bind fun v1 =>
  (f_X11_holds v1 (((1 : Int32) <<< (x1 &&& 31)) ||| ((1 : Int32) <<< (x2 &&& 31))) M).bind fun q1 =>
  if q1.1 = 0 ∨ q1.1 = 1 then some (q1.1, q1.2) else none
set_option maxHeartbeats 4000000 in
set_option maxRecDepth 100000 in
theorem s_X4_canMeet {g : zG} (hC : zC g) {x0 : Nat} {x1 : Int32} {x2 : Int32} {M : zMe} {q : (Int32 × zMe)} (h : f_X4_canMeet x0 x1 x2 M = some q) : zMet g yX4_canMeet mX4_canMeet [.ref x0, .int x1, .int x2] M (some (.int q.1)) q.2 := by
  refine z_entry (by decide +kernel) rfl rfl (Nat.le_of_ble_eq_true rfl) ?_
  refine zeqL (L2 := [.ref x0, .int x1, .int x2]) rfl ?_
  unfold f_X4_canMeet at h
  refine z_aload_n (x := x0) rfl dX4_canMeet_0 ?_
  obtain ⟨a1, h1, h⟩ := zbind h
  refine z_gN hC fs_X4_18 h1 dX4_canMeet_1 ?_
  refine z_iconst 0 (by decide) dX4_canMeet_4 ?_
  obtain ⟨v1, h2, h⟩ := zbind h
  refine z_rI h2 dX4_canMeet_5 ?_
  refine z_iconst 1 (by decide) dX4_canMeet_6 ?_
  refine z_iload_n (x := x1) rfl dX4_canMeet_7 ?_
  refine z_ishl dX4_canMeet_8 ?_
  refine z_iconst 1 (by decide) dX4_canMeet_9 ?_
  refine z_iload_n (x := x2) rfl dX4_canMeet_10 ?_
  refine z_ishl dX4_canMeet_11 ?_
  refine z_ior dX4_canMeet_12 ?_
  obtain ⟨q1, h3, h⟩ := zbind h
  refine z_callSN (av := [.int v1, .int (((1 : Int32) <<< (x1 &&& 31)) ||| ((1 : Int32) <<< (x2 &&& 31)))]) (rest := []) hC (s_X11_holds hC h3) ln_X4_68 st_X11_holds cd_X11_holds ⟨by decide, by decide, (Nat.le_of_ble_eq_true rfl)⟩ dX4_canMeet_13 ?_
  refine zeqS (stk2 := [.int q1.1]) rfl ?_
  obtain ⟨hz, h⟩ := zifs h
  obtain rfl := Option.some.inj h
  exact z_iret ⟨.boolean, rfl, zbo hz⟩ dX4_canMeet_16
def f_X5_behind_b6  : Nat → Nat → Int32 → Int32 → Int32 → Int32 → Int32 → zMe → Option (Int32 × zMe)
  | 0, _, _, _, _, _, _, _ => none
  | n + 1, x0, x2, x3, x4, x5, x6, M =>
    if x3 ≤ x6 then (
      some (x5, M))
    else (
      (fv_X5_next x0 x5 ((x2 >>> (x6 &&& 31)) &&& 1) x6 x4 M).bind fun q1 =>
      zlet (x6 + 1) fun v1 =>
      f_X5_behind_b6 n x0 x2 x3 x4 q1.1 v1 q1.2)
set_option maxHeartbeats 4000000 in
set_option maxRecDepth 100000 in
theorem s_X5_behind_b6 {g : zG} (hC : zC g)  : ∀ (n : Nat) (x0 : Nat) (x2 : Int32) (x3 : Int32) (x4 : Int32) (x5 : Int32) (x6 : Int32) (M : zMe) (q : (Int32 × zMe)), f_X5_behind_b6  n x0 x2 x3 x4 x5 x6 M = some q → zW g mX5_behind 6 [.ref x0, .retAddr 0, .int x2, .int x3, .int x4, .int x5, .int x6] [] M (some (.int q.1)) q.2 := by
  intro n
  induction n with
  | zero => intro x0 x2 x3 x4 x5 x6 M q h; cases h
  | succ n ih =>
    intro x0 x2 x3 x4 x5 x6 M q h
    rw [f_X5_behind_b6] at h
    refine z_iload (x := x6) rfl dX5_behind_6 ?_
    refine z_iload_n (x := x3) rfl dX5_behind_8 ?_
    refine z_icmp_ge (tgt := 36) dX5_behind_9 (by decide) (fun c1 => ?_) (fun c1 => ?_)
    · have h := zift h c1
      refine z_iload (x := x5) rfl dX5_behind_36 ?_
      obtain rfl := Option.some.inj h
      exact z_iret ⟨.int, rfl, rfl⟩ dX5_behind_38
    · have h := zife h c1
      refine z_aload_n (x := x0) rfl dX5_behind_12 ?_
      refine z_iload (x := x5) rfl dX5_behind_13 ?_
      refine z_iload_n (x := x2) rfl dX5_behind_15 ?_
      refine z_iload (x := x6) rfl dX5_behind_16 ?_
      refine z_ishr dX5_behind_18 ?_
      refine z_iconst 1 (by decide) dX5_behind_19 ?_
      refine z_iand dX5_behind_20 ?_
      refine z_iload (x := x6) rfl dX5_behind_21 ?_
      refine z_iload (x := x4) rfl dX5_behind_23 ?_
      obtain ⟨q1, h1, h⟩ := zbind h
      refine cv_X5_33 (rest := []) hC h1 ⟨rfl, ⟨by decide, by decide⟩, ⟨by decide, by decide⟩, ⟨by decide, by decide⟩, ⟨by decide, by decide⟩⟩ (Nat.le_of_ble_eq_true rfl) dX5_behind_25 ?_
      refine zeqS (stk2 := [.int q1.1]) rfl ?_
      refine z_istore dX5_behind_28 (by decide) ?_
      refine zeqL (L2 := [.ref x0, .retAddr 0, .int x2, .int x3, .int x4, .int q1.1, .int x6]) rfl ?_
      obtain ⟨v1, hv⟩ : ∃ z : Int32, z = x6 + 1 := ⟨_, rfl⟩
      have h := zlet_use h hv
      refine z_iinc (v := v1) dX5_behind_30 (x := x6) rfl (by rw [hv]; rfl) ?_
      clear hv
      refine zeqL (L2 := [.ref x0, .retAddr 0, .int x2, .int x3, .int x4, .int q1.1, .int v1]) rfl ?_
      refine z_goto (tgt := 6) dX5_behind_33 (by decide) ?_
      exact ih _ _ _ _ _ _ _ _ h
def f_X5_behind (x0 : Nat) (x1 : Int32) (x2 : Int32) (x3 : Int32) (x4 : Int32) (M : zMe) : Option (Int32 × zMe) :=
  f_X5_behind_b6 zfu x0 x2 x3 x4 x1 0 M
set_option maxHeartbeats 4000000 in
set_option maxRecDepth 100000 in
theorem s_X5_behind {g : zG} (hC : zC g) {x0 : Nat} {x1 : Int32} {x2 : Int32} {x3 : Int32} {x4 : Int32} {M : zMe} {q : (Int32 × zMe)} (h : f_X5_behind x0 x1 x2 x3 x4 M = some q) : zMet g yX5_behind mX5_behind [.ref x0, .int x1, .int x2, .int x3, .int x4] M (some (.int q.1)) q.2 := by
  refine z_entry (by decide +kernel) rfl rfl (Nat.le_of_ble_eq_true rfl) ?_
  refine zeqL (L2 := [.ref x0, .int x1, .int x2, .int x3, .int x4, .retAddr 0, .retAddr 0]) rfl ?_
  unfold f_X5_behind at h
  refine z_iload_n (x := x1) rfl dX5_behind_0 ?_
  refine z_istore dX5_behind_1 (by decide) ?_
  refine zeqL (L2 := [.ref x0, .int x1, .int x2, .int x3, .int x4, .int x1, .retAddr 0]) rfl ?_
  refine z_iconst 0 (by decide) dX5_behind_3 ?_
  refine z_istore dX5_behind_4 (by decide) ?_
  refine zeqL (L2 := [.ref x0, .int x1, .int x2, .int x3, .int x4, .int x1, .int 0]) rfl ?_
  refine zweak [true, false, true, true, true, true, true] ?_
  exact s_X5_behind_b6 hC _ _ _ _ _ _ _ _ _ h
def f_X5_withRows (x0 : Nat) (x1 : Int64) (M : zMe) : Option (Int64 × zMe) :=
  (zgI M x0 [5, 1, 9, 6, 3] 0).bind fun v1 =>
  zlet (((31 : Int64) * x1) + v1.toInt64 : Int64) fun v2 =>
  (zgI M x0 [5, 1, 9, 6, 3] 1).bind fun v3 =>
  zlet (((31 : Int64) * v2) + v3.toInt64 : Int64) fun v4 =>
  (zgI M x0 [5, 1, 9, 6, 3] 2).bind fun v5 =>
  some (((31 : Int64) * v4) + v5.toInt64, M)
set_option maxHeartbeats 4000000 in
set_option maxRecDepth 100000 in
theorem s_X5_withRows {g : zG} (hC : zC g) {x0 : Nat} {x1 : Int64} {M : zMe} {q : (Int64 × zMe)} (h : f_X5_withRows x0 x1 M = some q) : zMet g yX5_withRows mX5_withRows [.ref x0, .long x1] M (some (.long q.1)) q.2 := by
  refine z_entry (by decide +kernel) rfl rfl (Nat.le_of_ble_eq_true rfl) ?_
  refine zeqL (L2 := [.ref x0, .long x1, .retAddr 0, .retAddr 0, .retAddr 0]) rfl ?_
  unfold f_X5_withRows at h
  refine z_ldc2 hC dX5_withRows_0 kl_X5_44 ?_
  refine z_lload_n (x := x1) rfl dX5_withRows_3 ?_
  refine z_lmul dX5_withRows_4 ?_
  refine z_aload_n (x := x0) rfl dX5_withRows_5 ?_
  obtain ⟨v1, h1, h⟩ := zbind h
  refine z_gI hC fs_X5_7 h1 dX5_withRows_6 ?_
  refine z_i2l dX5_withRows_9 ?_
  refine z_ladd dX5_withRows_10 ?_
  refine z_nameL (fun v2 hv => ?_)
  have h := zlet_use h hv
  clear hv
  refine z_lstore_n dX5_withRows_11 (by decide) ?_
  refine zeqL (L2 := [.ref x0, .long x1, .retAddr 0, .long v2, .retAddr 0]) rfl ?_
  refine z_ldc2 hC dX5_withRows_12 kl_X5_44 ?_
  refine z_lload_n (x := v2) rfl dX5_withRows_15 ?_
  refine z_lmul dX5_withRows_16 ?_
  refine z_aload_n (x := x0) rfl dX5_withRows_17 ?_
  obtain ⟨v3, h2, h⟩ := zbind h
  refine z_gI hC fs_X5_13 h2 dX5_withRows_18 ?_
  refine z_i2l dX5_withRows_21 ?_
  refine z_ladd dX5_withRows_22 ?_
  refine z_nameL (fun v4 hv => ?_)
  have h := zlet_use h hv
  clear hv
  refine z_lstore_n dX5_withRows_23 (by decide) ?_
  refine zeqL (L2 := [.ref x0, .long x1, .retAddr 0, .long v4, .retAddr 0]) rfl ?_
  refine z_ldc2 hC dX5_withRows_24 kl_X5_44 ?_
  refine z_lload_n (x := v4) rfl dX5_withRows_27 ?_
  refine z_lmul dX5_withRows_28 ?_
  refine z_aload_n (x := x0) rfl dX5_withRows_29 ?_
  obtain ⟨v5, h3, h⟩ := zbind h
  refine z_gI hC fs_X5_16 h3 dX5_withRows_30 ?_
  refine z_i2l dX5_withRows_33 ?_
  refine z_ladd dX5_withRows_34 ?_
  obtain rfl := Option.some.inj h
  exact z_lret rfl dX5_withRows_35
def f_X5_withLearnt (x0 : Int64) (x2 : Int32) (x3 : Int32) (x4 : Int32) (M : zMe) : Option (Int64 × zMe) :=
  zlet (((31 : Int64) * x0) + x2.toInt64 : Int64) fun v1 =>
  zlet (((31 : Int64) * v1) + x3.toInt64 : Int64) fun v2 =>
  some (((31 : Int64) * v2) + x4.toInt64, M)
set_option maxHeartbeats 4000000 in
set_option maxRecDepth 100000 in
theorem s_X5_withLearnt {g : zG} (hC : zC g) {x0 : Int64} {x2 : Int32} {x3 : Int32} {x4 : Int32} {M : zMe} {q : (Int64 × zMe)} (h : f_X5_withLearnt x0 x2 x3 x4 M = some q) : zMet g yX5_withLearnt mX5_withLearnt [.long x0, .int x2, .int x3, .int x4] M (some (.long q.1)) q.2 := by
  refine z_entry (by decide +kernel) rfl rfl (Nat.le_of_ble_eq_true rfl) ?_
  refine zeqL (L2 := [.long x0, .retAddr 0, .int x2, .int x3, .int x4, .retAddr 0, .retAddr 0]) rfl ?_
  unfold f_X5_withLearnt at h
  refine z_ldc2 hC dX5_withLearnt_0 kl_X5_44 ?_
  refine z_lload_n (x := x0) rfl dX5_withLearnt_3 ?_
  refine z_lmul dX5_withLearnt_4 ?_
  refine z_iload_n (x := x2) rfl dX5_withLearnt_5 ?_
  refine z_i2l dX5_withLearnt_6 ?_
  refine z_ladd dX5_withLearnt_7 ?_
  refine z_nameL (fun v1 hv => ?_)
  have h := zlet_use h hv
  clear hv
  refine z_lstore dX5_withLearnt_8 (by decide) ?_
  refine zeqL (L2 := [.long x0, .retAddr 0, .int x2, .int x3, .int x4, .long v1, .retAddr 0]) rfl ?_
  refine z_ldc2 hC dX5_withLearnt_10 kl_X5_44 ?_
  refine z_lload (x := v1) rfl dX5_withLearnt_13 ?_
  refine z_lmul dX5_withLearnt_15 ?_
  refine z_iload_n (x := x3) rfl dX5_withLearnt_16 ?_
  refine z_i2l dX5_withLearnt_17 ?_
  refine z_ladd dX5_withLearnt_18 ?_
  refine z_nameL (fun v2 hv => ?_)
  have h := zlet_use h hv
  clear hv
  refine z_lstore dX5_withLearnt_19 (by decide) ?_
  refine zeqL (L2 := [.long x0, .retAddr 0, .int x2, .int x3, .int x4, .long v2, .retAddr 0]) rfl ?_
  refine z_ldc2 hC dX5_withLearnt_21 kl_X5_44 ?_
  refine z_lload (x := v2) rfl dX5_withLearnt_24 ?_
  refine z_lmul dX5_withLearnt_26 ?_
  refine z_iload (x := x4) rfl dX5_withLearnt_27 ?_
  refine z_i2l dX5_withLearnt_29 ?_
  refine z_ladd dX5_withLearnt_30 ?_
  obtain rfl := Option.some.inj h
  exact z_lret rfl dX5_withLearnt_31
def fv_X5_withRows (a : Nat) (x1 : Int64) (M : zMe) : Option (Int64 × zMe) := match M.1 a with
  | some (.inr (ci, _)) =>
    if ci = 5 then f_X5_withRows a x1 M else if ci = 1 then f_X5_withRows a x1 M else if ci = 9 then f_X5_withRows a x1 M else if ci = 6 then f_X5_withRows a x1 M else if ci = 3 then f_X5_withRows a x1 M else none
  | _ => none
theorem fv_X5_withRows_some {a : Nat} {x1 : Int64} {M : zMe} {q : (Int64 × zMe)} (h : fv_X5_withRows a x1 M = some q) : (∃ fs, M.1 a = some (.inr (5, fs)) ∧ f_X5_withRows a x1 M = some q) ∨ (∃ fs, M.1 a = some (.inr (1, fs)) ∧ f_X5_withRows a x1 M = some q) ∨ (∃ fs, M.1 a = some (.inr (9, fs)) ∧ f_X5_withRows a x1 M = some q) ∨ (∃ fs, M.1 a = some (.inr (6, fs)) ∧ f_X5_withRows a x1 M = some q) ∨ (∃ fs, M.1 a = some (.inr (3, fs)) ∧ f_X5_withRows a x1 M = some q) := by
  unfold fv_X5_withRows at h
  split at h
  next ci fs e =>
    by_cases c5 : ci = 5
    · exact Or.inl ⟨fs, by rw [e, c5], zift h c5⟩
    have h := zife h c5
    by_cases c1 : ci = 1
    · exact Or.inr (Or.inl ⟨fs, by rw [e, c1], zift h c1⟩)
    have h := zife h c1
    by_cases c9 : ci = 9
    · exact Or.inr (Or.inr (Or.inl ⟨fs, by rw [e, c9], zift h c9⟩))
    have h := zife h c9
    by_cases c6 : ci = 6
    · exact Or.inr (Or.inr (Or.inr (Or.inl ⟨fs, by rw [e, c6], zift h c6⟩)))
    have h := zife h c6
    by_cases c3 : ci = 3
    · exact Or.inr (Or.inr (Or.inr (Or.inr (⟨fs, by rw [e, c3], zift h c3⟩))))
    have h := zife h c3
    cases h
  next => cases h
theorem up_X5_36_1 : zUp RX5 36 RX1 "OneWhistle$Plain" ⟨"OneWhistle$Plain", "withRows", "(J)J"⟩ yX5_withRows := ⟨by decide +kernel, by decide +kernel, Or.inl (by decide +kernel), by decide +kernel, by decide +kernel, ⟨by decide +kernel, by decide +kernel⟩, rfl⟩
theorem up_X5_36_9 : zUp RX5 36 RX9 "OneWhistle$Plain" ⟨"OneWhistle$Plain", "withRows", "(J)J"⟩ yX5_withRows := ⟨by decide +kernel, by decide +kernel, Or.inl (by decide +kernel), by decide +kernel, by decide +kernel, ⟨by decide +kernel, by decide +kernel⟩, rfl⟩
theorem up_X5_36_6 : zUp RX5 36 RX6 "OneWhistle$Plain" ⟨"OneWhistle$Plain", "withRows", "(J)J"⟩ yX5_withRows := ⟨by decide +kernel, by decide +kernel, Or.inl (by decide +kernel), by decide +kernel, by decide +kernel, ⟨by decide +kernel, by decide +kernel⟩, rfl⟩
theorem up_X5_36_3 : zUp RX5 36 RX3 "OneWhistle$Plain" ⟨"OneWhistle$Plain", "withRows", "(J)J"⟩ yX5_withRows := ⟨by decide +kernel, by decide +kernel, Or.inl (by decide +kernel), by decide +kernel, by decide +kernel, ⟨by decide +kernel, by decide +kernel⟩, rfl⟩
theorem cv_X5_36 {g : zG} {t : zM} {pc : Nat} {L rest : List Value} {M M2 : zMe} {rv : Option Value} {a : Nat} {x1 : Int64} {q : (Int64 × zMe)} (hC : zC g) (h : fv_X5_withRows a x1 M = some q) (hfit : t.1 = RX5 ∧ (mX5_withRows.2.2.2.2.2.1 + 1 ≤ t.2.2.2.2.2.1 ∧ 8 + (mX5_withRows.2.2.1 + 11) + mX5_withRows.2.2.2.2.2.2 ≤ t.2.2.2.2.2.2)) (hr : (rest.map fun v => v.category).sum ≤ 8) (hd : decode t.2.1 pc = .ok (.invokevirtual 36, 3)) (kk : zW g t (pc + 3) L ((some (.long q.1)).toList ++ rest) q.2 rv M2) : zW g t pc L (([.long x1] : List Value).reverse ++ .ref a :: rest) M rv M2 := by
  obtain ⟨ht, w_X5_withRows⟩ := hfit
  rcases fv_X5_withRows_some h with ⟨fs, hb, h⟩ | ⟨fs, hb, h⟩ | ⟨fs, hb, h⟩ | ⟨fs, hb, h⟩ | ⟨fs, hb, h⟩
  · exact z_callV hC zcl_5 hb (s_X5_withRows hC h) (by rw [ht]; exact lk_X5_36) im_X5_withRows se_X5_withRows cd_X5_withRows ⟨w_X5_withRows.1, w_X5_withRows.2, hr⟩ hd kk
  · exact z_callU hC zcl_1 hb (s_X5_withRows hC h) (by rw [ht]; exact up_X5_36_1) cd_X5_withRows ⟨w_X5_withRows.1, w_X5_withRows.2, hr⟩ hd kk
  · exact z_callU hC zcl_9 hb (s_X5_withRows hC h) (by rw [ht]; exact up_X5_36_9) cd_X5_withRows ⟨w_X5_withRows.1, w_X5_withRows.2, hr⟩ hd kk
  · exact z_callU hC zcl_6 hb (s_X5_withRows hC h) (by rw [ht]; exact up_X5_36_6) cd_X5_withRows ⟨w_X5_withRows.1, w_X5_withRows.2, hr⟩ hd kk
  · exact z_callU hC zcl_3 hb (s_X5_withRows hC h) (by rw [ht]; exact up_X5_36_3) cd_X5_withRows ⟨w_X5_withRows.1, w_X5_withRows.2, hr⟩ hd kk
def f_X5_digested (x0 : Nat) (x1 : Int64) (M : zMe) : Option (Int64 × zMe) :=
  (fv_X5_withRows x0 x1 M).bind fun q1 =>
  (f_X5_withLearnt q1.1 0 0 0 q1.2).bind fun q2 =>
  some (q2.1, q2.2)
set_option maxHeartbeats 4000000 in
set_option maxRecDepth 100000 in
theorem s_X5_digested {g : zG} (hC : zC g) {x0 : Nat} {x1 : Int64} {M : zMe} {q : (Int64 × zMe)} (h : f_X5_digested x0 x1 M = some q) : zMet g yX5_digested mX5_digested [.ref x0, .long x1] M (some (.long q.1)) q.2 := by
  refine z_entry (by decide +kernel) rfl rfl (Nat.le_of_ble_eq_true rfl) ?_
  refine zeqL (L2 := [.ref x0, .long x1, .retAddr 0]) rfl ?_
  unfold f_X5_digested at h
  refine z_aload_n (x := x0) rfl dX5_digested_0 ?_
  refine z_lload_n (x := x1) rfl dX5_digested_1 ?_
  obtain ⟨q1, h1, h⟩ := zbind h
  refine cv_X5_36 (rest := []) hC h1 ⟨rfl, ⟨by decide, by decide⟩⟩ (Nat.le_of_ble_eq_true rfl) dX5_digested_2 ?_
  refine zeqS (stk2 := [.long q1.1]) rfl ?_
  refine z_iconst 0 (by decide) dX5_digested_5 ?_
  refine z_iconst 0 (by decide) dX5_digested_6 ?_
  refine z_iconst 0 (by decide) dX5_digested_7 ?_
  obtain ⟨q2, h2, h⟩ := zbind h
  refine z_callS (av := [.long q1.1, .int 0, .int 0, .int 0]) (rest := []) hC (s_X5_withLearnt hC h2) lk_X5_40 st_X5_withLearnt cd_X5_withLearnt ⟨by decide, by decide, (Nat.le_of_ble_eq_true rfl)⟩ dX5_digested_8 ?_
  refine zeqS (stk2 := [.long q2.1]) rfl ?_
  obtain rfl := Option.some.inj h
  exact z_lret rfl dX5_digested_11
def fv_X6_withRows (a : Nat) (x1 : Int64) (M : zMe) : Option (Int64 × zMe) := match M.1 a with
  | some (.inr (ci, _)) =>
    if ci = 6 then f_X5_withRows a x1 M else if ci = 3 then f_X5_withRows a x1 M else none
  | _ => none
theorem fv_X6_withRows_some {a : Nat} {x1 : Int64} {M : zMe} {q : (Int64 × zMe)} (h : fv_X6_withRows a x1 M = some q) : (∃ fs, M.1 a = some (.inr (6, fs)) ∧ f_X5_withRows a x1 M = some q) ∨ (∃ fs, M.1 a = some (.inr (3, fs)) ∧ f_X5_withRows a x1 M = some q) := by
  unfold fv_X6_withRows at h
  split at h
  next ci fs e =>
    by_cases c6 : ci = 6
    · exact Or.inl ⟨fs, by rw [e, c6], zift h c6⟩
    have h := zife h c6
    by_cases c3 : ci = 3
    · exact Or.inr (⟨fs, by rw [e, c3], zift h c3⟩)
    have h := zife h c3
    cases h
  next => cases h
theorem up_X6_25_6 : zUp RX6 25 RX6 "OneWhistle$Plain" ⟨"OneWhistle$Pup", "withRows", "(J)J"⟩ yX5_withRows := ⟨by decide +kernel, by decide +kernel, Or.inl (by decide +kernel), by decide +kernel, by decide +kernel, ⟨by decide +kernel, by decide +kernel⟩, rfl⟩
theorem up_X6_25_3 : zUp RX6 25 RX3 "OneWhistle$Plain" ⟨"OneWhistle$Pup", "withRows", "(J)J"⟩ yX5_withRows := ⟨by decide +kernel, by decide +kernel, Or.inl (by decide +kernel), by decide +kernel, by decide +kernel, ⟨by decide +kernel, by decide +kernel⟩, rfl⟩
theorem cv_X6_25 {g : zG} {t : zM} {pc : Nat} {L rest : List Value} {M M2 : zMe} {rv : Option Value} {a : Nat} {x1 : Int64} {q : (Int64 × zMe)} (hC : zC g) (h : fv_X6_withRows a x1 M = some q) (hfit : t.1 = RX6 ∧ (mX5_withRows.2.2.2.2.2.1 + 1 ≤ t.2.2.2.2.2.1 ∧ 8 + (mX5_withRows.2.2.1 + 11) + mX5_withRows.2.2.2.2.2.2 ≤ t.2.2.2.2.2.2)) (hr : (rest.map fun v => v.category).sum ≤ 8) (hd : decode t.2.1 pc = .ok (.invokevirtual 25, 3)) (kk : zW g t (pc + 3) L ((some (.long q.1)).toList ++ rest) q.2 rv M2) : zW g t pc L (([.long x1] : List Value).reverse ++ .ref a :: rest) M rv M2 := by
  obtain ⟨ht, w_X5_withRows⟩ := hfit
  rcases fv_X6_withRows_some h with ⟨fs, hb, h⟩ | ⟨fs, hb, h⟩
  · exact z_callU hC zcl_6 hb (s_X5_withRows hC h) (by rw [ht]; exact up_X6_25_6) cd_X5_withRows ⟨w_X5_withRows.1, w_X5_withRows.2, hr⟩ hd kk
  · exact z_callU hC zcl_3 hb (s_X5_withRows hC h) (by rw [ht]; exact up_X6_25_3) cd_X5_withRows ⟨w_X5_withRows.1, w_X5_withRows.2, hr⟩ hd kk
def f_X6_digested (x0 : Nat) (x1 : Int64) (M : zMe) : Option (Int64 × zMe) :=
  (fv_X6_withRows x0 x1 M).bind fun q1 =>
  (zgI q1.2 x0 [6, 3] 3).bind fun v1 =>
  (zgI q1.2 x0 [6, 3] 4).bind fun v2 =>
  (zgI q1.2 x0 [6, 3] 5).bind fun v3 =>
  (f_X5_withLearnt q1.1 v1 v2 v3 q1.2).bind fun q2 =>
  some (q2.1, q2.2)
set_option maxHeartbeats 4000000 in
set_option maxRecDepth 100000 in
theorem s_X6_digested {g : zG} (hC : zC g) {x0 : Nat} {x1 : Int64} {M : zMe} {q : (Int64 × zMe)} (h : f_X6_digested x0 x1 M = some q) : zMet g yX6_digested mX6_digested [.ref x0, .long x1] M (some (.long q.1)) q.2 := by
  refine z_entry (by decide +kernel) rfl rfl (Nat.le_of_ble_eq_true rfl) ?_
  refine zeqL (L2 := [.ref x0, .long x1, .retAddr 0]) rfl ?_
  unfold f_X6_digested at h
  refine z_aload_n (x := x0) rfl dX6_digested_0 ?_
  refine z_lload_n (x := x1) rfl dX6_digested_1 ?_
  obtain ⟨q1, h1, h⟩ := zbind h
  refine cv_X6_25 (rest := []) hC h1 ⟨rfl, ⟨by decide, by decide⟩⟩ (Nat.le_of_ble_eq_true rfl) dX6_digested_2 ?_
  refine zeqS (stk2 := [.long q1.1]) rfl ?_
  refine z_aload_n (x := x0) rfl dX6_digested_5 ?_
  obtain ⟨v1, h2, h⟩ := zbind h
  refine z_gI hC fs_X6_7 h2 dX6_digested_6 ?_
  refine z_aload_n (x := x0) rfl dX6_digested_9 ?_
  obtain ⟨v2, h3, h⟩ := zbind h
  refine z_gI hC fs_X6_13 h3 dX6_digested_10 ?_
  refine z_aload_n (x := x0) rfl dX6_digested_13 ?_
  obtain ⟨v3, h4, h⟩ := zbind h
  refine z_gI hC fs_X6_16 h4 dX6_digested_14 ?_
  obtain ⟨q2, h5, h⟩ := zbind h
  refine z_callSU (sub := "OneWhistle$Pup") (av := [.long q1.1, .int v1, .int v2, .int v3]) (rest := []) hC (s_X5_withLearnt hC h5) su_X6_29 ss_X6_29 st_X5_withLearnt cd_X5_withLearnt ⟨by decide, by decide, (Nat.le_of_ble_eq_true rfl)⟩ dX6_digested_17 ?_
  refine zeqS (stk2 := [.long q2.1]) rfl ?_
  obtain rfl := Option.some.inj h
  exact z_lret rfl dX6_digested_20
def f_X7_init (x0 : Nat) (x1 : Nat) (x2 : Int32) (M : zMe) : Option zMe :=
  zlet (zAdd M (.inr (2, [.int 0, .int 0, .int 0, .int 0, .int 0, .int 0, .int 0, .null])) 8) fun M1 =>
  (f_X2_init M.2.1 M1).bind fun q1 =>
  (zpR q1 x0 [7] 0 (some M.2.1)).bind fun M2 =>
  (zpI M2 x0 [7] 1 (-1)).bind fun M3 =>
  (zpI M3 x0 [7] 4 0).bind fun M4 =>
  (zpI M4 x0 [7] 5 0).bind fun M5 =>
  (zpI M5 x0 [7] 6 0).bind fun M6 =>
  (zpR M6 x0 [7] 2 (some x1)).bind fun M7 =>
  (zpI M7 x0 [7] 3 x2).bind fun M8 =>
  some M8
set_option maxHeartbeats 4000000 in
set_option maxRecDepth 100000 in
theorem s_X7_init {g : zG} (hC : zC g) {x0 : Nat} {x1 : Nat} {x2 : Int32} {M : zMe} {q : zMe} (h : f_X7_init x0 x1 x2 M = some q) : zMet g yX7_init mX7_init [.ref x0, .ref x1, .int x2] M none q := by
  refine z_entry (by decide +kernel) rfl rfl (Nat.le_of_ble_eq_true rfl) ?_
  refine zeqL (L2 := [.ref x0, .ref x1, .int x2]) rfl ?_
  unfold f_X7_init at h
  refine z_aload_n (x := x0) rfl dX7_init_0 ?_
  refine z_objInit hC dX7_init_1 lk_X7_3 im_obj cd_obj (by decide) (Nat.le_of_ble_eq_true rfl) ?_
  refine z_aload_n (x := x0) rfl dX7_init_4 ?_
  obtain ⟨M1, hm⟩ : ∃ z, z = zAdd M (.inr (2, [.int 0, .int 0, .int 0, .int 0, .int 0, .int 0, .int 0, .null])) 8 := ⟨_, rfl⟩
  have h := zlet_use h hm
  refine z_nO hC zcl_2 (fs := [.int 0, .int 0, .int 0, .int 0, .int 0, .int 0, .int 0, .null]) cl_X7_9 ins_2 ini_2 rfl df_2 hm dX7_init_5 ?_
  refine z_dup rfl dX7_init_8 ?_
  obtain ⟨q1, h1, h⟩ := zbind h
  refine z_callIN (av := []) (rest := [.ref M.2.1, .ref x0]) hC (s_X2_init hC h1) ln_X7_11 im_X2_init rfl rfl cd_X2_init ⟨by decide, by decide, (Nat.le_of_ble_eq_true rfl)⟩ dX7_init_9 ?_
  refine zeqS (stk2 := [.ref M.2.1, .ref x0]) rfl ?_
  obtain ⟨M2, h2, h⟩ := zbind h
  refine z_pRo hC fp_X7_12 h2 dX7_init_12 ?_
  refine z_aload_n (x := x0) rfl dX7_init_15 ?_
  refine z_iconst (-1) (by decide) dX7_init_16 ?_
  obtain ⟨M3, h3, h⟩ := zbind h
  refine z_pI hC fp_X7_18 h3 dX7_init_17 ?_
  refine z_aload_n (x := x0) rfl dX7_init_20 ?_
  refine z_iconst 0 (by decide) dX7_init_21 ?_
  obtain ⟨M4, h4, h⟩ := zbind h
  refine z_pI hC fp_X7_22 h4 dX7_init_22 ?_
  refine z_aload_n (x := x0) rfl dX7_init_25 ?_
  refine z_iconst 0 (by decide) dX7_init_26 ?_
  obtain ⟨M5, h5, h⟩ := zbind h
  refine z_pI hC fp_X7_25 h5 dX7_init_27 ?_
  refine z_aload_n (x := x0) rfl dX7_init_30 ?_
  refine z_iconst 0 (by decide) dX7_init_31 ?_
  obtain ⟨M6, h6, h⟩ := zbind h
  refine z_pI hC fp_X7_28 h6 dX7_init_32 ?_
  refine z_aload_n (x := x0) rfl dX7_init_35 ?_
  refine z_aload_n (x := x1) rfl dX7_init_36 ?_
  obtain ⟨M7, h7, h⟩ := zbind h
  refine z_pRa hC fp_X7_31 h7 dX7_init_37 ?_
  refine z_aload_n (x := x0) rfl dX7_init_40 ?_
  refine z_iload_n (x := x2) rfl dX7_init_41 ?_
  obtain ⟨M8, h8, h⟩ := zbind h
  refine z_pI hC fp_X7_35 h8 dX7_init_42 ?_
  obtain rfl := Option.some.inj h
  exact z_ret rfl dX7_init_45
def f_X7_byteAt_b35  (y0 : Int32) (M : zMe) : Option (Int32 × zMe) :=
  some (y0, M)
set_option maxHeartbeats 4000000 in
set_option maxRecDepth 100000 in
theorem s_X7_byteAt_b35 {g : zG} (hC : zC g)  (y0 : Int32) (M : zMe) (q : (Int32 × zMe)) (h : f_X7_byteAt_b35  y0 M = some q) : zW g mX7_byteAt 35 [.retAddr 0, .retAddr 0] [.int y0] M (some (.int q.1)) q.2 := by
  unfold f_X7_byteAt_b35 at h
  obtain rfl := Option.some.inj h
  exact z_iret ⟨.int, rfl, rfl⟩ dX7_byteAt_35
def f_X7_byteAt_b34   (M : zMe) : Option (Int32 × zMe) :=
  f_X7_byteAt_b35 (-1) M
set_option maxHeartbeats 4000000 in
set_option maxRecDepth 100000 in
theorem s_X7_byteAt_b34 {g : zG} (hC : zC g)   (M : zMe) (q : (Int32 × zMe)) (h : f_X7_byteAt_b34   M = some q) : zW g mX7_byteAt 34 [.retAddr 0, .retAddr 0] [] M (some (.int q.1)) q.2 := by
  unfold f_X7_byteAt_b34 at h
  refine z_iconst (-1) (by decide) dX7_byteAt_34 ?_
  exact s_X7_byteAt_b35 hC _ _ _ h
def f_X7_byteAt (x0 : Nat) (x1 : Int32) (M : zMe) : Option (Int32 × zMe) :=
  if x1 < 0 then (
    f_X7_byteAt_b34 M)
  else (
    (zgI M x0 [7] 3).bind fun v1 =>
    if v1 ≤ x1 then (
      f_X7_byteAt_b34 M)
    else (
      (zgN M x0 [7] 2).bind fun a1 =>
      (zln M a1).bind fun v2 =>
      if v2 ≤ x1 then (
        f_X7_byteAt_b34 M)
      else (
        (zgN M x0 [7] 2).bind fun a2 =>
        (zrB M a2 x1).bind fun v3 =>
        f_X7_byteAt_b35 (v3 &&& 255) M)))
set_option maxHeartbeats 4000000 in
set_option maxRecDepth 100000 in
theorem s_X7_byteAt {g : zG} (hC : zC g) {x0 : Nat} {x1 : Int32} {M : zMe} {q : (Int32 × zMe)} (h : f_X7_byteAt x0 x1 M = some q) : zMet g yX7_byteAt mX7_byteAt [.ref x0, .int x1] M (some (.int q.1)) q.2 := by
  refine z_entry (by decide +kernel) rfl rfl (Nat.le_of_ble_eq_true rfl) ?_
  refine zeqL (L2 := [.ref x0, .int x1]) rfl ?_
  unfold f_X7_byteAt at h
  refine z_iload_n (x := x1) rfl dX7_byteAt_0 ?_
  refine z_if_lt (tgt := 34) dX7_byteAt_1 (by decide) (fun c1 => ?_) (fun c1 => ?_)
  · have h := zift h c1
    refine zweak [false, false] ?_
    exact s_X7_byteAt_b34 hC _ _ h
  · have h := zife h c1
    refine z_iload_n (x := x1) rfl dX7_byteAt_4 ?_
    refine z_aload_n (x := x0) rfl dX7_byteAt_5 ?_
    obtain ⟨v1, h1, h⟩ := zbind h
    refine z_gI hC fs_X7_35 h1 dX7_byteAt_6 ?_
    refine z_icmp_ge (tgt := 34) dX7_byteAt_9 (by decide) (fun c2 => ?_) (fun c2 => ?_)
    · have h := zift h c2
      refine zweak [false, false] ?_
      exact s_X7_byteAt_b34 hC _ _ h
    · have h := zife h c2
      refine z_iload_n (x := x1) rfl dX7_byteAt_12 ?_
      refine z_aload_n (x := x0) rfl dX7_byteAt_13 ?_
      obtain ⟨a1, h2, h⟩ := zbind h
      refine z_gN hC fs_X7_31 h2 dX7_byteAt_14 ?_
      obtain ⟨v2, h3, h⟩ := zbind h
      refine z_ln h3 dX7_byteAt_17 ?_
      refine z_icmp_ge (tgt := 34) dX7_byteAt_18 (by decide) (fun c3 => ?_) (fun c3 => ?_)
      · have h := zift h c3
        refine zweak [false, false] ?_
        exact s_X7_byteAt_b34 hC _ _ h
      · have h := zife h c3
        refine z_aload_n (x := x0) rfl dX7_byteAt_21 ?_
        obtain ⟨a2, h4, h⟩ := zbind h
        refine z_gN hC fs_X7_31 h4 dX7_byteAt_22 ?_
        refine z_iload_n (x := x1) rfl dX7_byteAt_25 ?_
        obtain ⟨v3, h5, h⟩ := zbind h
        refine z_rB h5 dX7_byteAt_26 ?_
        refine z_sipush 255 (by decide) dX7_byteAt_27 ?_
        refine z_iand dX7_byteAt_30 ?_
        refine z_goto (tgt := 35) dX7_byteAt_31 (by decide) ?_
        refine zweak [false, false] ?_
        exact s_X7_byteAt_b35 hC _ _ _ h
def f_X7_kindOf_b45  (y0 : Int32) (M : zMe) : Option (Int32 × zMe) :=
  some (y0, M)
set_option maxHeartbeats 4000000 in
set_option maxRecDepth 100000 in
theorem s_X7_kindOf_b45 {g : zG} (hC : zC g)  (y0 : Int32) (M : zMe) (q : (Int32 × zMe)) (h : f_X7_kindOf_b45  y0 M = some q) : zW g mX7_kindOf 45 [.retAddr 0] [.int y0] M (some (.int q.1)) q.2 := by
  unfold f_X7_kindOf_b45 at h
  obtain rfl := Option.some.inj h
  exact z_iret ⟨.int, rfl, rfl⟩ dX7_kindOf_45
def f_X7_kindOf_b34  (x0 : Int32) (M : zMe) : Option (Int32 × zMe) :=
  if x0 = 59 then (
    f_X7_kindOf_b45 3 M)
  else (
    f_X7_kindOf_b45 4 M)
set_option maxHeartbeats 4000000 in
set_option maxRecDepth 100000 in
theorem s_X7_kindOf_b34 {g : zG} (hC : zC g)  (x0 : Int32) (M : zMe) (q : (Int32 × zMe)) (h : f_X7_kindOf_b34  x0 M = some q) : zW g mX7_kindOf 34 [.int x0] [] M (some (.int q.1)) q.2 := by
  unfold f_X7_kindOf_b34 at h
  refine z_iload_n (x := x0) rfl dX7_kindOf_34 ?_
  refine z_bipush 59 (by decide) dX7_kindOf_35 ?_
  refine z_icmp_ne (tgt := 44) dX7_kindOf_37 (by decide) (fun c1 => ?_) (fun c1 => ?_)
  · have h := zife h c1
    refine z_iconst 4 (by decide) dX7_kindOf_44 ?_
    refine zweak [false] ?_
    exact s_X7_kindOf_b45 hC _ _ _ h
  · have h := zift h c1
    refine z_iconst 3 (by decide) dX7_kindOf_40 ?_
    refine z_goto (tgt := 45) dX7_kindOf_41 (by decide) ?_
    refine zweak [false] ?_
    exact s_X7_kindOf_b45 hC _ _ _ h
def f_X7_kindOf_b20  (x0 : Int32) (M : zMe) : Option (Int32 × zMe) :=
  if x0 < 48 then (
    f_X7_kindOf_b34 x0 M)
  else (
    if 57 < x0 then (
      f_X7_kindOf_b34 x0 M)
    else (
      some (2, M)))
set_option maxHeartbeats 4000000 in
set_option maxRecDepth 100000 in
theorem s_X7_kindOf_b20 {g : zG} (hC : zC g)  (x0 : Int32) (M : zMe) (q : (Int32 × zMe)) (h : f_X7_kindOf_b20  x0 M = some q) : zW g mX7_kindOf 20 [.int x0] [] M (some (.int q.1)) q.2 := by
  unfold f_X7_kindOf_b20 at h
  refine z_iload_n (x := x0) rfl dX7_kindOf_20 ?_
  refine z_bipush 48 (by decide) dX7_kindOf_21 ?_
  refine z_icmp_lt (tgt := 34) dX7_kindOf_23 (by decide) (fun c1 => ?_) (fun c1 => ?_)
  · have h := zift h c1
    exact s_X7_kindOf_b34 hC _ _ _ h
  · have h := zife h c1
    refine z_iload_n (x := x0) rfl dX7_kindOf_26 ?_
    refine z_bipush 57 (by decide) dX7_kindOf_27 ?_
    refine z_icmp_gt (tgt := 34) dX7_kindOf_29 (by decide) (fun c2 => ?_) (fun c2 => ?_)
    · have h := zift h c2
      exact s_X7_kindOf_b34 hC _ _ _ h
    · have h := zife h c2
      refine z_iconst 2 (by decide) dX7_kindOf_32 ?_
      obtain rfl := Option.some.inj h
      exact z_iret ⟨.int, rfl, rfl⟩ dX7_kindOf_33
def f_X7_kindOf (x0 : Int32) (M : zMe) : Option (Int32 × zMe) :=
  if 0 ≤ x0 then (
    if x0 < 97 then (
      f_X7_kindOf_b20 x0 M)
    else (
      if 122 < x0 then (
        f_X7_kindOf_b20 x0 M)
      else (
        some (1, M))))
  else (
    some (0, M))
set_option maxHeartbeats 4000000 in
set_option maxRecDepth 100000 in
theorem s_X7_kindOf {g : zG} (hC : zC g) {x0 : Int32} {M : zMe} {q : (Int32 × zMe)} (h : f_X7_kindOf x0 M = some q) : zMet g yX7_kindOf mX7_kindOf [.int x0] M (some (.int q.1)) q.2 := by
  refine z_entry (by decide +kernel) rfl rfl (Nat.le_of_ble_eq_true rfl) ?_
  refine zeqL (L2 := [.int x0]) rfl ?_
  unfold f_X7_kindOf at h
  refine z_iload_n (x := x0) rfl dX7_kindOf_0 ?_
  refine z_if_ge (tgt := 6) dX7_kindOf_1 (by decide) (fun c1 => ?_) (fun c1 => ?_)
  · have h := zift h c1
    refine z_iload_n (x := x0) rfl dX7_kindOf_6 ?_
    refine z_bipush 97 (by decide) dX7_kindOf_7 ?_
    refine z_icmp_lt (tgt := 20) dX7_kindOf_9 (by decide) (fun c2 => ?_) (fun c2 => ?_)
    · have h := zift h c2
      exact s_X7_kindOf_b20 hC _ _ _ h
    · have h := zife h c2
      refine z_iload_n (x := x0) rfl dX7_kindOf_12 ?_
      refine z_bipush 122 (by decide) dX7_kindOf_13 ?_
      refine z_icmp_gt (tgt := 20) dX7_kindOf_15 (by decide) (fun c3 => ?_) (fun c3 => ?_)
      · have h := zift h c3
        exact s_X7_kindOf_b20 hC _ _ _ h
      · have h := zife h c3
        refine z_iconst 1 (by decide) dX7_kindOf_18 ?_
        obtain rfl := Option.some.inj h
        exact z_iret ⟨.int, rfl, rfl⟩ dX7_kindOf_19
  · have h := zife h c1
    refine z_iconst 0 (by decide) dX7_kindOf_4 ?_
    obtain rfl := Option.some.inj h
    exact z_iret ⟨.int, rfl, rfl⟩ dX7_kindOf_5
def f_X7_advance_b153   (M : zMe) : Option zMe :=
  some M
set_option maxHeartbeats 4000000 in
set_option maxRecDepth 100000 in
theorem s_X7_advance_b153 {g : zG} (hC : zC g)   (M : zMe) (q : zMe) (h : f_X7_advance_b153   M = some q) : zW g mX7_advance 153 [.retAddr 0] [] M none q := by
  unfold f_X7_advance_b153 at h
  obtain rfl := Option.some.inj h
  exact z_ret rfl dX7_advance_153
def f_X7_advance_b111  : Nat → Nat → zMe → Option zMe
  | 0, _, _ => none
  | n + 1, x0, M =>
    (zgI M x0 [7] 6).bind fun v1 =>
    (zgI M x0 [7] 3).bind fun v2 =>
    if v2 ≤ v1 then (
      f_X7_advance_b153 M)
    else (
      (zgI M x0 [7] 6).bind fun v3 =>
      (zob M x0 7).bind fun _ =>
      (f_X7_byteAt x0 v3 M).bind fun q1 =>
      (f_X7_kindOf q1.1 q1.2).bind fun q2 =>
      (zgI q2.2 x0 [7] 4).bind fun v4 =>
      if q2.1 = v4 then (
        (zgI q2.2 x0 [7] 6).bind fun v5 =>
        (zpI q2.2 x0 [7] 6 (v5 + 1)).bind fun M1 =>
        f_X7_advance_b111 n x0 M1)
      else (
        f_X7_advance_b153 q2.2))
set_option maxHeartbeats 4000000 in
set_option maxRecDepth 100000 in
theorem s_X7_advance_b111 {g : zG} (hC : zC g)  : ∀ (n : Nat) (x0 : Nat) (M : zMe) (q : zMe), f_X7_advance_b111  n x0 M = some q → zW g mX7_advance 111 [.ref x0] [] M none q := by
  intro n
  induction n with
  | zero => intro x0 M q h; cases h
  | succ n ih =>
    intro x0 M q h
    rw [f_X7_advance_b111] at h
    refine z_aload_n (x := x0) rfl dX7_advance_111 ?_
    obtain ⟨v1, h1, h⟩ := zbind h
    refine z_gI hC fs_X7_28 h1 dX7_advance_112 ?_
    refine z_aload_n (x := x0) rfl dX7_advance_115 ?_
    obtain ⟨v2, h2, h⟩ := zbind h
    refine z_gI hC fs_X7_35 h2 dX7_advance_116 ?_
    refine z_icmp_ge (tgt := 153) dX7_advance_119 (by decide) (fun c1 => ?_) (fun c1 => ?_)
    · have h := zift h c1
      refine zweak [false] ?_
      exact s_X7_advance_b153 hC _ _ h
    · have h := zife h c1
      refine z_aload_n (x := x0) rfl dX7_advance_122 ?_
      refine z_aload_n (x := x0) rfl dX7_advance_123 ?_
      obtain ⟨v3, h3, h⟩ := zbind h
      refine z_gI hC fs_X7_28 h3 dX7_advance_124 ?_
      obtain ⟨_, hb, h⟩ := zbind h
      obtain ⟨fs, hb⟩ := zob_some hb
      obtain ⟨q1, h4, h⟩ := zbind h
      refine z_callV (av := [.int v3]) (rest := []) hC zcl_7 hb (s_X7_byteAt hC h4) lk_X7_124 im_X7_byteAt se_X7_byteAt cd_X7_byteAt ⟨by decide, by decide, (Nat.le_of_ble_eq_true rfl)⟩ dX7_advance_127 ?_
      clear hb fs
      refine zeqS (stk2 := [.int q1.1]) rfl ?_
      obtain ⟨q2, h5, h⟩ := zbind h
      refine z_callS (av := [.int q1.1]) (rest := []) hC (s_X7_kindOf hC h5) lk_X7_139 st_X7_kindOf cd_X7_kindOf ⟨by decide, by decide, (Nat.le_of_ble_eq_true rfl)⟩ dX7_advance_130 ?_
      refine zeqS (stk2 := [.int q2.1]) rfl ?_
      refine z_aload_n (x := x0) rfl dX7_advance_133 ?_
      obtain ⟨v4, h6, h⟩ := zbind h
      refine z_gI hC fs_X7_22 h6 dX7_advance_134 ?_
      refine z_icmp_ne (tgt := 153) dX7_advance_137 (by decide) (fun c2 => ?_) (fun c2 => ?_)
      · have h := zife h c2
        refine zweak [false] ?_
        exact s_X7_advance_b153 hC _ _ h
      · have h := zift h c2
        refine z_aload_n (x := x0) rfl dX7_advance_140 ?_
        refine z_dup rfl dX7_advance_141 ?_
        obtain ⟨v5, h7, h⟩ := zbind h
        refine z_gI hC fs_X7_28 h7 dX7_advance_142 ?_
        refine z_iconst 1 (by decide) dX7_advance_145 ?_
        refine z_iadd dX7_advance_146 ?_
        obtain ⟨M1, h8, h⟩ := zbind h
        refine z_pI hC fp_X7_28 h8 dX7_advance_147 ?_
        refine z_goto (tgt := 111) dX7_advance_150 (by decide) ?_
        exact ih _ _ _ h
def f_X7_advance_b54  (x0 : Nat) (M : zMe) : Option zMe :=
  (zgI M x0 [7] 5).bind fun v1 =>
  (zpI M x0 [7] 6 v1).bind fun M1 =>
  (zgI M1 x0 [7] 5).bind fun v2 =>
  (zob M1 x0 7).bind fun _ =>
  (f_X7_byteAt x0 v2 M1).bind fun q1 =>
  (f_X7_kindOf q1.1 q1.2).bind fun q2 =>
  (zpI q2.2 x0 [7] 4 q2.1).bind fun M2 =>
  (zgI M2 x0 [7] 4).bind fun v3 =>
  if v3 = 0 then (
    some M2)
  else (
    (zgI M2 x0 [7] 6).bind fun v4 =>
    (zpI M2 x0 [7] 6 (v4 + 1)).bind fun M3 =>
    (zgI M3 x0 [7] 4).bind fun v5 =>
    if v5 = 1 then (
      f_X7_advance_b111 zfu x0 M3)
    else (
      (zgI M3 x0 [7] 4).bind fun v6 =>
      if v6 = 2 then (
        f_X7_advance_b111 zfu x0 M3)
      else (
        f_X7_advance_b153 M3)))
set_option maxHeartbeats 4000000 in
set_option maxRecDepth 100000 in
theorem s_X7_advance_b54 {g : zG} (hC : zC g)  (x0 : Nat) (M : zMe) (q : zMe) (h : f_X7_advance_b54  x0 M = some q) : zW g mX7_advance 54 [.ref x0] [] M none q := by
  unfold f_X7_advance_b54 at h
  refine z_aload_n (x := x0) rfl dX7_advance_54 ?_
  refine z_aload_n (x := x0) rfl dX7_advance_55 ?_
  obtain ⟨v1, h1, h⟩ := zbind h
  refine z_gI hC fs_X7_25 h1 dX7_advance_56 ?_
  obtain ⟨M1, h2, h⟩ := zbind h
  refine z_pI hC fp_X7_28 h2 dX7_advance_59 ?_
  refine z_aload_n (x := x0) rfl dX7_advance_62 ?_
  refine z_aload_n (x := x0) rfl dX7_advance_63 ?_
  refine z_aload_n (x := x0) rfl dX7_advance_64 ?_
  obtain ⟨v2, h3, h⟩ := zbind h
  refine z_gI hC fs_X7_25 h3 dX7_advance_65 ?_
  obtain ⟨_, hb, h⟩ := zbind h
  obtain ⟨fs, hb⟩ := zob_some hb
  obtain ⟨q1, h4, h⟩ := zbind h
  refine z_callV (av := [.int v2]) (rest := [.ref x0]) hC zcl_7 hb (s_X7_byteAt hC h4) lk_X7_124 im_X7_byteAt se_X7_byteAt cd_X7_byteAt ⟨by decide, by decide, (Nat.le_of_ble_eq_true rfl)⟩ dX7_advance_68 ?_
  clear hb fs
  refine zeqS (stk2 := [.int q1.1, .ref x0]) rfl ?_
  obtain ⟨q2, h5, h⟩ := zbind h
  refine z_callS (av := [.int q1.1]) (rest := [.ref x0]) hC (s_X7_kindOf hC h5) lk_X7_139 st_X7_kindOf cd_X7_kindOf ⟨by decide, by decide, (Nat.le_of_ble_eq_true rfl)⟩ dX7_advance_71 ?_
  refine zeqS (stk2 := [.int q2.1, .ref x0]) rfl ?_
  obtain ⟨M2, h6, h⟩ := zbind h
  refine z_pI hC fp_X7_22 h6 dX7_advance_74 ?_
  refine z_aload_n (x := x0) rfl dX7_advance_77 ?_
  obtain ⟨v3, h7, h⟩ := zbind h
  refine z_gI hC fs_X7_22 h7 dX7_advance_78 ?_
  refine z_if_ne (tgt := 85) dX7_advance_81 (by decide) (fun c1 => ?_) (fun c1 => ?_)
  · have h := zife h c1
    refine z_aload_n (x := x0) rfl dX7_advance_85 ?_
    refine z_dup rfl dX7_advance_86 ?_
    obtain ⟨v4, h8, h⟩ := zbind h
    refine z_gI hC fs_X7_28 h8 dX7_advance_87 ?_
    refine z_iconst 1 (by decide) dX7_advance_90 ?_
    refine z_iadd dX7_advance_91 ?_
    obtain ⟨M3, h9, h⟩ := zbind h
    refine z_pI hC fp_X7_28 h9 dX7_advance_92 ?_
    refine z_aload_n (x := x0) rfl dX7_advance_95 ?_
    obtain ⟨v5, h10, h⟩ := zbind h
    refine z_gI hC fs_X7_22 h10 dX7_advance_96 ?_
    refine z_iconst 1 (by decide) dX7_advance_99 ?_
    refine z_icmp_eq (tgt := 111) dX7_advance_100 (by decide) (fun c2 => ?_) (fun c2 => ?_)
    · have h := zift h c2
      exact s_X7_advance_b111 hC _ _ _ _ h
    · have h := zife h c2
      refine z_aload_n (x := x0) rfl dX7_advance_103 ?_
      obtain ⟨v6, h11, h⟩ := zbind h
      refine z_gI hC fs_X7_22 h11 dX7_advance_104 ?_
      refine z_iconst 2 (by decide) dX7_advance_107 ?_
      refine z_icmp_ne (tgt := 153) dX7_advance_108 (by decide) (fun c3 => ?_) (fun c3 => ?_)
      · have h := zife h c3
        refine zweak [false] ?_
        exact s_X7_advance_b153 hC _ _ h
      · have h := zift h c3
        exact s_X7_advance_b111 hC _ _ _ _ h
  · have h := zift h c1
    obtain rfl := Option.some.inj h
    exact z_ret rfl dX7_advance_84
def f_X7_advance_b17  : Nat → Nat → zMe → Option zMe
  | 0, _, _ => none
  | n + 1, x0, M =>
    (zgI M x0 [7] 5).bind fun v1 =>
    (zgI M x0 [7] 3).bind fun v2 =>
    if v2 ≤ v1 then (
      f_X7_advance_b54 x0 M)
    else (
      (zgI M x0 [7] 5).bind fun v3 =>
      (zob M x0 7).bind fun _ =>
      (f_X7_byteAt x0 v3 M).bind fun q1 =>
      if q1.1 = 32 then (
        (zgI q1.2 x0 [7] 5).bind fun v4 =>
        (zpI q1.2 x0 [7] 5 (v4 + 1)).bind fun M1 =>
        f_X7_advance_b17 n x0 M1)
      else (
        f_X7_advance_b54 x0 q1.2))
set_option maxHeartbeats 4000000 in
set_option maxRecDepth 100000 in
theorem s_X7_advance_b17 {g : zG} (hC : zC g)  : ∀ (n : Nat) (x0 : Nat) (M : zMe) (q : zMe), f_X7_advance_b17  n x0 M = some q → zW g mX7_advance 17 [.ref x0] [] M none q := by
  intro n
  induction n with
  | zero => intro x0 M q h; cases h
  | succ n ih =>
    intro x0 M q h
    rw [f_X7_advance_b17] at h
    refine z_aload_n (x := x0) rfl dX7_advance_17 ?_
    obtain ⟨v1, h1, h⟩ := zbind h
    refine z_gI hC fs_X7_25 h1 dX7_advance_18 ?_
    refine z_aload_n (x := x0) rfl dX7_advance_21 ?_
    obtain ⟨v2, h2, h⟩ := zbind h
    refine z_gI hC fs_X7_35 h2 dX7_advance_22 ?_
    refine z_icmp_ge (tgt := 54) dX7_advance_25 (by decide) (fun c1 => ?_) (fun c1 => ?_)
    · have h := zift h c1
      exact s_X7_advance_b54 hC _ _ _ h
    · have h := zife h c1
      refine z_aload_n (x := x0) rfl dX7_advance_28 ?_
      refine z_aload_n (x := x0) rfl dX7_advance_29 ?_
      obtain ⟨v3, h3, h⟩ := zbind h
      refine z_gI hC fs_X7_25 h3 dX7_advance_30 ?_
      obtain ⟨_, hb, h⟩ := zbind h
      obtain ⟨fs, hb⟩ := zob_some hb
      obtain ⟨q1, h4, h⟩ := zbind h
      refine z_callV (av := [.int v3]) (rest := []) hC zcl_7 hb (s_X7_byteAt hC h4) lk_X7_124 im_X7_byteAt se_X7_byteAt cd_X7_byteAt ⟨by decide, by decide, (Nat.le_of_ble_eq_true rfl)⟩ dX7_advance_33 ?_
      clear hb fs
      refine zeqS (stk2 := [.int q1.1]) rfl ?_
      refine z_bipush 32 (by decide) dX7_advance_36 ?_
      refine z_icmp_ne (tgt := 54) dX7_advance_38 (by decide) (fun c2 => ?_) (fun c2 => ?_)
      · have h := zife h c2
        exact s_X7_advance_b54 hC _ _ _ h
      · have h := zift h c2
        refine z_aload_n (x := x0) rfl dX7_advance_41 ?_
        refine z_dup rfl dX7_advance_42 ?_
        obtain ⟨v4, h5, h⟩ := zbind h
        refine z_gI hC fs_X7_25 h5 dX7_advance_43 ?_
        refine z_iconst 1 (by decide) dX7_advance_46 ?_
        refine z_iadd dX7_advance_47 ?_
        obtain ⟨M1, h6, h⟩ := zbind h
        refine z_pI hC fp_X7_25 h6 dX7_advance_48 ?_
        refine z_goto (tgt := 17) dX7_advance_51 (by decide) ?_
        exact ih _ _ _ h
def f_X7_advance (x0 : Nat) (M : zMe) : Option zMe :=
  (zgI M x0 [7] 1).bind fun v1 =>
  if v1 = (-1) then (
    (zgI M x0 [7] 6).bind fun v2 =>
    (zpI M x0 [7] 5 v2).bind fun M1 =>
    f_X7_advance_b17 zfu x0 M1)
  else (
    some M)
set_option maxHeartbeats 4000000 in
set_option maxRecDepth 100000 in
theorem s_X7_advance {g : zG} (hC : zC g) {x0 : Nat} {M : zMe} {q : zMe} (h : f_X7_advance x0 M = some q) : zMet g yX7_advance mX7_advance [.ref x0] M none q := by
  refine z_entry (by decide +kernel) rfl rfl (Nat.le_of_ble_eq_true rfl) ?_
  refine zeqL (L2 := [.ref x0]) rfl ?_
  unfold f_X7_advance at h
  refine z_aload_n (x := x0) rfl dX7_advance_0 ?_
  obtain ⟨v1, h1, h⟩ := zbind h
  refine z_gI hC fs_X7_18 h1 dX7_advance_1 ?_
  refine z_iconst (-1) (by decide) dX7_advance_4 ?_
  refine z_icmp_eq (tgt := 9) dX7_advance_5 (by decide) (fun c1 => ?_) (fun c1 => ?_)
  · have h := zift h c1
    refine z_aload_n (x := x0) rfl dX7_advance_9 ?_
    refine z_aload_n (x := x0) rfl dX7_advance_10 ?_
    obtain ⟨v2, h2, h⟩ := zbind h
    refine z_gI hC fs_X7_28 h2 dX7_advance_11 ?_
    obtain ⟨M1, h3, h⟩ := zbind h
    refine z_pI hC fp_X7_25 h3 dX7_advance_14 ?_
    exact s_X7_advance_b17 hC _ _ _ _ h
  · have h := zife h c1
    obtain rfl := Option.some.inj h
    exact z_ret rfl dX7_advance_8
def f_X7_isWord_b28 (sa : Nat → Nat)  : Nat → Nat → Nat → Int32 → zMe → Option (Int32 × zMe)
  | 0, _, _, _, _ => none
  | n + 1, x0, x1, x2, M =>
    (zsL sa x1).bind fun v1 =>
    if v1 ≤ x2 then (
      some (1, M))
    else (
      (zgI M x0 [7] 5).bind fun v2 =>
      (zob M x0 7).bind fun _ =>
      (f_X7_byteAt x0 (v2 + x2) M).bind fun q1 =>
      (zsC sa x1 x2).bind fun v3 =>
      if q1.1 = v3 then (
        zlet (x2 + 1) fun v4 =>
        f_X7_isWord_b28 sa n x0 x1 v4 q1.2)
      else (
        some (0, q1.2)))
set_option maxHeartbeats 4000000 in
set_option maxRecDepth 100000 in
theorem s_X7_isWord_b28 {g : zG} (hC : zC g) {sa : Nat → Nat} (hS : zCs g sa)  : ∀ (n : Nat) (x0 : Nat) (x1 : Nat) (x2 : Int32) (M : zMe) (q : (Int32 × zMe)), f_X7_isWord_b28 sa  n x0 x1 x2 M = some q → zW g mX7_isWord 28 [.ref x0, .ref x1, .int x2] [] M (some (.int q.1)) q.2 := by
  intro n
  induction n with
  | zero => intro x0 x1 x2 M q h; cases h
  | succ n ih =>
    intro x0 x1 x2 M q h
    rw [f_X7_isWord_b28] at h
    refine z_iload_n (x := x2) rfl dX7_isWord_28 ?_
    refine z_aload_n (x := x1) rfl dX7_isWord_29 ?_
    obtain ⟨v1, h1, h⟩ := zbind h
    refine z_sL hC hS h1 ⟨by decide +kernel, by decide, by decide, (Nat.le_of_ble_eq_true rfl)⟩ dX7_isWord_30 ?_
    refine z_icmp_ge (tgt := 62) dX7_isWord_33 (by decide) (fun c1 => ?_) (fun c1 => ?_)
    · have h := zift h c1
      refine z_iconst 1 (by decide) dX7_isWord_62 ?_
      obtain rfl := Option.some.inj h
      exact z_iret ⟨.boolean, rfl, rfl⟩ dX7_isWord_63
    · have h := zife h c1
      refine z_aload_n (x := x0) rfl dX7_isWord_36 ?_
      refine z_aload_n (x := x0) rfl dX7_isWord_37 ?_
      obtain ⟨v2, h2, h⟩ := zbind h
      refine z_gI hC fs_X7_25 h2 dX7_isWord_38 ?_
      refine z_iload_n (x := x2) rfl dX7_isWord_41 ?_
      refine z_iadd dX7_isWord_42 ?_
      obtain ⟨_, hb, h⟩ := zbind h
      obtain ⟨fs, hb⟩ := zob_some hb
      obtain ⟨q1, h3, h⟩ := zbind h
      refine z_callV (av := [.int (v2 + x2)]) (rest := []) hC zcl_7 hb (s_X7_byteAt hC h3) lk_X7_124 im_X7_byteAt se_X7_byteAt cd_X7_byteAt ⟨by decide, by decide, (Nat.le_of_ble_eq_true rfl)⟩ dX7_isWord_43 ?_
      clear hb fs
      refine zeqS (stk2 := [.int q1.1]) rfl ?_
      refine z_aload_n (x := x1) rfl dX7_isWord_46 ?_
      refine z_iload_n (x := x2) rfl dX7_isWord_47 ?_
      obtain ⟨v3, h4, h⟩ := zbind h
      refine z_sC hC hS h4 ⟨by decide +kernel, by decide, by decide, (Nat.le_of_ble_eq_true rfl)⟩ dX7_isWord_48 ?_
      refine z_icmp_eq (tgt := 56) dX7_isWord_51 (by decide) (fun c2 => ?_) (fun c2 => ?_)
      · have h := zift h c2
        obtain ⟨v4, hv⟩ : ∃ z : Int32, z = x2 + 1 := ⟨_, rfl⟩
        have h := zlet_use h hv
        refine z_iinc (v := v4) dX7_isWord_56 (x := x2) rfl (by rw [hv]; rfl) ?_
        clear hv
        refine zeqL (L2 := [.ref x0, .ref x1, .int v4]) rfl ?_
        refine z_goto (tgt := 28) dX7_isWord_59 (by decide) ?_
        exact ih _ _ _ _ _ h
      · have h := zife h c2
        refine z_iconst 0 (by decide) dX7_isWord_54 ?_
        obtain rfl := Option.some.inj h
        exact z_iret ⟨.boolean, rfl, rfl⟩ dX7_isWord_55
def f_X7_isWord_b24 (sa : Nat → Nat)   (M : zMe) : Option (Int32 × zMe) :=
  some (0, M)
set_option maxHeartbeats 4000000 in
set_option maxRecDepth 100000 in
theorem s_X7_isWord_b24 {g : zG} (hC : zC g) {sa : Nat → Nat} (hS : zCs g sa)   (M : zMe) (q : (Int32 × zMe)) (h : f_X7_isWord_b24 sa   M = some q) : zW g mX7_isWord 24 [.retAddr 0, .retAddr 0, .retAddr 0] [] M (some (.int q.1)) q.2 := by
  unfold f_X7_isWord_b24 at h
  refine z_iconst 0 (by decide) dX7_isWord_24 ?_
  obtain rfl := Option.some.inj h
  exact z_iret ⟨.boolean, rfl, rfl⟩ dX7_isWord_25
def f_X7_isWord (sa : Nat → Nat) (x0 : Nat) (x1 : Nat) (M : zMe) : Option (Int32 × zMe) :=
  (zgI M x0 [7] 4).bind fun v1 =>
  if v1 = 1 then (
    (zgI M x0 [7] 6).bind fun v2 =>
    (zgI M x0 [7] 5).bind fun v3 =>
    (zsL sa x1).bind fun v4 =>
    if (v2 - v3) = v4 then (
      f_X7_isWord_b28 sa zfu x0 x1 0 M)
    else (
      f_X7_isWord_b24 sa M))
  else (
    f_X7_isWord_b24 sa M)
set_option maxHeartbeats 4000000 in
set_option maxRecDepth 100000 in
theorem s_X7_isWord {g : zG} (hC : zC g) {sa : Nat → Nat} (hS : zCs g sa) {x0 : Nat} {x1 : Nat} {M : zMe} {q : (Int32 × zMe)} (h : f_X7_isWord sa x0 x1 M = some q) : zMet g yX7_isWord mX7_isWord [.ref x0, .ref x1] M (some (.int q.1)) q.2 := by
  refine z_entry (by decide +kernel) rfl rfl (Nat.le_of_ble_eq_true rfl) ?_
  refine zeqL (L2 := [.ref x0, .ref x1, .retAddr 0]) rfl ?_
  unfold f_X7_isWord at h
  refine z_aload_n (x := x0) rfl dX7_isWord_0 ?_
  obtain ⟨v1, h1, h⟩ := zbind h
  refine z_gI hC fs_X7_22 h1 dX7_isWord_1 ?_
  refine z_iconst 1 (by decide) dX7_isWord_4 ?_
  refine z_icmp_ne (tgt := 24) dX7_isWord_5 (by decide) (fun c1 => ?_) (fun c1 => ?_)
  · have h := zife h c1
    refine zweak [false, false, false] ?_
    exact s_X7_isWord_b24 hC hS _ _ h
  · have h := zift h c1
    refine z_aload_n (x := x0) rfl dX7_isWord_8 ?_
    obtain ⟨v2, h2, h⟩ := zbind h
    refine z_gI hC fs_X7_28 h2 dX7_isWord_9 ?_
    refine z_aload_n (x := x0) rfl dX7_isWord_12 ?_
    obtain ⟨v3, h3, h⟩ := zbind h
    refine z_gI hC fs_X7_25 h3 dX7_isWord_13 ?_
    refine z_isub dX7_isWord_16 ?_
    refine z_aload_n (x := x1) rfl dX7_isWord_17 ?_
    obtain ⟨v4, h4, h⟩ := zbind h
    refine z_sL hC hS h4 ⟨by decide +kernel, by decide, by decide, (Nat.le_of_ble_eq_true rfl)⟩ dX7_isWord_18 ?_
    refine z_icmp_eq (tgt := 26) dX7_isWord_21 (by decide) (fun c2 => ?_) (fun c2 => ?_)
    · have h := zift h c2
      refine z_iconst 0 (by decide) dX7_isWord_26 ?_
      refine z_istore_n dX7_isWord_27 (by decide) ?_
      refine zeqL (L2 := [.ref x0, .ref x1, .int 0]) rfl ?_
      exact s_X7_isWord_b28 hC hS _ _ _ _ _ _ h
    · have h := zife h c2
      refine zweak [false, false, false] ?_
      exact s_X7_isWord_b24 hC hS _ _ h
def f_X7_fail_b16   (M : zMe) : Option zMe :=
  some M
set_option maxHeartbeats 4000000 in
set_option maxRecDepth 100000 in
theorem s_X7_fail_b16 {g : zG} (hC : zC g)   (M : zMe) (q : zMe) (h : f_X7_fail_b16   M = some q) : zW g mX7_fail 16 [.retAddr 0] [] M none q := by
  unfold f_X7_fail_b16 at h
  obtain rfl := Option.some.inj h
  exact z_ret rfl dX7_fail_16
def f_X7_fail (x0 : Nat) (M : zMe) : Option zMe :=
  (zgI M x0 [7] 1).bind fun v1 =>
  if v1 = (-1) then (
    (zgI M x0 [7] 5).bind fun v2 =>
    (zpI M x0 [7] 1 v2).bind fun M1 =>
    f_X7_fail_b16 M1)
  else (
    f_X7_fail_b16 M)
set_option maxHeartbeats 4000000 in
set_option maxRecDepth 100000 in
theorem s_X7_fail {g : zG} (hC : zC g) {x0 : Nat} {M : zMe} {q : zMe} (h : f_X7_fail x0 M = some q) : zMet g yX7_fail mX7_fail [.ref x0] M none q := by
  refine z_entry (by decide +kernel) rfl rfl (Nat.le_of_ble_eq_true rfl) ?_
  refine zeqL (L2 := [.ref x0]) rfl ?_
  unfold f_X7_fail at h
  refine z_aload_n (x := x0) rfl dX7_fail_0 ?_
  obtain ⟨v1, h1, h⟩ := zbind h
  refine z_gI hC fs_X7_18 h1 dX7_fail_1 ?_
  refine z_iconst (-1) (by decide) dX7_fail_4 ?_
  refine z_icmp_ne (tgt := 16) dX7_fail_5 (by decide) (fun c1 => ?_) (fun c1 => ?_)
  · have h := zife h c1
    refine zweak [false] ?_
    exact s_X7_fail_b16 hC _ _ h
  · have h := zift h c1
    refine z_aload_n (x := x0) rfl dX7_fail_8 ?_
    refine z_aload_n (x := x0) rfl dX7_fail_9 ?_
    obtain ⟨v2, h2, h⟩ := zbind h
    refine z_gI hC fs_X7_25 h2 dX7_fail_10 ?_
    obtain ⟨M1, h3, h⟩ := zbind h
    refine z_pI hC fp_X7_18 h3 dX7_fail_13 ?_
    refine zweak [false] ?_
    exact s_X7_fail_b16 hC _ _ h
def f_X7_takeNumber_b49  (x0 : Nat) (x1 : Int32) (M : zMe) : Option (Int32 × zMe) :=
  (zob M x0 7).bind fun _ =>
  (f_X7_fail x0 M).bind fun q1 =>
  some (x1, q1)
set_option maxHeartbeats 4000000 in
set_option maxRecDepth 100000 in
theorem s_X7_takeNumber_b49 {g : zG} (hC : zC g)  (x0 : Nat) (x1 : Int32) (M : zMe) (q : (Int32 × zMe)) (h : f_X7_takeNumber_b49  x0 x1 M = some q) : zW g mX7_takeNumber 49 [.ref x0, .int x1, .retAddr 0, .retAddr 0] [] M (some (.int q.1)) q.2 := by
  unfold f_X7_takeNumber_b49 at h
  refine z_aload_n (x := x0) rfl dX7_takeNumber_49 ?_
  obtain ⟨_, hb, h⟩ := zbind h
  obtain ⟨fs, hb⟩ := zob_some hb
  obtain ⟨q1, h1, h⟩ := zbind h
  refine z_callV (av := []) (rest := []) hC zcl_7 hb (s_X7_fail hC h1) lk_X7_47 im_X7_fail se_X7_fail cd_X7_fail ⟨by decide, by decide, (Nat.le_of_ble_eq_true rfl)⟩ dX7_takeNumber_50 ?_
  clear hb fs
  refine zeqS (stk2 := []) rfl ?_
  refine z_iload_n (x := x1) rfl dX7_takeNumber_53 ?_
  obtain rfl := Option.some.inj h
  exact z_iret ⟨.int, rfl, rfl⟩ dX7_takeNumber_54
def f_X7_takeNumber_b21  (x0 : Nat) (x1 : Int32) (M : zMe) : Option (Int32 × zMe) :=
  (zob M x0 7).bind fun _ =>
  (f_X7_fail x0 M).bind fun q1 =>
  some (x1, q1)
set_option maxHeartbeats 4000000 in
set_option maxRecDepth 100000 in
theorem s_X7_takeNumber_b21 {g : zG} (hC : zC g)  (x0 : Nat) (x1 : Int32) (M : zMe) (q : (Int32 × zMe)) (h : f_X7_takeNumber_b21  x0 x1 M = some q) : zW g mX7_takeNumber 21 [.ref x0, .int x1, .retAddr 0, .retAddr 0] [] M (some (.int q.1)) q.2 := by
  unfold f_X7_takeNumber_b21 at h
  refine z_aload_n (x := x0) rfl dX7_takeNumber_21 ?_
  obtain ⟨_, hb, h⟩ := zbind h
  obtain ⟨fs, hb⟩ := zob_some hb
  obtain ⟨q1, h1, h⟩ := zbind h
  refine z_callV (av := []) (rest := []) hC zcl_7 hb (s_X7_fail hC h1) lk_X7_47 im_X7_fail se_X7_fail cd_X7_fail ⟨by decide, by decide, (Nat.le_of_ble_eq_true rfl)⟩ dX7_takeNumber_22 ?_
  clear hb fs
  refine zeqS (stk2 := []) rfl ?_
  refine z_iload_n (x := x1) rfl dX7_takeNumber_25 ?_
  obtain rfl := Option.some.inj h
  exact z_iret ⟨.int, rfl, rfl⟩ dX7_takeNumber_26
def f_X7_takeNumber (x0 : Nat) (x1 : Int32) (x2 : Int32) (M : zMe) : Option (Int32 × zMe) :=
  (zgI M x0 [7] 4).bind fun v1 =>
  if v1 = 2 then (
    (zgI M x0 [7] 6).bind fun v2 =>
    (zgI M x0 [7] 5).bind fun v3 =>
    if (v2 - v3) = 1 then (
      (zgI M x0 [7] 5).bind fun v4 =>
      (zob M x0 7).bind fun _ =>
      (f_X7_byteAt x0 v4 M).bind fun q1 =>
      zlet (q1.1 - 48 : Int32) fun v5 =>
      if v5 < x1 then (
        f_X7_takeNumber_b49 x0 x1 q1.2)
      else (
        if v5 ≤ x2 then (
          (zob q1.2 x0 7).bind fun _ =>
          (f_X7_advance x0 q1.2).bind fun q2 =>
          some (v5, q2))
        else (
          f_X7_takeNumber_b49 x0 x1 q1.2)))
    else (
      f_X7_takeNumber_b21 x0 x1 M))
  else (
    f_X7_takeNumber_b21 x0 x1 M)
set_option maxHeartbeats 4000000 in
set_option maxRecDepth 100000 in
theorem s_X7_takeNumber {g : zG} (hC : zC g) {x0 : Nat} {x1 : Int32} {x2 : Int32} {M : zMe} {q : (Int32 × zMe)} (h : f_X7_takeNumber x0 x1 x2 M = some q) : zMet g yX7_takeNumber mX7_takeNumber [.ref x0, .int x1, .int x2] M (some (.int q.1)) q.2 := by
  refine z_entry (by decide +kernel) rfl rfl (Nat.le_of_ble_eq_true rfl) ?_
  refine zeqL (L2 := [.ref x0, .int x1, .int x2, .retAddr 0]) rfl ?_
  unfold f_X7_takeNumber at h
  refine z_aload_n (x := x0) rfl dX7_takeNumber_0 ?_
  obtain ⟨v1, h1, h⟩ := zbind h
  refine z_gI hC fs_X7_22 h1 dX7_takeNumber_1 ?_
  refine z_iconst 2 (by decide) dX7_takeNumber_4 ?_
  refine z_icmp_ne (tgt := 21) dX7_takeNumber_5 (by decide) (fun c1 => ?_) (fun c1 => ?_)
  · have h := zife h c1
    refine zweak [true, true, false, false] ?_
    exact s_X7_takeNumber_b21 hC _ _ _ _ h
  · have h := zift h c1
    refine z_aload_n (x := x0) rfl dX7_takeNumber_8 ?_
    obtain ⟨v2, h2, h⟩ := zbind h
    refine z_gI hC fs_X7_28 h2 dX7_takeNumber_9 ?_
    refine z_aload_n (x := x0) rfl dX7_takeNumber_12 ?_
    obtain ⟨v3, h3, h⟩ := zbind h
    refine z_gI hC fs_X7_25 h3 dX7_takeNumber_13 ?_
    refine z_isub dX7_takeNumber_16 ?_
    refine z_iconst 1 (by decide) dX7_takeNumber_17 ?_
    refine z_icmp_eq (tgt := 27) dX7_takeNumber_18 (by decide) (fun c2 => ?_) (fun c2 => ?_)
    · have h := zift h c2
      refine z_aload_n (x := x0) rfl dX7_takeNumber_27 ?_
      refine z_aload_n (x := x0) rfl dX7_takeNumber_28 ?_
      obtain ⟨v4, h4, h⟩ := zbind h
      refine z_gI hC fs_X7_25 h4 dX7_takeNumber_29 ?_
      obtain ⟨_, hb, h⟩ := zbind h
      obtain ⟨fs, hb⟩ := zob_some hb
      obtain ⟨q1, h5, h⟩ := zbind h
      refine z_callV (av := [.int v4]) (rest := []) hC zcl_7 hb (s_X7_byteAt hC h5) lk_X7_124 im_X7_byteAt se_X7_byteAt cd_X7_byteAt ⟨by decide, by decide, (Nat.le_of_ble_eq_true rfl)⟩ dX7_takeNumber_32 ?_
      clear hb fs
      refine zeqS (stk2 := [.int q1.1]) rfl ?_
      refine z_bipush 48 (by decide) dX7_takeNumber_35 ?_
      refine z_isub dX7_takeNumber_37 ?_
      refine z_nameI (fun v5 hv => ?_)
      have h := zlet_use h hv
      clear hv
      refine z_istore_n dX7_takeNumber_38 (by decide) ?_
      refine zeqL (L2 := [.ref x0, .int x1, .int x2, .int v5]) rfl ?_
      refine z_iload_n (x := v5) rfl dX7_takeNumber_39 ?_
      refine z_iload_n (x := x1) rfl dX7_takeNumber_40 ?_
      refine z_icmp_lt (tgt := 49) dX7_takeNumber_41 (by decide) (fun c3 => ?_) (fun c3 => ?_)
      · have h := zift h c3
        refine zweak [true, true, false, false] ?_
        exact s_X7_takeNumber_b49 hC _ _ _ _ h
      · have h := zife h c3
        refine z_iload_n (x := v5) rfl dX7_takeNumber_44 ?_
        refine z_iload_n (x := x2) rfl dX7_takeNumber_45 ?_
        refine z_icmp_le (tgt := 55) dX7_takeNumber_46 (by decide) (fun c4 => ?_) (fun c4 => ?_)
        · have h := zift h c4
          refine z_aload_n (x := x0) rfl dX7_takeNumber_55 ?_
          obtain ⟨_, hb, h⟩ := zbind h
          obtain ⟨fs, hb⟩ := zob_some hb
          obtain ⟨q2, h6, h⟩ := zbind h
          refine z_callV (av := []) (rest := []) hC zcl_7 hb (s_X7_advance hC h6) lk_X7_38 im_X7_advance se_X7_advance cd_X7_advance ⟨by decide, by decide, (Nat.le_of_ble_eq_true rfl)⟩ dX7_takeNumber_56 ?_
          clear hb fs
          refine zeqS (stk2 := []) rfl ?_
          refine z_iload_n (x := v5) rfl dX7_takeNumber_59 ?_
          obtain rfl := Option.some.inj h
          exact z_iret ⟨.int, rfl, rfl⟩ dX7_takeNumber_60
        · have h := zife h c4
          refine zweak [true, true, false, false] ?_
          exact s_X7_takeNumber_b49 hC _ _ _ _ h
    · have h := zife h c2
      refine zweak [true, true, false, false] ?_
      exact s_X7_takeNumber_b21 hC _ _ _ _ h
def f_X7_takeMark_b19   (M : zMe) : Option zMe :=
  some M
set_option maxHeartbeats 4000000 in
set_option maxRecDepth 100000 in
theorem s_X7_takeMark_b19 {g : zG} (hC : zC g)   (M : zMe) (q : zMe) (h : f_X7_takeMark_b19   M = some q) : zW g mX7_takeMark 19 [.retAddr 0] [] M none q := by
  unfold f_X7_takeMark_b19 at h
  obtain rfl := Option.some.inj h
  exact z_ret rfl dX7_takeMark_19
def f_X7_takeMark (x0 : Nat) (M : zMe) : Option zMe :=
  (zgI M x0 [7] 4).bind fun v1 =>
  if v1 = 3 then (
    (zob M x0 7).bind fun _ =>
    (f_X7_advance x0 M).bind fun q1 =>
    f_X7_takeMark_b19 q1)
  else (
    (zob M x0 7).bind fun _ =>
    (f_X7_fail x0 M).bind fun q2 =>
    f_X7_takeMark_b19 q2)
set_option maxHeartbeats 4000000 in
set_option maxRecDepth 100000 in
theorem s_X7_takeMark {g : zG} (hC : zC g) {x0 : Nat} {M : zMe} {q : zMe} (h : f_X7_takeMark x0 M = some q) : zMet g yX7_takeMark mX7_takeMark [.ref x0] M none q := by
  refine z_entry (by decide +kernel) rfl rfl (Nat.le_of_ble_eq_true rfl) ?_
  refine zeqL (L2 := [.ref x0]) rfl ?_
  unfold f_X7_takeMark at h
  refine z_aload_n (x := x0) rfl dX7_takeMark_0 ?_
  obtain ⟨v1, h1, h⟩ := zbind h
  refine z_gI hC fs_X7_22 h1 dX7_takeMark_1 ?_
  refine z_iconst 3 (by decide) dX7_takeMark_4 ?_
  refine z_icmp_ne (tgt := 15) dX7_takeMark_5 (by decide) (fun c1 => ?_) (fun c1 => ?_)
  · have h := zife h c1
    refine z_aload_n (x := x0) rfl dX7_takeMark_15 ?_
    obtain ⟨_, hb, h⟩ := zbind h
    obtain ⟨fs, hb⟩ := zob_some hb
    obtain ⟨q2, h3, h⟩ := zbind h
    refine z_callV (av := []) (rest := []) hC zcl_7 hb (s_X7_fail hC h3) lk_X7_47 im_X7_fail se_X7_fail cd_X7_fail ⟨by decide, by decide, (Nat.le_of_ble_eq_true rfl)⟩ dX7_takeMark_16 ?_
    clear hb fs
    refine zeqS (stk2 := []) rfl ?_
    refine zweak [false] ?_
    exact s_X7_takeMark_b19 hC _ _ h
  · have h := zift h c1
    refine z_aload_n (x := x0) rfl dX7_takeMark_8 ?_
    obtain ⟨_, hb, h⟩ := zbind h
    obtain ⟨fs, hb⟩ := zob_some hb
    obtain ⟨q1, h2, h⟩ := zbind h
    refine z_callV (av := []) (rest := []) hC zcl_7 hb (s_X7_advance hC h2) lk_X7_38 im_X7_advance se_X7_advance cd_X7_advance ⟨by decide, by decide, (Nat.le_of_ble_eq_true rfl)⟩ dX7_takeMark_9 ?_
    clear hb fs
    refine zeqS (stk2 := []) rfl ?_
    refine z_goto (tgt := 19) dX7_takeMark_12 (by decide) ?_
    refine zweak [false] ?_
    exact s_X7_takeMark_b19 hC _ _ h
def f_X7_takePlaceBit (x0 : Nat) (M : zMe) : Option (Int32 × zMe) :=
  (zgN M x0 [7] 0).bind fun a1 =>
  (zgI M a1 [2] 0).bind fun v1 =>
  (zob M x0 7).bind fun _ =>
  (f_X7_takeNumber x0 0 (v1 - 1) M).bind fun q1 =>
  some ((1 : Int32) <<< (q1.1 &&& 31), q1.2)
set_option maxHeartbeats 4000000 in
set_option maxRecDepth 100000 in
theorem s_X7_takePlaceBit {g : zG} (hC : zC g) {x0 : Nat} {M : zMe} {q : (Int32 × zMe)} (h : f_X7_takePlaceBit x0 M = some q) : zMet g yX7_takePlaceBit mX7_takePlaceBit [.ref x0] M (some (.int q.1)) q.2 := by
  refine z_entry (by decide +kernel) rfl rfl (Nat.le_of_ble_eq_true rfl) ?_
  refine zeqL (L2 := [.ref x0]) rfl ?_
  unfold f_X7_takePlaceBit at h
  refine z_iconst 1 (by decide) dX7_takePlaceBit_0 ?_
  refine z_aload_n (x := x0) rfl dX7_takePlaceBit_1 ?_
  refine z_iconst 0 (by decide) dX7_takePlaceBit_2 ?_
  refine z_aload_n (x := x0) rfl dX7_takePlaceBit_3 ?_
  obtain ⟨a1, h1, h⟩ := zbind h
  refine z_gN hC fs_X7_12 h1 dX7_takePlaceBit_4 ?_
  obtain ⟨v1, h2, h⟩ := zbind h
  refine z_gI hC fs_X7_75 h2 dX7_takePlaceBit_7 ?_
  refine z_iconst 1 (by decide) dX7_takePlaceBit_10 ?_
  refine z_isub dX7_takePlaceBit_11 ?_
  obtain ⟨_, hb, h⟩ := zbind h
  obtain ⟨fs, hb⟩ := zob_some hb
  obtain ⟨q1, h3, h⟩ := zbind h
  refine z_callV (av := [.int 0, .int (v1 - 1)]) (rest := [.int 1]) hC zcl_7 hb (s_X7_takeNumber hC h3) lk_X7_50 im_X7_takeNumber se_X7_takeNumber cd_X7_takeNumber ⟨by decide, by decide, (Nat.le_of_ble_eq_true rfl)⟩ dX7_takePlaceBit_12 ?_
  clear hb fs
  refine zeqS (stk2 := [.int q1.1, .int 1]) rfl ?_
  refine z_ishl dX7_takePlaceBit_15 ?_
  obtain rfl := Option.some.inj h
  exact z_iret ⟨.int, rfl, rfl⟩ dX7_takePlaceBit_16
def f_X7_readBreath_b38   (M : zMe) : Option zMe :=
  some M
set_option maxHeartbeats 4000000 in
set_option maxRecDepth 100000 in
theorem s_X7_readBreath_b38 {g : zG} (hC : zC g)   (M : zMe) (q : zMe) (h : f_X7_readBreath_b38   M = some q) : zW g mX7_readBreath 38 [.retAddr 0, .retAddr 0, .retAddr 0] [] M none q := by
  unfold f_X7_readBreath_b38 at h
  obtain rfl := Option.some.inj h
  exact z_ret rfl dX7_readBreath_38
def f_X7_readBreath (x0 : Nat) (M : zMe) : Option zMe :=
  (zob M x0 7).bind fun _ =>
  (f_X7_takeNumber x0 0 1 M).bind fun q1 =>
  (zob q1.2 x0 7).bind fun _ =>
  (f_X7_takeNumber x0 1 9 q1.2).bind fun q2 =>
  if q1.1 = 0 then (
    (zgN q2.2 x0 [7] 0).bind fun a1 =>
    (zpI q2.2 a1 [2] 4 q2.1).bind fun M1 =>
    f_X7_readBreath_b38 M1)
  else (
    (zgN q2.2 x0 [7] 0).bind fun a2 =>
    (zpI q2.2 a2 [2] 5 q2.1).bind fun M2 =>
    f_X7_readBreath_b38 M2)
set_option maxHeartbeats 4000000 in
set_option maxRecDepth 100000 in
theorem s_X7_readBreath {g : zG} (hC : zC g) {x0 : Nat} {M : zMe} {q : zMe} (h : f_X7_readBreath x0 M = some q) : zMet g yX7_readBreath mX7_readBreath [.ref x0] M none q := by
  refine z_entry (by decide +kernel) rfl rfl (Nat.le_of_ble_eq_true rfl) ?_
  refine zeqL (L2 := [.ref x0, .retAddr 0, .retAddr 0]) rfl ?_
  unfold f_X7_readBreath at h
  refine z_aload_n (x := x0) rfl dX7_readBreath_0 ?_
  refine z_iconst 0 (by decide) dX7_readBreath_1 ?_
  refine z_iconst 1 (by decide) dX7_readBreath_2 ?_
  obtain ⟨_, hb, h⟩ := zbind h
  obtain ⟨fs, hb⟩ := zob_some hb
  obtain ⟨q1, h1, h⟩ := zbind h
  refine z_callV (av := [.int 0, .int 1]) (rest := []) hC zcl_7 hb (s_X7_takeNumber hC h1) lk_X7_50 im_X7_takeNumber se_X7_takeNumber cd_X7_takeNumber ⟨by decide, by decide, (Nat.le_of_ble_eq_true rfl)⟩ dX7_readBreath_3 ?_
  clear hb fs
  refine zeqS (stk2 := [.int q1.1]) rfl ?_
  refine z_istore_n dX7_readBreath_6 (by decide) ?_
  refine zeqL (L2 := [.ref x0, .int q1.1, .retAddr 0]) rfl ?_
  refine z_aload_n (x := x0) rfl dX7_readBreath_7 ?_
  refine z_iconst 1 (by decide) dX7_readBreath_8 ?_
  refine z_bipush 9 (by decide) dX7_readBreath_9 ?_
  obtain ⟨_, hb, h⟩ := zbind h
  obtain ⟨fs, hb⟩ := zob_some hb
  obtain ⟨q2, h2, h⟩ := zbind h
  refine z_callV (av := [.int 1, .int 9]) (rest := []) hC zcl_7 hb (s_X7_takeNumber hC h2) lk_X7_50 im_X7_takeNumber se_X7_takeNumber cd_X7_takeNumber ⟨by decide, by decide, (Nat.le_of_ble_eq_true rfl)⟩ dX7_readBreath_11 ?_
  clear hb fs
  refine zeqS (stk2 := [.int q2.1]) rfl ?_
  refine z_istore_n dX7_readBreath_14 (by decide) ?_
  refine zeqL (L2 := [.ref x0, .int q1.1, .int q2.1]) rfl ?_
  refine z_iload_n (x := q1.1) rfl dX7_readBreath_15 ?_
  refine z_if_ne (tgt := 30) dX7_readBreath_16 (by decide) (fun c1 => ?_) (fun c1 => ?_)
  · have h := zife h c1
    refine z_aload_n (x := x0) rfl dX7_readBreath_30 ?_
    obtain ⟨a2, h5, h⟩ := zbind h
    refine z_gN hC fs_X7_12 h5 dX7_readBreath_31 ?_
    refine z_iload_n (x := q2.1) rfl dX7_readBreath_34 ?_
    obtain ⟨M2, h6, h⟩ := zbind h
    refine z_pI hC fp_X7_102 h6 dX7_readBreath_35 ?_
    refine zweak [false, false, false] ?_
    exact s_X7_readBreath_b38 hC _ _ h
  · have h := zift h c1
    refine z_aload_n (x := x0) rfl dX7_readBreath_19 ?_
    obtain ⟨a1, h3, h⟩ := zbind h
    refine z_gN hC fs_X7_12 h3 dX7_readBreath_20 ?_
    refine z_iload_n (x := q2.1) rfl dX7_readBreath_23 ?_
    obtain ⟨M1, h4, h⟩ := zbind h
    refine z_pI hC fp_X7_99 h4 dX7_readBreath_24 ?_
    refine z_goto (tgt := 38) dX7_readBreath_27 (by decide) ?_
    refine zweak [false, false, false] ?_
    exact s_X7_readBreath_b38 hC _ _ h
def f_X7_takeRow_b37  : Nat → Nat → Int32 → Int32 → zMe → Option (Int32 × zMe)
  | 0, _, _, _, _ => none
  | n + 1, x0, x1, x2, M =>
    (zgN M x0 [7] 0).bind fun a1 =>
    (zgI M a1 [2] 0).bind fun v1 =>
    if v1 ≤ x2 then (
      (zob M x0 7).bind fun _ =>
      (f_X7_advance x0 M).bind fun q1 =>
      some (x1, q1))
    else (
      (zgI M x0 [7] 5).bind fun v2 =>
      (zob M x0 7).bind fun _ =>
      (f_X7_byteAt x0 (v2 + x2) M).bind fun q2 =>
      zlet (q2.1 - 97 : Int32) fun v3 =>
      (zgN q2.2 x0 [7] 0).bind fun a2 =>
      (zob q2.2 a2 2).bind fun _ =>
      (f_X2_isPlace a2 v3 q2.2).bind fun q3 =>
      if q3.1 = 0 then (
        (zob q3.2 x0 7).bind fun _ =>
        (f_X7_fail x0 q3.2).bind fun q4 =>
        some (0, q4))
      else (
        zlet (x1 ||| (v3 <<< ((3 * x2) &&& 31)) : Int32) fun v4 =>
        zlet (x2 + 1) fun v5 =>
        f_X7_takeRow_b37 n x0 v4 v5 q3.2))
set_option maxHeartbeats 4000000 in
set_option maxRecDepth 100000 in
theorem s_X7_takeRow_b37 {g : zG} (hC : zC g)  : ∀ (n : Nat) (x0 : Nat) (x1 : Int32) (x2 : Int32) (M : zMe) (q : (Int32 × zMe)), f_X7_takeRow_b37  n x0 x1 x2 M = some q → zW g mX7_takeRow 37 [.ref x0, .int x1, .int x2, .retAddr 0] [] M (some (.int q.1)) q.2 := by
  intro n
  induction n with
  | zero => intro x0 x1 x2 M q h; cases h
  | succ n ih =>
    intro x0 x1 x2 M q h
    rw [f_X7_takeRow_b37] at h
    refine z_iload_n (x := x2) rfl dX7_takeRow_37 ?_
    refine z_aload_n (x := x0) rfl dX7_takeRow_38 ?_
    obtain ⟨a1, h1, h⟩ := zbind h
    refine z_gN hC fs_X7_12 h1 dX7_takeRow_39 ?_
    obtain ⟨v1, h2, h⟩ := zbind h
    refine z_gI hC fs_X7_75 h2 dX7_takeRow_42 ?_
    refine z_icmp_ge (tgt := 93) dX7_takeRow_45 (by decide) (fun c1 => ?_) (fun c1 => ?_)
    · have h := zift h c1
      refine z_aload_n (x := x0) rfl dX7_takeRow_93 ?_
      obtain ⟨_, hb, h⟩ := zbind h
      obtain ⟨fs, hb⟩ := zob_some hb
      obtain ⟨q1, h3, h⟩ := zbind h
      refine z_callV (av := []) (rest := []) hC zcl_7 hb (s_X7_advance hC h3) lk_X7_38 im_X7_advance se_X7_advance cd_X7_advance ⟨by decide, by decide, (Nat.le_of_ble_eq_true rfl)⟩ dX7_takeRow_94 ?_
      clear hb fs
      refine zeqS (stk2 := []) rfl ?_
      refine z_iload_n (x := x1) rfl dX7_takeRow_97 ?_
      obtain rfl := Option.some.inj h
      exact z_iret ⟨.int, rfl, rfl⟩ dX7_takeRow_98
    · have h := zife h c1
      refine z_aload_n (x := x0) rfl dX7_takeRow_48 ?_
      refine z_aload_n (x := x0) rfl dX7_takeRow_49 ?_
      obtain ⟨v2, h4, h⟩ := zbind h
      refine z_gI hC fs_X7_25 h4 dX7_takeRow_50 ?_
      refine z_iload_n (x := x2) rfl dX7_takeRow_53 ?_
      refine z_iadd dX7_takeRow_54 ?_
      obtain ⟨_, hb, h⟩ := zbind h
      obtain ⟨fs, hb⟩ := zob_some hb
      obtain ⟨q2, h5, h⟩ := zbind h
      refine z_callV (av := [.int (v2 + x2)]) (rest := []) hC zcl_7 hb (s_X7_byteAt hC h5) lk_X7_124 im_X7_byteAt se_X7_byteAt cd_X7_byteAt ⟨by decide, by decide, (Nat.le_of_ble_eq_true rfl)⟩ dX7_takeRow_55 ?_
      clear hb fs
      refine zeqS (stk2 := [.int q2.1]) rfl ?_
      refine z_bipush 97 (by decide) dX7_takeRow_58 ?_
      refine z_isub dX7_takeRow_60 ?_
      refine z_nameI (fun v3 hv => ?_)
      have h := zlet_use h hv
      clear hv
      refine z_istore_n dX7_takeRow_61 (by decide) ?_
      refine zeqL (L2 := [.ref x0, .int x1, .int x2, .int v3]) rfl ?_
      refine z_aload_n (x := x0) rfl dX7_takeRow_62 ?_
      obtain ⟨a2, h6, h⟩ := zbind h
      refine z_gN hC fs_X7_12 h6 dX7_takeRow_63 ?_
      refine z_iload_n (x := v3) rfl dX7_takeRow_66 ?_
      obtain ⟨_, hb, h⟩ := zbind h
      obtain ⟨fs, hb⟩ := zob_some hb
      obtain ⟨q3, h7, h⟩ := zbind h
      refine z_callV (av := [.int v3]) (rest := []) hC zcl_2 hb (s_X2_isPlace hC h7) lk_X7_128 im_X2_isPlace se_X2_isPlace cd_X2_isPlace ⟨by decide, by decide, (Nat.le_of_ble_eq_true rfl)⟩ dX7_takeRow_67 ?_
      clear hb fs
      refine zeqS (stk2 := [.int q3.1]) rfl ?_
      refine z_if_ne (tgt := 79) dX7_takeRow_70 (by decide) (fun c2 => ?_) (fun c2 => ?_)
      · have h := zife h c2
        refine z_iload_n (x := x1) rfl dX7_takeRow_79 ?_
        refine z_iload_n (x := v3) rfl dX7_takeRow_80 ?_
        refine z_iconst 3 (by decide) dX7_takeRow_81 ?_
        refine z_iload_n (x := x2) rfl dX7_takeRow_82 ?_
        refine z_imul dX7_takeRow_83 ?_
        refine z_ishl dX7_takeRow_84 ?_
        refine z_ior dX7_takeRow_85 ?_
        refine z_nameI (fun v4 hv => ?_)
        have h := zlet_use h hv
        clear hv
        refine z_istore_n dX7_takeRow_86 (by decide) ?_
        refine zeqL (L2 := [.ref x0, .int v4, .int x2, .int v3]) rfl ?_
        obtain ⟨v5, hv⟩ : ∃ z : Int32, z = x2 + 1 := ⟨_, rfl⟩
        have h := zlet_use h hv
        refine z_iinc (v := v5) dX7_takeRow_87 (x := x2) rfl (by rw [hv]; rfl) ?_
        clear hv
        refine zeqL (L2 := [.ref x0, .int v4, .int v5, .int v3]) rfl ?_
        refine z_goto (tgt := 37) dX7_takeRow_90 (by decide) ?_
        refine zweak [true, true, true, false] ?_
        exact ih _ _ _ _ _ h
      · have h := zift h c2
        refine z_aload_n (x := x0) rfl dX7_takeRow_73 ?_
        obtain ⟨_, hb, h⟩ := zbind h
        obtain ⟨fs, hb⟩ := zob_some hb
        obtain ⟨q4, h8, h⟩ := zbind h
        refine z_callV (av := []) (rest := []) hC zcl_7 hb (s_X7_fail hC h8) lk_X7_47 im_X7_fail se_X7_fail cd_X7_fail ⟨by decide, by decide, (Nat.le_of_ble_eq_true rfl)⟩ dX7_takeRow_74 ?_
        clear hb fs
        refine zeqS (stk2 := []) rfl ?_
        refine z_iconst 0 (by decide) dX7_takeRow_77 ?_
        obtain rfl := Option.some.inj h
        exact z_iret ⟨.int, rfl, rfl⟩ dX7_takeRow_78
def f_X7_takeRow_b27  (x0 : Nat) (M : zMe) : Option (Int32 × zMe) :=
  (zob M x0 7).bind fun _ =>
  (f_X7_fail x0 M).bind fun q1 =>
  some (0, q1)
set_option maxHeartbeats 4000000 in
set_option maxRecDepth 100000 in
theorem s_X7_takeRow_b27 {g : zG} (hC : zC g)  (x0 : Nat) (M : zMe) (q : (Int32 × zMe)) (h : f_X7_takeRow_b27  x0 M = some q) : zW g mX7_takeRow 27 [.ref x0, .retAddr 0, .retAddr 0, .retAddr 0] [] M (some (.int q.1)) q.2 := by
  unfold f_X7_takeRow_b27 at h
  refine z_aload_n (x := x0) rfl dX7_takeRow_27 ?_
  obtain ⟨_, hb, h⟩ := zbind h
  obtain ⟨fs, hb⟩ := zob_some hb
  obtain ⟨q1, h1, h⟩ := zbind h
  refine z_callV (av := []) (rest := []) hC zcl_7 hb (s_X7_fail hC h1) lk_X7_47 im_X7_fail se_X7_fail cd_X7_fail ⟨by decide, by decide, (Nat.le_of_ble_eq_true rfl)⟩ dX7_takeRow_28 ?_
  clear hb fs
  refine zeqS (stk2 := []) rfl ?_
  refine z_iconst 0 (by decide) dX7_takeRow_31 ?_
  obtain rfl := Option.some.inj h
  exact z_iret ⟨.int, rfl, rfl⟩ dX7_takeRow_32
def f_X7_takeRow (x0 : Nat) (M : zMe) : Option (Int32 × zMe) :=
  (zgI M x0 [7] 4).bind fun v1 =>
  if v1 = 1 then (
    (zgI M x0 [7] 6).bind fun v2 =>
    (zgI M x0 [7] 5).bind fun v3 =>
    (zgN M x0 [7] 0).bind fun a1 =>
    (zgI M a1 [2] 0).bind fun v4 =>
    if (v2 - v3) = v4 then (
      f_X7_takeRow_b37 zfu x0 0 0 M)
    else (
      f_X7_takeRow_b27 x0 M))
  else (
    f_X7_takeRow_b27 x0 M)
set_option maxHeartbeats 4000000 in
set_option maxRecDepth 100000 in
theorem s_X7_takeRow {g : zG} (hC : zC g) {x0 : Nat} {M : zMe} {q : (Int32 × zMe)} (h : f_X7_takeRow x0 M = some q) : zMet g yX7_takeRow mX7_takeRow [.ref x0] M (some (.int q.1)) q.2 := by
  refine z_entry (by decide +kernel) rfl rfl (Nat.le_of_ble_eq_true rfl) ?_
  refine zeqL (L2 := [.ref x0, .retAddr 0, .retAddr 0, .retAddr 0]) rfl ?_
  unfold f_X7_takeRow at h
  refine z_aload_n (x := x0) rfl dX7_takeRow_0 ?_
  obtain ⟨v1, h1, h⟩ := zbind h
  refine z_gI hC fs_X7_22 h1 dX7_takeRow_1 ?_
  refine z_iconst 1 (by decide) dX7_takeRow_4 ?_
  refine z_icmp_ne (tgt := 27) dX7_takeRow_5 (by decide) (fun c1 => ?_) (fun c1 => ?_)
  · have h := zife h c1
    exact s_X7_takeRow_b27 hC _ _ _ h
  · have h := zift h c1
    refine z_aload_n (x := x0) rfl dX7_takeRow_8 ?_
    obtain ⟨v2, h2, h⟩ := zbind h
    refine z_gI hC fs_X7_28 h2 dX7_takeRow_9 ?_
    refine z_aload_n (x := x0) rfl dX7_takeRow_12 ?_
    obtain ⟨v3, h3, h⟩ := zbind h
    refine z_gI hC fs_X7_25 h3 dX7_takeRow_13 ?_
    refine z_isub dX7_takeRow_16 ?_
    refine z_aload_n (x := x0) rfl dX7_takeRow_17 ?_
    obtain ⟨a1, h4, h⟩ := zbind h
    refine z_gN hC fs_X7_12 h4 dX7_takeRow_18 ?_
    obtain ⟨v4, h5, h⟩ := zbind h
    refine z_gI hC fs_X7_75 h5 dX7_takeRow_21 ?_
    refine z_icmp_eq (tgt := 33) dX7_takeRow_24 (by decide) (fun c2 => ?_) (fun c2 => ?_)
    · have h := zift h c2
      refine z_iconst 0 (by decide) dX7_takeRow_33 ?_
      refine z_istore_n dX7_takeRow_34 (by decide) ?_
      refine zeqL (L2 := [.ref x0, .int 0, .retAddr 0, .retAddr 0]) rfl ?_
      refine z_iconst 0 (by decide) dX7_takeRow_35 ?_
      refine z_istore_n dX7_takeRow_36 (by decide) ?_
      refine zeqL (L2 := [.ref x0, .int 0, .int 0, .retAddr 0]) rfl ?_
      exact s_X7_takeRow_b37 hC _ _ _ _ _ _ h
    · have h := zife h c2
      exact s_X7_takeRow_b27 hC _ _ _ h
def f_X11_isRowsKind_b19  (y0 : Int32) (M : zMe) : Option (Int32 × zMe) :=
  if y0 = 0 ∨ y0 = 1 then some (y0, M) else none
set_option maxHeartbeats 4000000 in
set_option maxRecDepth 100000 in
theorem s_X11_isRowsKind_b19 {g : zG} (hC : zC g)  (y0 : Int32) (M : zMe) (q : (Int32 × zMe)) (h : f_X11_isRowsKind_b19  y0 M = some q) : zW g mX11_isRowsKind 19 [.retAddr 0] [.int y0] M (some (.int q.1)) q.2 := by
  unfold f_X11_isRowsKind_b19 at h
  obtain ⟨hz, h⟩ := zifs h
  obtain rfl := Option.some.inj h
  exact z_iret ⟨.boolean, rfl, zbo hz⟩ dX11_isRowsKind_19
def f_X11_isRowsKind_b14   (M : zMe) : Option (Int32 × zMe) :=
  f_X11_isRowsKind_b19 1 M
set_option maxHeartbeats 4000000 in
set_option maxRecDepth 100000 in
theorem s_X11_isRowsKind_b14 {g : zG} (hC : zC g)   (M : zMe) (q : (Int32 × zMe)) (h : f_X11_isRowsKind_b14   M = some q) : zW g mX11_isRowsKind 14 [.retAddr 0] [] M (some (.int q.1)) q.2 := by
  unfold f_X11_isRowsKind_b14 at h
  refine z_iconst 1 (by decide) dX11_isRowsKind_14 ?_
  refine z_goto (tgt := 19) dX11_isRowsKind_15 (by decide) ?_
  exact s_X11_isRowsKind_b19 hC _ _ _ h
def f_X11_isRowsKind (x0 : Int32) (M : zMe) : Option (Int32 × zMe) :=
  if x0 = 0 then (
    f_X11_isRowsKind_b14 M)
  else (
    if x0 = 1 then (
      f_X11_isRowsKind_b14 M)
    else (
      if x0 = 4 then (
        f_X11_isRowsKind_b14 M)
      else (
        f_X11_isRowsKind_b19 0 M)))
set_option maxHeartbeats 4000000 in
set_option maxRecDepth 100000 in
theorem s_X11_isRowsKind {g : zG} (hC : zC g) {x0 : Int32} {M : zMe} {q : (Int32 × zMe)} (h : f_X11_isRowsKind x0 M = some q) : zMet g yX11_isRowsKind mX11_isRowsKind [.int x0] M (some (.int q.1)) q.2 := by
  refine z_entry (by decide +kernel) rfl rfl (Nat.le_of_ble_eq_true rfl) ?_
  refine zeqL (L2 := [.int x0]) rfl ?_
  unfold f_X11_isRowsKind at h
  refine z_iload_n (x := x0) rfl dX11_isRowsKind_0 ?_
  refine z_if_eq (tgt := 14) dX11_isRowsKind_1 (by decide) (fun c1 => ?_) (fun c1 => ?_)
  · have h := zift h c1
    refine zweak [false] ?_
    exact s_X11_isRowsKind_b14 hC _ _ h
  · have h := zife h c1
    refine z_iload_n (x := x0) rfl dX11_isRowsKind_4 ?_
    refine z_iconst 1 (by decide) dX11_isRowsKind_5 ?_
    refine z_icmp_eq (tgt := 14) dX11_isRowsKind_6 (by decide) (fun c2 => ?_) (fun c2 => ?_)
    · have h := zift h c2
      refine zweak [false] ?_
      exact s_X11_isRowsKind_b14 hC _ _ h
    · have h := zife h c2
      refine z_iload_n (x := x0) rfl dX11_isRowsKind_9 ?_
      refine z_iconst 4 (by decide) dX11_isRowsKind_10 ?_
      refine z_icmp_ne (tgt := 18) dX11_isRowsKind_11 (by decide) (fun c3 => ?_) (fun c3 => ?_)
      · have h := zife h c3
        refine z_iconst 0 (by decide) dX11_isRowsKind_18 ?_
        refine zweak [false] ?_
        exact s_X11_isRowsKind_b19 hC _ _ _ h
      · have h := zift h c3
        refine zweak [false] ?_
        exact s_X11_isRowsKind_b14 hC _ _ h
def f_X9_init (x0 : Nat) (x1 : Int32) (x2 : Int32) (x3 : Int32) (M : zMe) : Option zMe :=
  (f_X1_init x0 x1 x2 x3 M).bind fun q1 =>
  some q1
set_option maxHeartbeats 4000000 in
set_option maxRecDepth 100000 in
theorem s_X9_init {g : zG} (hC : zC g) {x0 : Nat} {x1 : Int32} {x2 : Int32} {x3 : Int32} {M : zMe} {q : zMe} (h : f_X9_init x0 x1 x2 x3 M = some q) : zMet g yX9_init mX9_init [.ref x0, .int x1, .int x2, .int x3] M none q := by
  refine z_entry (by decide +kernel) rfl rfl (Nat.le_of_ble_eq_true rfl) ?_
  refine zeqL (L2 := [.ref x0, .int x1, .int x2, .int x3]) rfl ?_
  unfold f_X9_init at h
  refine z_aload_n (x := x0) rfl dX9_init_0 ?_
  refine z_iload_n (x := x1) rfl dX9_init_1 ?_
  refine z_iload_n (x := x2) rfl dX9_init_2 ?_
  refine z_iload_n (x := x3) rfl dX9_init_3 ?_
  obtain ⟨q1, h1, h⟩ := zbind h
  refine z_callI (av := [.int x1, .int x2, .int x3]) (rest := []) hC (s_X1_init hC h1) lk_X9_1 im_X1_init rfl rfl cd_X1_init ⟨by decide, by decide, (Nat.le_of_ble_eq_true rfl)⟩ dX9_init_4 ?_
  refine zeqS (stk2 := []) rfl ?_
  obtain rfl := Option.some.inj h
  exact z_ret rfl dX9_init_7
def f_X11_bred (x0 : Int32) (x1 : Int32) (x2 : Int32) (M : zMe) : Option (Option Nat × zMe) :=
  if x0 = 1 then (
    zlet (zAdd M (.inr (1, [.int 0, .int 0, .int 0])) 3) fun M1 =>
    (f_X1_init M.2.1 x0 x1 x2 M1).bind fun q1 =>
    some (some M.2.1, q1))
  else (
    if x0 = 4 then (
      zlet (zAdd M (.inr (9, [.int 0, .int 0, .int 0])) 3) fun M2 =>
      (f_X9_init M.2.1 x0 x1 x2 M2).bind fun q2 =>
      some (some M.2.1, q2))
    else (
      zlet (zAdd M (.inr (5, [.int 0, .int 0, .int 0])) 3) fun M3 =>
      (f_X5_init M.2.1 x0 x1 x2 M3).bind fun q3 =>
      some (some M.2.1, q3)))
set_option maxHeartbeats 4000000 in
set_option maxRecDepth 100000 in
theorem s_X11_bred {g : zG} (hC : zC g) {x0 : Int32} {x1 : Int32} {x2 : Int32} {M : zMe} {q : (Option Nat × zMe)} (h : f_X11_bred x0 x1 x2 M = some q) : zMet g yX11_bred mX11_bred [.int x0, .int x1, .int x2] M (some (va_rf q.1)) q.2 := by
  refine z_entry (by decide +kernel) rfl rfl (Nat.le_of_ble_eq_true rfl) ?_
  refine zeqL (L2 := [.int x0, .int x1, .int x2]) rfl ?_
  unfold f_X11_bred at h
  refine z_iload_n (x := x0) rfl dX11_bred_0 ?_
  refine z_iconst 1 (by decide) dX11_bred_1 ?_
  refine z_icmp_ne (tgt := 16) dX11_bred_2 (by decide) (fun c1 => ?_) (fun c1 => ?_)
  · have h := zife h c1
    refine z_iload_n (x := x0) rfl dX11_bred_16 ?_
    refine z_iconst 4 (by decide) dX11_bred_17 ?_
    refine z_icmp_ne (tgt := 32) dX11_bred_18 (by decide) (fun c2 => ?_) (fun c2 => ?_)
    · have h := zife h c2
      obtain ⟨M3, hm⟩ : ∃ z, z = zAdd M (.inr (5, [.int 0, .int 0, .int 0])) 3 := ⟨_, rfl⟩
      have h := zlet_use h hm
      refine z_nO hC zcl_5 (fs := [.int 0, .int 0, .int 0]) cl_X11_163 ins_5 ini_5 rfl df_5 hm dX11_bred_32 ?_
      refine z_dup rfl dX11_bred_35 ?_
      refine z_iload_n (x := x0) rfl dX11_bred_36 ?_
      refine z_iload_n (x := x1) rfl dX11_bred_37 ?_
      refine z_iload_n (x := x2) rfl dX11_bred_38 ?_
      obtain ⟨q3, h3, h⟩ := zbind h
      refine z_callI (av := [.int x0, .int x1, .int x2]) (rest := [.ref M.2.1]) hC (s_X5_init hC h3) lk_X11_289 im_X5_init rfl rfl cd_X5_init ⟨by decide, by decide, (Nat.le_of_ble_eq_true rfl)⟩ dX11_bred_39 ?_
      refine zeqS (stk2 := [.ref M.2.1]) rfl ?_
      obtain rfl := Option.some.inj h
      exact z_aret (x := some M.2.1) rfl (Or.inl ⟨_, rfl⟩) dX11_bred_42
    · have h := zift h c2
      obtain ⟨M2, hm⟩ : ∃ z, z = zAdd M (.inr (9, [.int 0, .int 0, .int 0])) 3 := ⟨_, rfl⟩
      have h := zlet_use h hm
      refine z_nO hC zcl_9 (fs := [.int 0, .int 0, .int 0]) cl_X11_286 ins_9 ini_9 rfl df_9 hm dX11_bred_21 ?_
      refine z_dup rfl dX11_bred_24 ?_
      refine z_iload_n (x := x0) rfl dX11_bred_25 ?_
      refine z_iload_n (x := x1) rfl dX11_bred_26 ?_
      refine z_iload_n (x := x2) rfl dX11_bred_27 ?_
      obtain ⟨q2, h2, h⟩ := zbind h
      refine z_callI (av := [.int x0, .int x1, .int x2]) (rest := [.ref M.2.1]) hC (s_X9_init hC h2) lk_X11_288 im_X9_init rfl rfl cd_X9_init ⟨by decide, by decide, (Nat.le_of_ble_eq_true rfl)⟩ dX11_bred_28 ?_
      refine zeqS (stk2 := [.ref M.2.1]) rfl ?_
      obtain rfl := Option.some.inj h
      exact z_aret (x := some M.2.1) rfl (Or.inl ⟨_, rfl⟩) dX11_bred_31
  · have h := zift h c1
    obtain ⟨M1, hm⟩ : ∃ z, z = zAdd M (.inr (1, [.int 0, .int 0, .int 0])) 3 := ⟨_, rfl⟩
    have h := zlet_use h hm
    refine z_nO hC zcl_1 (fs := [.int 0, .int 0, .int 0]) cl_X11_281 ins_1 ini_1 rfl df_1 hm dX11_bred_5 ?_
    refine z_dup rfl dX11_bred_8 ?_
    refine z_iload_n (x := x0) rfl dX11_bred_9 ?_
    refine z_iload_n (x := x1) rfl dX11_bred_10 ?_
    refine z_iload_n (x := x2) rfl dX11_bred_11 ?_
    obtain ⟨q1, h1, h⟩ := zbind h
    refine z_callI (av := [.int x0, .int x1, .int x2]) (rest := [.ref M.2.1]) hC (s_X1_init hC h1) lk_X11_283 im_X1_init rfl rfl cd_X1_init ⟨by decide, by decide, (Nat.le_of_ble_eq_true rfl)⟩ dX11_bred_12 ?_
    refine zeqS (stk2 := [.ref M.2.1]) rfl ?_
    obtain rfl := Option.some.inj h
    exact z_aret (x := some M.2.1) rfl (Or.inl ⟨_, rfl⟩) dX11_bred_15
def f_X11_bredLearning (x0 : Int32) (x1 : Int32) (x2 : Int32) (x3 : Int32) (x4 : Int32) (x5 : Int32) (M : zMe) : Option (Option Nat × zMe) :=
  if x0 = 3 then (
    zlet (zAdd M (.inr (3, [.int 0, .int 0, .int 0, .int 0, .int 0, .int 0])) 6) fun M1 =>
    (f_X3_init M.2.1 x0 x1 x2 x3 x4 x5 M1).bind fun q1 =>
    some (some M.2.1, q1))
  else (
    zlet (zAdd M (.inr (6, [.int 0, .int 0, .int 0, .int 0, .int 0, .int 0])) 6) fun M2 =>
    (f_X6_init M.2.1 x0 x1 x2 x3 x4 x5 M2).bind fun q2 =>
    some (some M.2.1, q2))
set_option maxHeartbeats 4000000 in
set_option maxRecDepth 100000 in
theorem s_X11_bredLearning {g : zG} (hC : zC g) {x0 : Int32} {x1 : Int32} {x2 : Int32} {x3 : Int32} {x4 : Int32} {x5 : Int32} {M : zMe} {q : (Option Nat × zMe)} (h : f_X11_bredLearning x0 x1 x2 x3 x4 x5 M = some q) : zMet g yX11_bredLearning mX11_bredLearning [.int x0, .int x1, .int x2, .int x3, .int x4, .int x5] M (some (va_rf q.1)) q.2 := by
  refine z_entry (by decide +kernel) rfl rfl (Nat.le_of_ble_eq_true rfl) ?_
  refine zeqL (L2 := [.int x0, .int x1, .int x2, .int x3, .int x4, .int x5]) rfl ?_
  unfold f_X11_bredLearning at h
  refine z_iload_n (x := x0) rfl dX11_bredLearning_0 ?_
  refine z_iconst 3 (by decide) dX11_bredLearning_1 ?_
  refine z_icmp_ne (tgt := 21) dX11_bredLearning_2 (by decide) (fun c1 => ?_) (fun c1 => ?_)
  · have h := zife h c1
    obtain ⟨M2, hm⟩ : ∃ z, z = zAdd M (.inr (6, [.int 0, .int 0, .int 0, .int 0, .int 0, .int 0])) 6 := ⟨_, rfl⟩
    have h := zlet_use h hm
    refine z_nO hC zcl_6 (fs := [.int 0, .int 0, .int 0, .int 0, .int 0, .int 0]) cl_X11_295 ins_6 ini_6 rfl df_6 hm dX11_bredLearning_21 ?_
    refine z_dup rfl dX11_bredLearning_24 ?_
    refine z_iload_n (x := x0) rfl dX11_bredLearning_25 ?_
    refine z_iload_n (x := x1) rfl dX11_bredLearning_26 ?_
    refine z_iload_n (x := x2) rfl dX11_bredLearning_27 ?_
    refine z_iload_n (x := x3) rfl dX11_bredLearning_28 ?_
    refine z_iload (x := x4) rfl dX11_bredLearning_29 ?_
    refine z_iload (x := x5) rfl dX11_bredLearning_31 ?_
    obtain ⟨q2, h2, h⟩ := zbind h
    refine z_callI (av := [.int x0, .int x1, .int x2, .int x3, .int x4, .int x5]) (rest := [.ref M.2.1]) hC (s_X6_init hC h2) lk_X11_297 im_X6_init rfl rfl cd_X6_init ⟨by decide, by decide, (Nat.le_of_ble_eq_true rfl)⟩ dX11_bredLearning_33 ?_
    refine zeqS (stk2 := [.ref M.2.1]) rfl ?_
    obtain rfl := Option.some.inj h
    exact z_aret (x := some M.2.1) rfl (Or.inl ⟨_, rfl⟩) dX11_bredLearning_36
  · have h := zift h c1
    obtain ⟨M1, hm⟩ : ∃ z, z = zAdd M (.inr (3, [.int 0, .int 0, .int 0, .int 0, .int 0, .int 0])) 6 := ⟨_, rfl⟩
    have h := zlet_use h hm
    refine z_nO hC zcl_3 (fs := [.int 0, .int 0, .int 0, .int 0, .int 0, .int 0]) cl_X11_290 ins_3 ini_3 rfl df_3 hm dX11_bredLearning_5 ?_
    refine z_dup rfl dX11_bredLearning_8 ?_
    refine z_iload_n (x := x0) rfl dX11_bredLearning_9 ?_
    refine z_iload_n (x := x1) rfl dX11_bredLearning_10 ?_
    refine z_iload_n (x := x2) rfl dX11_bredLearning_11 ?_
    refine z_iload_n (x := x3) rfl dX11_bredLearning_12 ?_
    refine z_iload (x := x4) rfl dX11_bredLearning_13 ?_
    refine z_iload (x := x5) rfl dX11_bredLearning_15 ?_
    obtain ⟨q1, h1, h⟩ := zbind h
    refine z_callI (av := [.int x0, .int x1, .int x2, .int x3, .int x4, .int x5]) (rest := [.ref M.2.1]) hC (s_X3_init hC h1) lk_X11_292 im_X3_init rfl rfl cd_X3_init ⟨by decide, by decide, (Nat.le_of_ble_eq_true rfl)⟩ dX11_bredLearning_17 ?_
    refine zeqS (stk2 := [.ref M.2.1]) rfl ?_
    obtain rfl := Option.some.inj h
    exact z_aret (x := some M.2.1) rfl (Or.inl ⟨_, rfl⟩) dX11_bredLearning_20
def f_X7_readDog (x0 : Nat) (M : zMe) : Option zMe :=
  (zob M x0 7).bind fun _ =>
  (f_X7_takeNumber x0 0 4 M).bind fun q1 =>
  (zob q1.2 x0 7).bind fun _ =>
  (f_X7_takeRow x0 q1.2).bind fun q2 =>
  (zob q2.2 x0 7).bind fun _ =>
  (f_X7_takeRow x0 q2.2).bind fun q3 =>
  (f_X11_isRowsKind q1.1 q3.2).bind fun q4 =>
  if q4.1 = 0 then (
    (zob q4.2 x0 7).bind fun _ =>
    (f_X7_takeRow x0 q4.2).bind fun q5 =>
    (zob q5.2 x0 7).bind fun _ =>
    (f_X7_takeRow x0 q5.2).bind fun q6 =>
    (zob q6.2 x0 7).bind fun _ =>
    (f_X7_takeNumber x0 1 3 q6.2).bind fun q7 =>
    (zgN q7.2 x0 [7] 0).bind fun a1 =>
    (f_X11_bredLearning q1.1 q2.1 q3.1 q5.1 q6.1 q7.1 q7.2).bind fun q8 =>
    zcase q8.1 none fun a2 =>
    (zob q8.2 a1 2).bind fun _ =>
    (f_X2_addDog a1 a2 q8.2).bind fun q9 =>
    some q9.2)
  else (
    (zgN q4.2 x0 [7] 0).bind fun a3 =>
    (f_X11_bred q1.1 q2.1 q3.1 q4.2).bind fun q10 =>
    zcase q10.1 none fun a4 =>
    (zob q10.2 a3 2).bind fun _ =>
    (f_X2_addDog a3 a4 q10.2).bind fun q11 =>
    some q11.2)
set_option maxHeartbeats 4000000 in
set_option maxRecDepth 100000 in
theorem s_X7_readDog {g : zG} (hC : zC g) {x0 : Nat} {M : zMe} {q : zMe} (h : f_X7_readDog x0 M = some q) : zMet g yX7_readDog mX7_readDog [.ref x0] M none q := by
  refine z_entry (by decide +kernel) rfl rfl (Nat.le_of_ble_eq_true rfl) ?_
  refine zeqL (L2 := [.ref x0, .retAddr 0, .retAddr 0, .retAddr 0, .retAddr 0, .retAddr 0, .retAddr 0]) rfl ?_
  unfold f_X7_readDog at h
  refine z_aload_n (x := x0) rfl dX7_readDog_0 ?_
  refine z_iconst 0 (by decide) dX7_readDog_1 ?_
  refine z_iconst 4 (by decide) dX7_readDog_2 ?_
  obtain ⟨_, hb, h⟩ := zbind h
  obtain ⟨fs, hb⟩ := zob_some hb
  obtain ⟨q1, h1, h⟩ := zbind h
  refine z_callV (av := [.int 0, .int 4]) (rest := []) hC zcl_7 hb (s_X7_takeNumber hC h1) lk_X7_50 im_X7_takeNumber se_X7_takeNumber cd_X7_takeNumber ⟨by decide, by decide, (Nat.le_of_ble_eq_true rfl)⟩ dX7_readDog_3 ?_
  clear hb fs
  refine zeqS (stk2 := [.int q1.1]) rfl ?_
  refine z_istore_n dX7_readDog_6 (by decide) ?_
  refine zeqL (L2 := [.ref x0, .int q1.1, .retAddr 0, .retAddr 0, .retAddr 0, .retAddr 0, .retAddr 0]) rfl ?_
  refine z_aload_n (x := x0) rfl dX7_readDog_7 ?_
  obtain ⟨_, hb, h⟩ := zbind h
  obtain ⟨fs, hb⟩ := zob_some hb
  obtain ⟨q2, h2, h⟩ := zbind h
  refine z_callV (av := []) (rest := []) hC zcl_7 hb (s_X7_takeRow hC h2) lk_X7_105 im_X7_takeRow se_X7_takeRow cd_X7_takeRow ⟨by decide, by decide, (Nat.le_of_ble_eq_true rfl)⟩ dX7_readDog_8 ?_
  clear hb fs
  refine zeqS (stk2 := [.int q2.1]) rfl ?_
  refine z_istore_n dX7_readDog_11 (by decide) ?_
  refine zeqL (L2 := [.ref x0, .int q1.1, .int q2.1, .retAddr 0, .retAddr 0, .retAddr 0, .retAddr 0]) rfl ?_
  refine z_aload_n (x := x0) rfl dX7_readDog_12 ?_
  obtain ⟨_, hb, h⟩ := zbind h
  obtain ⟨fs, hb⟩ := zob_some hb
  obtain ⟨q3, h3, h⟩ := zbind h
  refine z_callV (av := []) (rest := []) hC zcl_7 hb (s_X7_takeRow hC h3) lk_X7_105 im_X7_takeRow se_X7_takeRow cd_X7_takeRow ⟨by decide, by decide, (Nat.le_of_ble_eq_true rfl)⟩ dX7_readDog_13 ?_
  clear hb fs
  refine zeqS (stk2 := [.int q3.1]) rfl ?_
  refine z_istore_n dX7_readDog_16 (by decide) ?_
  refine zeqL (L2 := [.ref x0, .int q1.1, .int q2.1, .int q3.1, .retAddr 0, .retAddr 0, .retAddr 0]) rfl ?_
  refine z_iload_n (x := q1.1) rfl dX7_readDog_17 ?_
  obtain ⟨q4, h4, h⟩ := zbind h
  refine z_callSN (av := [.int q1.1]) (rest := []) hC (s_X11_isRowsKind hC h4) ln_X7_108 st_X11_isRowsKind cd_X11_isRowsKind ⟨by decide, by decide, (Nat.le_of_ble_eq_true rfl)⟩ dX7_readDog_18 ?_
  refine zeqS (stk2 := [.int q4.1]) rfl ?_
  refine z_if_eq (tgt := 39) dX7_readDog_21 (by decide) (fun c1 => ?_) (fun c1 => ?_)
  · have h := zift h c1
    refine z_aload_n (x := x0) rfl dX7_readDog_39 ?_
    obtain ⟨_, hb, h⟩ := zbind h
    obtain ⟨fs, hb⟩ := zob_some hb
    obtain ⟨q5, h5, h⟩ := zbind h
    refine z_callV (av := []) (rest := []) hC zcl_7 hb (s_X7_takeRow hC h5) lk_X7_105 im_X7_takeRow se_X7_takeRow cd_X7_takeRow ⟨by decide, by decide, (Nat.le_of_ble_eq_true rfl)⟩ dX7_readDog_40 ?_
    clear hb fs
    refine zeqS (stk2 := [.int q5.1]) rfl ?_
    refine z_istore dX7_readDog_43 (by decide) ?_
    refine zeqL (L2 := [.ref x0, .int q1.1, .int q2.1, .int q3.1, .int q5.1, .retAddr 0, .retAddr 0]) rfl ?_
    refine z_aload_n (x := x0) rfl dX7_readDog_45 ?_
    obtain ⟨_, hb, h⟩ := zbind h
    obtain ⟨fs, hb⟩ := zob_some hb
    obtain ⟨q6, h6, h⟩ := zbind h
    refine z_callV (av := []) (rest := []) hC zcl_7 hb (s_X7_takeRow hC h6) lk_X7_105 im_X7_takeRow se_X7_takeRow cd_X7_takeRow ⟨by decide, by decide, (Nat.le_of_ble_eq_true rfl)⟩ dX7_readDog_46 ?_
    clear hb fs
    refine zeqS (stk2 := [.int q6.1]) rfl ?_
    refine z_istore dX7_readDog_49 (by decide) ?_
    refine zeqL (L2 := [.ref x0, .int q1.1, .int q2.1, .int q3.1, .int q5.1, .int q6.1, .retAddr 0]) rfl ?_
    refine z_aload_n (x := x0) rfl dX7_readDog_51 ?_
    refine z_iconst 1 (by decide) dX7_readDog_52 ?_
    refine z_iconst 3 (by decide) dX7_readDog_53 ?_
    obtain ⟨_, hb, h⟩ := zbind h
    obtain ⟨fs, hb⟩ := zob_some hb
    obtain ⟨q7, h7, h⟩ := zbind h
    refine z_callV (av := [.int 1, .int 3]) (rest := []) hC zcl_7 hb (s_X7_takeNumber hC h7) lk_X7_50 im_X7_takeNumber se_X7_takeNumber cd_X7_takeNumber ⟨by decide, by decide, (Nat.le_of_ble_eq_true rfl)⟩ dX7_readDog_54 ?_
    clear hb fs
    refine zeqS (stk2 := [.int q7.1]) rfl ?_
    refine z_istore dX7_readDog_57 (by decide) ?_
    refine zeqL (L2 := [.ref x0, .int q1.1, .int q2.1, .int q3.1, .int q5.1, .int q6.1, .int q7.1]) rfl ?_
    refine z_aload_n (x := x0) rfl dX7_readDog_59 ?_
    obtain ⟨a1, h8, h⟩ := zbind h
    refine z_gN hC fs_X7_12 h8 dX7_readDog_60 ?_
    refine z_iload_n (x := q1.1) rfl dX7_readDog_63 ?_
    refine z_iload_n (x := q2.1) rfl dX7_readDog_64 ?_
    refine z_iload_n (x := q3.1) rfl dX7_readDog_65 ?_
    refine z_iload (x := q5.1) rfl dX7_readDog_66 ?_
    refine z_iload (x := q6.1) rfl dX7_readDog_68 ?_
    refine z_iload (x := q7.1) rfl dX7_readDog_70 ?_
    obtain ⟨q8, h9, h⟩ := zbind h
    refine z_callSN (av := [.int q1.1, .int q2.1, .int q3.1, .int q5.1, .int q6.1, .int q7.1]) (rest := [.ref a1]) hC (s_X11_bredLearning hC h9) ln_X7_120 st_X11_bredLearning cd_X11_bredLearning ⟨by decide, by decide, (Nat.le_of_ble_eq_true rfl)⟩ dX7_readDog_72 ?_
    refine zeqS (stk2 := [va_rf q8.1, .ref a1]) rfl ?_
    obtain ⟨a2, hx, h⟩ := zopt h
    rw [hx]
    clear hx
    obtain ⟨_, hb, h⟩ := zbind h
    obtain ⟨fs, hb⟩ := zob_some hb
    obtain ⟨q9, h10, h⟩ := zbind h
    refine z_callV (av := [.ref a2]) (rest := []) hC zcl_2 hb (s_X2_addDog hC h10) lk_X7_116 im_X2_addDog se_X2_addDog cd_X2_addDog ⟨by decide, by decide, (Nat.le_of_ble_eq_true rfl)⟩ dX7_readDog_75 ?_
    clear hb fs
    refine zeqS (stk2 := [.int q9.1]) rfl ?_
    refine z_pop rfl dX7_readDog_78 ?_
    obtain rfl := Option.some.inj h
    exact z_ret rfl dX7_readDog_79
  · have h := zife h c1
    refine z_aload_n (x := x0) rfl dX7_readDog_24 ?_
    obtain ⟨a3, h11, h⟩ := zbind h
    refine z_gN hC fs_X7_12 h11 dX7_readDog_25 ?_
    refine z_iload_n (x := q1.1) rfl dX7_readDog_28 ?_
    refine z_iload_n (x := q2.1) rfl dX7_readDog_29 ?_
    refine z_iload_n (x := q3.1) rfl dX7_readDog_30 ?_
    obtain ⟨q10, h12, h⟩ := zbind h
    refine z_callSN (av := [.int q1.1, .int q2.1, .int q3.1]) (rest := [.ref a3]) hC (s_X11_bred hC h12) ln_X7_112 st_X11_bred cd_X11_bred ⟨by decide, by decide, (Nat.le_of_ble_eq_true rfl)⟩ dX7_readDog_31 ?_
    refine zeqS (stk2 := [va_rf q10.1, .ref a3]) rfl ?_
    obtain ⟨a4, hx, h⟩ := zopt h
    rw [hx]
    clear hx
    obtain ⟨_, hb, h⟩ := zbind h
    obtain ⟨fs, hb⟩ := zob_some hb
    obtain ⟨q11, h13, h⟩ := zbind h
    refine z_callV (av := [.ref a4]) (rest := []) hC zcl_2 hb (s_X2_addDog hC h13) lk_X7_116 im_X2_addDog se_X2_addDog cd_X2_addDog ⟨by decide, by decide, (Nat.le_of_ble_eq_true rfl)⟩ dX7_readDog_34 ?_
    clear hb fs
    refine zeqS (stk2 := [.int q11.1]) rfl ?_
    refine z_pop rfl dX7_readDog_37 ?_
    obtain rfl := Option.some.inj h
    exact z_ret rfl dX7_readDog_38
def f_X7_readItem_b155 (sa : Nat → Nat)  (x0 : Nat) (M : zMe) : Option zMe :=
  (zob M x0 7).bind fun _ =>
  (f_X7_takeMark x0 M).bind fun q1 =>
  some q1
set_option maxHeartbeats 4000000 in
set_option maxRecDepth 100000 in
theorem s_X7_readItem_b155 {g : zG} (hC : zC g) {sa : Nat → Nat} (hS : zCs g sa)  (x0 : Nat) (M : zMe) (q : zMe) (h : f_X7_readItem_b155 sa  x0 M = some q) : zW g mX7_readItem 155 [.ref x0] [] M none q := by
  unfold f_X7_readItem_b155 at h
  refine z_aload_n (x := x0) rfl dX7_readItem_155 ?_
  obtain ⟨_, hb, h⟩ := zbind h
  obtain ⟨fs, hb⟩ := zob_some hb
  obtain ⟨q1, h1, h⟩ := zbind h
  refine z_callV (av := []) (rest := []) hC zcl_7 hb (s_X7_takeMark hC h1) lk_X7_54 im_X7_takeMark se_X7_takeMark cd_X7_takeMark ⟨by decide, by decide, (Nat.le_of_ble_eq_true rfl)⟩ dX7_readItem_156 ?_
  clear hb fs
  refine zeqS (stk2 := []) rfl ?_
  obtain rfl := Option.some.inj h
  exact z_ret rfl dX7_readItem_159
def f_X7_readItem_b151 (sa : Nat → Nat)  (x0 : Nat) (M : zMe) : Option zMe :=
  (zob M x0 7).bind fun _ =>
  (f_X7_fail x0 M).bind fun q1 =>
  f_X7_readItem_b155 sa x0 q1
set_option maxHeartbeats 4000000 in
set_option maxRecDepth 100000 in
theorem s_X7_readItem_b151 {g : zG} (hC : zC g) {sa : Nat → Nat} (hS : zCs g sa)  (x0 : Nat) (M : zMe) (q : zMe) (h : f_X7_readItem_b151 sa  x0 M = some q) : zW g mX7_readItem 151 [.ref x0] [] M none q := by
  unfold f_X7_readItem_b151 at h
  refine z_aload_n (x := x0) rfl dX7_readItem_151 ?_
  obtain ⟨_, hb, h⟩ := zbind h
  obtain ⟨fs, hb⟩ := zob_some hb
  obtain ⟨q1, h1, h⟩ := zbind h
  refine z_callV (av := []) (rest := []) hC zcl_7 hb (s_X7_fail hC h1) lk_X7_47 im_X7_fail se_X7_fail cd_X7_fail ⟨by decide, by decide, (Nat.le_of_ble_eq_true rfl)⟩ dX7_readItem_152 ?_
  clear hb fs
  refine zeqS (stk2 := []) rfl ?_
  exact s_X7_readItem_b155 hC hS _ _ _ h
def f_X7_readItem (sa : Nat → Nat) (x0 : Nat) (M : zMe) : Option zMe :=
  (zob M x0 7).bind fun _ =>
  (f_X7_isWord sa x0 (sa 1) M).bind fun q1 =>
  if q1.1 = 0 then (
    (zob q1.2 x0 7).bind fun _ =>
    (f_X7_isWord sa x0 (sa 2) q1.2).bind fun q2 =>
    if q2.1 = 0 then (
      (zob q2.2 x0 7).bind fun _ =>
      (f_X7_isWord sa x0 (sa 3) q2.2).bind fun q3 =>
      if q3.1 = 0 then (
        (zob q3.2 x0 7).bind fun _ =>
        (f_X7_isWord sa x0 (sa 4) q3.2).bind fun q4 =>
        if q4.1 = 0 then (
          (zob q4.2 x0 7).bind fun _ =>
          (f_X7_isWord sa x0 (sa 5) q4.2).bind fun q5 =>
          if q5.1 = 0 then (
            f_X7_readItem_b151 sa x0 q5.2)
          else (
            (zgN q5.2 x0 [7] 0).bind fun a1 =>
            (zob q5.2 a1 2).bind fun _ =>
            (f_X2_isFull a1 q5.2).bind fun q6 =>
            if q6.1 = 0 then (
              (zob q6.2 x0 7).bind fun _ =>
              (f_X7_advance x0 q6.2).bind fun q7 =>
              (zob q7 x0 7).bind fun _ =>
              (f_X7_readDog x0 q7).bind fun q8 =>
              f_X7_readItem_b155 sa x0 q8)
            else (
              f_X7_readItem_b151 sa x0 q6.2)))
        else (
          (zob q4.2 x0 7).bind fun _ =>
          (f_X7_advance x0 q4.2).bind fun q9 =>
          (zob q9 x0 7).bind fun _ =>
          (f_X7_readBreath x0 q9).bind fun q10 =>
          f_X7_readItem_b155 sa x0 q10))
      else (
        (zob q3.2 x0 7).bind fun _ =>
        (f_X7_advance x0 q3.2).bind fun q11 =>
        (zgN q11 x0 [7] 0).bind fun a2 =>
        (zgI q11 a2 [2] 3).bind fun v1 =>
        (zob q11 x0 7).bind fun _ =>
        (f_X7_takePlaceBit x0 q11).bind fun q12 =>
        (zpI q12.2 a2 [2] 3 (v1 ||| q12.1)).bind fun M1 =>
        f_X7_readItem_b155 sa x0 M1))
    else (
      (zob q2.2 x0 7).bind fun _ =>
      (f_X7_advance x0 q2.2).bind fun q13 =>
      (zgN q13 x0 [7] 0).bind fun a3 =>
      (zgN q13 x0 [7] 0).bind fun a4 =>
      (zgI q13 a4 [2] 0).bind fun v2 =>
      (zob q13 x0 7).bind fun _ =>
      (f_X7_takeNumber x0 0 (v2 - 1) q13).bind fun q14 =>
      (zpI q14.2 a3 [2] 2 q14.1).bind fun M2 =>
      f_X7_readItem_b155 sa x0 M2))
  else (
    (zob q1.2 x0 7).bind fun _ =>
    (f_X7_advance x0 q1.2).bind fun q15 =>
    (zgN q15 x0 [7] 0).bind fun a5 =>
    (zgI q15 a5 [2] 1).bind fun v3 =>
    (zob q15 x0 7).bind fun _ =>
    (f_X7_takePlaceBit x0 q15).bind fun q16 =>
    (zpI q16.2 a5 [2] 1 (v3 ||| q16.1)).bind fun M3 =>
    f_X7_readItem_b155 sa x0 M3)
set_option maxHeartbeats 4000000 in
set_option maxRecDepth 100000 in
theorem s_X7_readItem {g : zG} (hC : zC g) {sa : Nat → Nat} (hS : zCs g sa) {x0 : Nat} {M : zMe} {q : zMe} (h : f_X7_readItem sa x0 M = some q) : zMet g yX7_readItem mX7_readItem [.ref x0] M none q := by
  refine z_entry (by decide +kernel) rfl rfl (Nat.le_of_ble_eq_true rfl) ?_
  refine zeqL (L2 := [.ref x0]) rfl ?_
  unfold f_X7_readItem at h
  refine z_aload_n (x := x0) rfl dX7_readItem_0 ?_
  refine z_ldcS hS 1 ⟨by decide, rfl, rfl⟩ dX7_readItem_1 ?_
  obtain ⟨_, hb, h⟩ := zbind h
  obtain ⟨fs, hb⟩ := zob_some hb
  obtain ⟨q1, h1, h⟩ := zbind h
  refine z_callV (av := [.ref (sa 1)]) (rest := []) hC zcl_7 hb (s_X7_isWord hC hS h1) lk_X7_43 im_X7_isWord se_X7_isWord cd_X7_isWord ⟨by decide, by decide, (Nat.le_of_ble_eq_true rfl)⟩ dX7_readItem_3 ?_
  clear hb fs
  refine zeqS (stk2 := [.int q1.1]) rfl ?_
  refine z_if_eq (tgt := 32) dX7_readItem_6 (by decide) (fun c1 => ?_) (fun c1 => ?_)
  · have h := zift h c1
    refine z_aload_n (x := x0) rfl dX7_readItem_32 ?_
    refine z_ldcS hS 2 ⟨by decide, rfl, rfl⟩ dX7_readItem_33 ?_
    obtain ⟨_, hb, h⟩ := zbind h
    obtain ⟨fs, hb⟩ := zob_some hb
    obtain ⟨q2, h2, h⟩ := zbind h
    refine z_callV (av := [.ref (sa 2)]) (rest := []) hC zcl_7 hb (s_X7_isWord hC hS h2) lk_X7_43 im_X7_isWord se_X7_isWord cd_X7_isWord ⟨by decide, by decide, (Nat.le_of_ble_eq_true rfl)⟩ dX7_readItem_35 ?_
    clear hb fs
    refine zeqS (stk2 := [.int q2.1]) rfl ?_
    refine z_if_eq (tgt := 69) dX7_readItem_38 (by decide) (fun c2 => ?_) (fun c2 => ?_)
    · have h := zift h c2
      refine z_aload_n (x := x0) rfl dX7_readItem_69 ?_
      refine z_ldcS hS 3 ⟨by decide, rfl, rfl⟩ dX7_readItem_70 ?_
      obtain ⟨_, hb, h⟩ := zbind h
      obtain ⟨fs, hb⟩ := zob_some hb
      obtain ⟨q3, h3, h⟩ := zbind h
      refine z_callV (av := [.ref (sa 3)]) (rest := []) hC zcl_7 hb (s_X7_isWord hC hS h3) lk_X7_43 im_X7_isWord se_X7_isWord cd_X7_isWord ⟨by decide, by decide, (Nat.le_of_ble_eq_true rfl)⟩ dX7_readItem_72 ?_
      clear hb fs
      refine zeqS (stk2 := [.int q3.1]) rfl ?_
      refine z_if_eq (tgt := 101) dX7_readItem_75 (by decide) (fun c3 => ?_) (fun c3 => ?_)
      · have h := zift h c3
        refine z_aload_n (x := x0) rfl dX7_readItem_101 ?_
        refine z_ldcS hS 4 ⟨by decide, rfl, rfl⟩ dX7_readItem_102 ?_
        obtain ⟨_, hb, h⟩ := zbind h
        obtain ⟨fs, hb⟩ := zob_some hb
        obtain ⟨q4, h4, h⟩ := zbind h
        refine z_callV (av := [.ref (sa 4)]) (rest := []) hC zcl_7 hb (s_X7_isWord hC hS h4) lk_X7_43 im_X7_isWord se_X7_isWord cd_X7_isWord ⟨by decide, by decide, (Nat.le_of_ble_eq_true rfl)⟩ dX7_readItem_104 ?_
        clear hb fs
        refine zeqS (stk2 := [.int q4.1]) rfl ?_
        refine z_if_eq (tgt := 121) dX7_readItem_107 (by decide) (fun c4 => ?_) (fun c4 => ?_)
        · have h := zift h c4
          refine z_aload_n (x := x0) rfl dX7_readItem_121 ?_
          refine z_ldcS hS 5 ⟨by decide, rfl, rfl⟩ dX7_readItem_122 ?_
          obtain ⟨_, hb, h⟩ := zbind h
          obtain ⟨fs, hb⟩ := zob_some hb
          obtain ⟨q5, h5, h⟩ := zbind h
          refine z_callV (av := [.ref (sa 5)]) (rest := []) hC zcl_7 hb (s_X7_isWord hC hS h5) lk_X7_43 im_X7_isWord se_X7_isWord cd_X7_isWord ⟨by decide, by decide, (Nat.le_of_ble_eq_true rfl)⟩ dX7_readItem_124 ?_
          clear hb fs
          refine zeqS (stk2 := [.int q5.1]) rfl ?_
          refine z_if_eq (tgt := 151) dX7_readItem_127 (by decide) (fun c5 => ?_) (fun c5 => ?_)
          · have h := zift h c5
            exact s_X7_readItem_b151 hC hS _ _ _ h
          · have h := zife h c5
            refine z_aload_n (x := x0) rfl dX7_readItem_130 ?_
            obtain ⟨a1, h6, h⟩ := zbind h
            refine z_gN hC fs_X7_12 h6 dX7_readItem_131 ?_
            obtain ⟨_, hb, h⟩ := zbind h
            obtain ⟨fs, hb⟩ := zob_some hb
            obtain ⟨q6, h7, h⟩ := zbind h
            refine z_callV (av := []) (rest := []) hC zcl_2 hb (s_X2_isFull hC h7) lk_X7_92 im_X2_isFull se_X2_isFull cd_X2_isFull ⟨by decide, by decide, (Nat.le_of_ble_eq_true rfl)⟩ dX7_readItem_134 ?_
            clear hb fs
            refine zeqS (stk2 := [.int q6.1]) rfl ?_
            refine z_if_ne (tgt := 151) dX7_readItem_137 (by decide) (fun c6 => ?_) (fun c6 => ?_)
            · have h := zife h c6
              exact s_X7_readItem_b151 hC hS _ _ _ h
            · have h := zift h c6
              refine z_aload_n (x := x0) rfl dX7_readItem_140 ?_
              obtain ⟨_, hb, h⟩ := zbind h
              obtain ⟨fs, hb⟩ := zob_some hb
              obtain ⟨q7, h8, h⟩ := zbind h
              refine z_callV (av := []) (rest := []) hC zcl_7 hb (s_X7_advance hC h8) lk_X7_38 im_X7_advance se_X7_advance cd_X7_advance ⟨by decide, by decide, (Nat.le_of_ble_eq_true rfl)⟩ dX7_readItem_141 ?_
              clear hb fs
              refine zeqS (stk2 := []) rfl ?_
              refine z_aload_n (x := x0) rfl dX7_readItem_144 ?_
              obtain ⟨_, hb, h⟩ := zbind h
              obtain ⟨fs, hb⟩ := zob_some hb
              obtain ⟨q8, h9, h⟩ := zbind h
              refine z_callV (av := []) (rest := []) hC zcl_7 hb (s_X7_readDog hC h9) lk_X7_96 im_X7_readDog se_X7_readDog cd_X7_readDog ⟨by decide, by decide, (Nat.le_of_ble_eq_true rfl)⟩ dX7_readItem_145 ?_
              clear hb fs
              refine zeqS (stk2 := []) rfl ?_
              refine z_goto (tgt := 155) dX7_readItem_148 (by decide) ?_
              exact s_X7_readItem_b155 hC hS _ _ _ h
        · have h := zife h c4
          refine z_aload_n (x := x0) rfl dX7_readItem_110 ?_
          obtain ⟨_, hb, h⟩ := zbind h
          obtain ⟨fs, hb⟩ := zob_some hb
          obtain ⟨q9, h10, h⟩ := zbind h
          refine z_callV (av := []) (rest := []) hC zcl_7 hb (s_X7_advance hC h10) lk_X7_38 im_X7_advance se_X7_advance cd_X7_advance ⟨by decide, by decide, (Nat.le_of_ble_eq_true rfl)⟩ dX7_readItem_111 ?_
          clear hb fs
          refine zeqS (stk2 := []) rfl ?_
          refine z_aload_n (x := x0) rfl dX7_readItem_114 ?_
          obtain ⟨_, hb, h⟩ := zbind h
          obtain ⟨fs, hb⟩ := zob_some hb
          obtain ⟨q10, h11, h⟩ := zbind h
          refine z_callV (av := []) (rest := []) hC zcl_7 hb (s_X7_readBreath hC h11) lk_X7_87 im_X7_readBreath se_X7_readBreath cd_X7_readBreath ⟨by decide, by decide, (Nat.le_of_ble_eq_true rfl)⟩ dX7_readItem_115 ?_
          clear hb fs
          refine zeqS (stk2 := []) rfl ?_
          refine z_goto (tgt := 155) dX7_readItem_118 (by decide) ?_
          exact s_X7_readItem_b155 hC hS _ _ _ h
      · have h := zife h c3
        refine z_aload_n (x := x0) rfl dX7_readItem_78 ?_
        obtain ⟨_, hb, h⟩ := zbind h
        obtain ⟨fs, hb⟩ := zob_some hb
        obtain ⟨q11, h12, h⟩ := zbind h
        refine z_callV (av := []) (rest := []) hC zcl_7 hb (s_X7_advance hC h12) lk_X7_38 im_X7_advance se_X7_advance cd_X7_advance ⟨by decide, by decide, (Nat.le_of_ble_eq_true rfl)⟩ dX7_readItem_79 ?_
        clear hb fs
        refine zeqS (stk2 := []) rfl ?_
        refine z_aload_n (x := x0) rfl dX7_readItem_82 ?_
        obtain ⟨a2, h13, h⟩ := zbind h
        refine z_gN hC fs_X7_12 h13 dX7_readItem_83 ?_
        refine z_dup rfl dX7_readItem_86 ?_
        obtain ⟨v1, h14, h⟩ := zbind h
        refine z_gI hC fs_X7_82 h14 dX7_readItem_87 ?_
        refine z_aload_n (x := x0) rfl dX7_readItem_90 ?_
        obtain ⟨_, hb, h⟩ := zbind h
        obtain ⟨fs, hb⟩ := zob_some hb
        obtain ⟨q12, h15, h⟩ := zbind h
        refine z_callV (av := []) (rest := [.int v1, .ref a2]) hC zcl_7 hb (s_X7_takePlaceBit hC h15) lk_X7_69 im_X7_takePlaceBit se_X7_takePlaceBit cd_X7_takePlaceBit ⟨by decide, by decide, (Nat.le_of_ble_eq_true rfl)⟩ dX7_readItem_91 ?_
        clear hb fs
        refine zeqS (stk2 := [.int q12.1, .int v1, .ref a2]) rfl ?_
        refine z_ior dX7_readItem_94 ?_
        obtain ⟨M1, h16, h⟩ := zbind h
        refine z_pI hC fp_X7_82 h16 dX7_readItem_95 ?_
        refine z_goto (tgt := 155) dX7_readItem_98 (by decide) ?_
        exact s_X7_readItem_b155 hC hS _ _ _ h
    · have h := zife h c2
      refine z_aload_n (x := x0) rfl dX7_readItem_41 ?_
      obtain ⟨_, hb, h⟩ := zbind h
      obtain ⟨fs, hb⟩ := zob_some hb
      obtain ⟨q13, h17, h⟩ := zbind h
      refine z_callV (av := []) (rest := []) hC zcl_7 hb (s_X7_advance hC h17) lk_X7_38 im_X7_advance se_X7_advance cd_X7_advance ⟨by decide, by decide, (Nat.le_of_ble_eq_true rfl)⟩ dX7_readItem_42 ?_
      clear hb fs
      refine zeqS (stk2 := []) rfl ?_
      refine z_aload_n (x := x0) rfl dX7_readItem_45 ?_
      obtain ⟨a3, h18, h⟩ := zbind h
      refine z_gN hC fs_X7_12 h18 dX7_readItem_46 ?_
      refine z_aload_n (x := x0) rfl dX7_readItem_49 ?_
      refine z_iconst 0 (by decide) dX7_readItem_50 ?_
      refine z_aload_n (x := x0) rfl dX7_readItem_51 ?_
      obtain ⟨a4, h19, h⟩ := zbind h
      refine z_gN hC fs_X7_12 h19 dX7_readItem_52 ?_
      obtain ⟨v2, h20, h⟩ := zbind h
      refine z_gI hC fs_X7_75 h20 dX7_readItem_55 ?_
      refine z_iconst 1 (by decide) dX7_readItem_58 ?_
      refine z_isub dX7_readItem_59 ?_
      obtain ⟨_, hb, h⟩ := zbind h
      obtain ⟨fs, hb⟩ := zob_some hb
      obtain ⟨q14, h21, h⟩ := zbind h
      refine z_callV (av := [.int 0, .int (v2 - 1)]) (rest := [.ref a3]) hC zcl_7 hb (s_X7_takeNumber hC h21) lk_X7_50 im_X7_takeNumber se_X7_takeNumber cd_X7_takeNumber ⟨by decide, by decide, (Nat.le_of_ble_eq_true rfl)⟩ dX7_readItem_60 ?_
      clear hb fs
      refine zeqS (stk2 := [.int q14.1, .ref a3]) rfl ?_
      obtain ⟨M2, h22, h⟩ := zbind h
      refine z_pI hC fp_X7_78 h22 dX7_readItem_63 ?_
      refine z_goto (tgt := 155) dX7_readItem_66 (by decide) ?_
      exact s_X7_readItem_b155 hC hS _ _ _ h
  · have h := zife h c1
    refine z_aload_n (x := x0) rfl dX7_readItem_9 ?_
    obtain ⟨_, hb, h⟩ := zbind h
    obtain ⟨fs, hb⟩ := zob_some hb
    obtain ⟨q15, h23, h⟩ := zbind h
    refine z_callV (av := []) (rest := []) hC zcl_7 hb (s_X7_advance hC h23) lk_X7_38 im_X7_advance se_X7_advance cd_X7_advance ⟨by decide, by decide, (Nat.le_of_ble_eq_true rfl)⟩ dX7_readItem_10 ?_
    clear hb fs
    refine zeqS (stk2 := []) rfl ?_
    refine z_aload_n (x := x0) rfl dX7_readItem_13 ?_
    obtain ⟨a5, h24, h⟩ := zbind h
    refine z_gN hC fs_X7_12 h24 dX7_readItem_14 ?_
    refine z_dup rfl dX7_readItem_17 ?_
    obtain ⟨v3, h25, h⟩ := zbind h
    refine z_gI hC fs_X7_66 h25 dX7_readItem_18 ?_
    refine z_aload_n (x := x0) rfl dX7_readItem_21 ?_
    obtain ⟨_, hb, h⟩ := zbind h
    obtain ⟨fs, hb⟩ := zob_some hb
    obtain ⟨q16, h26, h⟩ := zbind h
    refine z_callV (av := []) (rest := [.int v3, .ref a5]) hC zcl_7 hb (s_X7_takePlaceBit hC h26) lk_X7_69 im_X7_takePlaceBit se_X7_takePlaceBit cd_X7_takePlaceBit ⟨by decide, by decide, (Nat.le_of_ble_eq_true rfl)⟩ dX7_readItem_22 ?_
    clear hb fs
    refine zeqS (stk2 := [.int q16.1, .int v3, .ref a5]) rfl ?_
    refine z_ior dX7_readItem_25 ?_
    obtain ⟨M3, h27, h⟩ := zbind h
    refine z_pI hC fp_X7_66 h27 dX7_readItem_26 ?_
    refine z_goto (tgt := 155) dX7_readItem_29 (by decide) ?_
    exact s_X7_readItem_b155 hC hS _ _ _ h
def f_X7_readHill_b84 (sa : Nat → Nat)   (M : zMe) : Option zMe :=
  some M
set_option maxHeartbeats 4000000 in
set_option maxRecDepth 100000 in
theorem s_X7_readHill_b84 {g : zG} (hC : zC g) {sa : Nat → Nat} (hS : zCs g sa)   (M : zMe) (q : zMe) (h : f_X7_readHill_b84 sa   M = some q) : zW g mX7_readHill 84 [.retAddr 0, .retAddr 0, .retAddr 0] [] M none q := by
  unfold f_X7_readHill_b84 at h
  obtain rfl := Option.some.inj h
  exact z_ret rfl dX7_readHill_84
def f_X7_readHill_b52 (sa : Nat → Nat)  : Nat → Nat → Int32 → zMe → Option zMe
  | 0, _, _, _ => none
  | n + 1, x0, x2, M =>
    if 200 ≤ x2 then (
      f_X7_readHill_b84 sa M)
    else (
      (zgI M x0 [7] 4).bind fun v1 =>
      if v1 = 0 then (
        f_X7_readHill_b84 sa M)
      else (
        (zgI M x0 [7] 1).bind fun v2 =>
        if v2 = (-1) then (
          (zob M x0 7).bind fun _ =>
          (f_X7_readItem sa x0 M).bind fun q1 =>
          zlet (x2 + 1) fun v3 =>
          f_X7_readHill_b52 sa n x0 v3 q1)
        else (
          f_X7_readHill_b84 sa M)))
set_option maxHeartbeats 4000000 in
set_option maxRecDepth 100000 in
theorem s_X7_readHill_b52 {g : zG} (hC : zC g) {sa : Nat → Nat} (hS : zCs g sa)  : ∀ (n : Nat) (x0 : Nat) (x2 : Int32) (M : zMe) (q : zMe), f_X7_readHill_b52 sa  n x0 x2 M = some q → zW g mX7_readHill 52 [.ref x0, .retAddr 0, .int x2] [] M none q := by
  intro n
  induction n with
  | zero => intro x0 x2 M q h; cases h
  | succ n ih =>
    intro x0 x2 M q h
    rw [f_X7_readHill_b52] at h
    refine z_iload_n (x := x2) rfl dX7_readHill_52 ?_
    refine z_sipush 200 (by decide) dX7_readHill_53 ?_
    refine z_icmp_ge (tgt := 84) dX7_readHill_56 (by decide) (fun c1 => ?_) (fun c1 => ?_)
    · have h := zift h c1
      refine zweak [false, false, false] ?_
      exact s_X7_readHill_b84 hC hS _ _ h
    · have h := zife h c1
      refine z_aload_n (x := x0) rfl dX7_readHill_59 ?_
      obtain ⟨v1, h1, h⟩ := zbind h
      refine z_gI hC fs_X7_22 h1 dX7_readHill_60 ?_
      refine z_if_eq (tgt := 84) dX7_readHill_63 (by decide) (fun c2 => ?_) (fun c2 => ?_)
      · have h := zift h c2
        refine zweak [false, false, false] ?_
        exact s_X7_readHill_b84 hC hS _ _ h
      · have h := zife h c2
        refine z_aload_n (x := x0) rfl dX7_readHill_66 ?_
        obtain ⟨v2, h2, h⟩ := zbind h
        refine z_gI hC fs_X7_18 h2 dX7_readHill_67 ?_
        refine z_iconst (-1) (by decide) dX7_readHill_70 ?_
        refine z_icmp_ne (tgt := 84) dX7_readHill_71 (by decide) (fun c3 => ?_) (fun c3 => ?_)
        · have h := zife h c3
          refine zweak [false, false, false] ?_
          exact s_X7_readHill_b84 hC hS _ _ h
        · have h := zift h c3
          refine z_aload_n (x := x0) rfl dX7_readHill_74 ?_
          obtain ⟨_, hb, h⟩ := zbind h
          obtain ⟨fs, hb⟩ := zob_some hb
          obtain ⟨q1, h3, h⟩ := zbind h
          refine z_callV (av := []) (rest := []) hC zcl_7 hb (s_X7_readItem hC hS h3) lk_X7_61 im_X7_readItem se_X7_readItem cd_X7_readItem ⟨by decide, by decide, (Nat.le_of_ble_eq_true rfl)⟩ dX7_readHill_75 ?_
          clear hb fs
          refine zeqS (stk2 := []) rfl ?_
          obtain ⟨v3, hv⟩ : ∃ z : Int32, z = x2 + 1 := ⟨_, rfl⟩
          have h := zlet_use h hv
          refine z_iinc (v := v3) dX7_readHill_78 (x := x2) rfl (by rw [hv]; rfl) ?_
          clear hv
          refine zeqL (L2 := [.ref x0, .retAddr 0, .int v3]) rfl ?_
          refine z_goto (tgt := 52) dX7_readHill_81 (by decide) ?_
          exact ih _ _ _ _ h
def f_X7_readHill (sa : Nat → Nat) (x0 : Nat) (M : zMe) : Option zMe :=
  (zob M x0 7).bind fun _ =>
  (f_X7_advance x0 M).bind fun q1 =>
  (zob q1 x0 7).bind fun _ =>
  (f_X7_isWord sa x0 (sa 0) q1).bind fun q2 =>
  if q2.1 = 0 then (
    (zob q2.2 x0 7).bind fun _ =>
    (f_X7_fail x0 q2.2).bind fun q3 =>
    some q3)
  else (
    (zob q2.2 x0 7).bind fun _ =>
    (f_X7_advance x0 q2.2).bind fun q4 =>
    (zob q4 x0 7).bind fun _ =>
    (f_X7_takeNumber x0 2 5 q4).bind fun q5 =>
    (zob q5.2 x0 7).bind fun _ =>
    (f_X7_takeMark x0 q5.2).bind fun q6 =>
    (zgI q6 x0 [7] 1).bind fun v1 =>
    if v1 = (-1) then (
      (zgN q6 x0 [7] 0).bind fun a1 =>
      (zob q6 a1 2).bind fun _ =>
      (f_X2_settle a1 q5.1 q6).bind fun q7 =>
      f_X7_readHill_b52 sa zfu x0 0 q7)
    else (
      some q6))
set_option maxHeartbeats 4000000 in
set_option maxRecDepth 100000 in
theorem s_X7_readHill {g : zG} (hC : zC g) {sa : Nat → Nat} (hS : zCs g sa) {x0 : Nat} {M : zMe} {q : zMe} (h : f_X7_readHill sa x0 M = some q) : zMet g yX7_readHill mX7_readHill [.ref x0] M none q := by
  refine z_entry (by decide +kernel) rfl rfl (Nat.le_of_ble_eq_true rfl) ?_
  refine zeqL (L2 := [.ref x0, .retAddr 0, .retAddr 0]) rfl ?_
  unfold f_X7_readHill at h
  refine z_aload_n (x := x0) rfl dX7_readHill_0 ?_
  obtain ⟨_, hb, h⟩ := zbind h
  obtain ⟨fs, hb⟩ := zob_some hb
  obtain ⟨q1, h1, h⟩ := zbind h
  refine z_callV (av := []) (rest := []) hC zcl_7 hb (s_X7_advance hC h1) lk_X7_38 im_X7_advance se_X7_advance cd_X7_advance ⟨by decide, by decide, (Nat.le_of_ble_eq_true rfl)⟩ dX7_readHill_1 ?_
  clear hb fs
  refine zeqS (stk2 := []) rfl ?_
  refine z_aload_n (x := x0) rfl dX7_readHill_4 ?_
  refine z_ldcS hS 0 ⟨by decide, rfl, rfl⟩ dX7_readHill_5 ?_
  obtain ⟨_, hb, h⟩ := zbind h
  obtain ⟨fs, hb⟩ := zob_some hb
  obtain ⟨q2, h2, h⟩ := zbind h
  refine z_callV (av := [.ref (sa 0)]) (rest := []) hC zcl_7 hb (s_X7_isWord hC hS h2) lk_X7_43 im_X7_isWord se_X7_isWord cd_X7_isWord ⟨by decide, by decide, (Nat.le_of_ble_eq_true rfl)⟩ dX7_readHill_7 ?_
  clear hb fs
  refine zeqS (stk2 := [.int q2.1]) rfl ?_
  refine z_if_ne (tgt := 18) dX7_readHill_10 (by decide) (fun c1 => ?_) (fun c1 => ?_)
  · have h := zife h c1
    refine z_aload_n (x := x0) rfl dX7_readHill_18 ?_
    obtain ⟨_, hb, h⟩ := zbind h
    obtain ⟨fs, hb⟩ := zob_some hb
    obtain ⟨q4, h4, h⟩ := zbind h
    refine z_callV (av := []) (rest := []) hC zcl_7 hb (s_X7_advance hC h4) lk_X7_38 im_X7_advance se_X7_advance cd_X7_advance ⟨by decide, by decide, (Nat.le_of_ble_eq_true rfl)⟩ dX7_readHill_19 ?_
    clear hb fs
    refine zeqS (stk2 := []) rfl ?_
    refine z_aload_n (x := x0) rfl dX7_readHill_22 ?_
    refine z_iconst 2 (by decide) dX7_readHill_23 ?_
    refine z_iconst 5 (by decide) dX7_readHill_24 ?_
    obtain ⟨_, hb, h⟩ := zbind h
    obtain ⟨fs, hb⟩ := zob_some hb
    obtain ⟨q5, h5, h⟩ := zbind h
    refine z_callV (av := [.int 2, .int 5]) (rest := []) hC zcl_7 hb (s_X7_takeNumber hC h5) lk_X7_50 im_X7_takeNumber se_X7_takeNumber cd_X7_takeNumber ⟨by decide, by decide, (Nat.le_of_ble_eq_true rfl)⟩ dX7_readHill_25 ?_
    clear hb fs
    refine zeqS (stk2 := [.int q5.1]) rfl ?_
    refine z_istore_n dX7_readHill_28 (by decide) ?_
    refine zeqL (L2 := [.ref x0, .int q5.1, .retAddr 0]) rfl ?_
    refine z_aload_n (x := x0) rfl dX7_readHill_29 ?_
    obtain ⟨_, hb, h⟩ := zbind h
    obtain ⟨fs, hb⟩ := zob_some hb
    obtain ⟨q6, h6, h⟩ := zbind h
    refine z_callV (av := []) (rest := []) hC zcl_7 hb (s_X7_takeMark hC h6) lk_X7_54 im_X7_takeMark se_X7_takeMark cd_X7_takeMark ⟨by decide, by decide, (Nat.le_of_ble_eq_true rfl)⟩ dX7_readHill_30 ?_
    clear hb fs
    refine zeqS (stk2 := []) rfl ?_
    refine z_aload_n (x := x0) rfl dX7_readHill_33 ?_
    obtain ⟨v1, h7, h⟩ := zbind h
    refine z_gI hC fs_X7_18 h7 dX7_readHill_34 ?_
    refine z_iconst (-1) (by decide) dX7_readHill_37 ?_
    refine z_icmp_eq (tgt := 42) dX7_readHill_38 (by decide) (fun c2 => ?_) (fun c2 => ?_)
    · have h := zift h c2
      refine z_aload_n (x := x0) rfl dX7_readHill_42 ?_
      obtain ⟨a1, h8, h⟩ := zbind h
      refine z_gN hC fs_X7_12 h8 dX7_readHill_43 ?_
      refine z_iload_n (x := q5.1) rfl dX7_readHill_46 ?_
      obtain ⟨_, hb, h⟩ := zbind h
      obtain ⟨fs, hb⟩ := zob_some hb
      obtain ⟨q7, h9, h⟩ := zbind h
      refine z_callV (av := [.int q5.1]) (rest := []) hC zcl_2 hb (s_X2_settle hC h9) lk_X7_57 im_X2_settle se_X2_settle cd_X2_settle ⟨by decide, by decide, (Nat.le_of_ble_eq_true rfl)⟩ dX7_readHill_47 ?_
      clear hb fs
      refine zeqS (stk2 := []) rfl ?_
      refine z_iconst 0 (by decide) dX7_readHill_50 ?_
      refine z_istore_n dX7_readHill_51 (by decide) ?_
      refine zeqL (L2 := [.ref x0, .int q5.1, .int 0]) rfl ?_
      refine zweak [true, false, true] ?_
      exact s_X7_readHill_b52 hC hS _ _ _ _ _ h
    · have h := zife h c2
      obtain rfl := Option.some.inj h
      exact z_ret rfl dX7_readHill_41
  · have h := zift h c1
    refine z_aload_n (x := x0) rfl dX7_readHill_13 ?_
    obtain ⟨_, hb, h⟩ := zbind h
    obtain ⟨fs, hb⟩ := zob_some hb
    obtain ⟨q3, h3, h⟩ := zbind h
    refine z_callV (av := []) (rest := []) hC zcl_7 hb (s_X7_fail hC h3) lk_X7_47 im_X7_fail se_X7_fail cd_X7_fail ⟨by decide, by decide, (Nat.le_of_ble_eq_true rfl)⟩ dX7_readHill_14 ?_
    clear hb fs
    refine zeqS (stk2 := []) rfl ?_
    obtain rfl := Option.some.inj h
    exact z_ret rfl dX7_readHill_17
def f_X10_init (x0 : Nat) (M : zMe) : Option zMe :=
  (znI M .int 288).bind fun M1 =>
  (zpR M1 x0 [10] 0 (some M.2.1)).bind fun M2 =>
  (zpI M2 x0 [10] 1 0).bind fun M3 =>
  some M3
set_option maxHeartbeats 4000000 in
set_option maxRecDepth 100000 in
theorem s_X10_init {g : zG} (hC : zC g) {x0 : Nat} {M : zMe} {q : zMe} (h : f_X10_init x0 M = some q) : zMet g yX10_init mX10_init [.ref x0] M none q := by
  refine z_entry (by decide +kernel) rfl rfl (Nat.le_of_ble_eq_true rfl) ?_
  refine zeqL (L2 := [.ref x0]) rfl ?_
  unfold f_X10_init at h
  refine z_aload_n (x := x0) rfl dX10_init_0 ?_
  refine z_objInit hC dX10_init_1 lk_X10_3 im_obj cd_obj (by decide) (Nat.le_of_ble_eq_true rfl) ?_
  refine z_aload_n (x := x0) rfl dX10_init_4 ?_
  refine z_sipush 288 (by decide) dX10_init_5 ?_
  obtain ⟨M1, h1, h⟩ := zbind h
  refine z_nI hC (at0 := .int) rfl rfl (by decide) ac_int h1 dX10_init_8 ?_
  obtain ⟨M2, h2, h⟩ := zbind h
  refine z_pRa hC fp_X10_9 h2 dX10_init_10 ?_
  refine z_aload_n (x := x0) rfl dX10_init_13 ?_
  refine z_iconst 0 (by decide) dX10_init_14 ?_
  obtain ⟨M3, h3, h⟩ := zbind h
  refine z_pI hC fp_X10_15 h3 dX10_init_15 ?_
  obtain rfl := Option.some.inj h
  exact z_ret rfl dX10_init_18
def f_X10_fewestFor_b31  (y0 : Int32) (M : zMe) : Option (Int32 × zMe) :=
  some (y0, M)
set_option maxHeartbeats 4000000 in
set_option maxRecDepth 100000 in
theorem s_X10_fewestFor_b31 {g : zG} (hC : zC g)  (y0 : Int32) (M : zMe) (q : (Int32 × zMe)) (h : f_X10_fewestFor_b31  y0 M = some q) : zW g mX10_fewestFor 31 [.retAddr 0, .retAddr 0, .retAddr 0, .retAddr 0] [.int y0] M (some (.int q.1)) q.2 := by
  unfold f_X10_fewestFor_b31 at h
  obtain rfl := Option.some.inj h
  exact z_iret ⟨.int, rfl, rfl⟩ dX10_fewestFor_31
def f_X10_fewestFor_b29   (M : zMe) : Option (Int32 × zMe) :=
  f_X10_fewestFor_b31 99 M
set_option maxHeartbeats 4000000 in
set_option maxRecDepth 100000 in
theorem s_X10_fewestFor_b29 {g : zG} (hC : zC g)   (M : zMe) (q : (Int32 × zMe)) (h : f_X10_fewestFor_b29   M = some q) : zW g mX10_fewestFor 29 [.retAddr 0, .retAddr 0, .retAddr 0, .retAddr 0] [] M (some (.int q.1)) q.2 := by
  unfold f_X10_fewestFor_b29 at h
  refine z_bipush 99 (by decide) dX10_fewestFor_29 ?_
  exact s_X10_fewestFor_b31 hC _ _ _ h
def f_X10_fewestFor (x0 : Nat) (x1 : Int32) (x2 : Int32) (M : zMe) : Option (Int32 × zMe) :=
  zlet ((x1 * 32) + x2 : Int32) fun v1 =>
  if v1 < 0 then (
    f_X10_fewestFor_b29 M)
  else (
    (zgN M x0 [10] 0).bind fun a1 =>
    (zln M a1).bind fun v2 =>
    if v2 ≤ v1 then (
      f_X10_fewestFor_b29 M)
    else (
      (zgN M x0 [10] 0).bind fun a2 =>
      (zrI M a2 v1).bind fun v3 =>
      f_X10_fewestFor_b31 v3 M))
set_option maxHeartbeats 4000000 in
set_option maxRecDepth 100000 in
theorem s_X10_fewestFor {g : zG} (hC : zC g) {x0 : Nat} {x1 : Int32} {x2 : Int32} {M : zMe} {q : (Int32 × zMe)} (h : f_X10_fewestFor x0 x1 x2 M = some q) : zMet g yX10_fewestFor mX10_fewestFor [.ref x0, .int x1, .int x2] M (some (.int q.1)) q.2 := by
  refine z_entry (by decide +kernel) rfl rfl (Nat.le_of_ble_eq_true rfl) ?_
  refine zeqL (L2 := [.ref x0, .int x1, .int x2, .retAddr 0]) rfl ?_
  unfold f_X10_fewestFor at h
  refine z_iload_n (x := x1) rfl dX10_fewestFor_0 ?_
  refine z_bipush 32 (by decide) dX10_fewestFor_1 ?_
  refine z_imul dX10_fewestFor_3 ?_
  refine z_iload_n (x := x2) rfl dX10_fewestFor_4 ?_
  refine z_iadd dX10_fewestFor_5 ?_
  refine z_nameI (fun v1 hv => ?_)
  have h := zlet_use h hv
  clear hv
  refine z_istore_n dX10_fewestFor_6 (by decide) ?_
  refine zeqL (L2 := [.ref x0, .int x1, .int x2, .int v1]) rfl ?_
  refine z_iload_n (x := v1) rfl dX10_fewestFor_7 ?_
  refine z_if_lt (tgt := 29) dX10_fewestFor_8 (by decide) (fun c1 => ?_) (fun c1 => ?_)
  · have h := zift h c1
    refine zweak [false, false, false, false] ?_
    exact s_X10_fewestFor_b29 hC _ _ h
  · have h := zife h c1
    refine z_iload_n (x := v1) rfl dX10_fewestFor_11 ?_
    refine z_aload_n (x := x0) rfl dX10_fewestFor_12 ?_
    obtain ⟨a1, h1, h⟩ := zbind h
    refine z_gN hC fs_X10_9 h1 dX10_fewestFor_13 ?_
    obtain ⟨v2, h2, h⟩ := zbind h
    refine z_ln h2 dX10_fewestFor_16 ?_
    refine z_icmp_ge (tgt := 29) dX10_fewestFor_17 (by decide) (fun c2 => ?_) (fun c2 => ?_)
    · have h := zift h c2
      refine zweak [false, false, false, false] ?_
      exact s_X10_fewestFor_b29 hC _ _ h
    · have h := zife h c2
      refine z_aload_n (x := x0) rfl dX10_fewestFor_20 ?_
      obtain ⟨a2, h3, h⟩ := zbind h
      refine z_gN hC fs_X10_9 h3 dX10_fewestFor_21 ?_
      refine z_iload_n (x := v1) rfl dX10_fewestFor_24 ?_
      obtain ⟨v3, h4, h⟩ := zbind h
      refine z_rI h4 dX10_fewestFor_25 ?_
      refine z_goto (tgt := 31) dX10_fewestFor_26 (by decide) ?_
      refine zweak [false, false, false, false] ?_
      exact s_X10_fewestFor_b31 hC _ _ _ h
def f_X10_neededBy_b77  (y0 : Int32) (M : zMe) : Option (Int32 × zMe) :=
  some (y0, M)
set_option maxHeartbeats 4000000 in
set_option maxRecDepth 100000 in
theorem s_X10_neededBy_b77 {g : zG} (hC : zC g)  (y0 : Int32) (M : zMe) (q : (Int32 × zMe)) (h : f_X10_neededBy_b77  y0 M = some q) : zW g mX10_neededBy 77 [.retAddr 0, .retAddr 0, .retAddr 0, .retAddr 0, .retAddr 0, .retAddr 0, .retAddr 0] [.int y0] M (some (.int q.1)) q.2 := by
  unfold f_X10_neededBy_b77 at h
  obtain rfl := Option.some.inj h
  exact z_iret ⟨.int, rfl, rfl⟩ dX10_neededBy_77
def f_X10_neededBy (x0 : Nat) (x1 : Nat) (x2 : Int32) (x3 : Int32) (x4 : Int32) (M : zMe) : Option (Int32 × zMe) :=
  (zob M x1 4).bind fun _ =>
  (f_X4_behind x1 x2 x3 x4 M).bind fun q1 =>
  (f_J6_bitCount_0f7a4 q1.1 q1.2).bind fun q2 =>
  (f_J6_bitCount_0f7a4 x4 q2.2).bind fun q3 =>
  if q3.1 ≤ q2.1 then (
    (zgI q3.2 x0 [10] 1).bind fun v1 =>
    (zob q3.2 x0 10).bind fun _ =>
    (f_X10_fewestFor x0 (x2 + 1) (q1.1 &&& v1) q3.2).bind fun q4 =>
    (zgI q4.2 x0 [10] 1).bind fun v2 =>
    (zob q4.2 x0 10).bind fun _ =>
    (f_X10_fewestFor x0 (x2 + 1) (q1.1 &&& (v2 ^^^ (-1))) q4.2).bind fun q5 =>
    zlet (if (q4.1 : Int32) < q5.1 then q5.1 else q4.1 : Int32) fun v3 =>
    if v3 = 99 then (
      f_X10_neededBy_b77 99 q5.2)
    else (
      f_X10_neededBy_b77 (v3 + 1) q5.2))
  else (
    some (99, q3.2))
set_option maxHeartbeats 4000000 in
set_option maxRecDepth 100000 in
theorem s_X10_neededBy {g : zG} (hC : zC g) {x0 : Nat} {x1 : Nat} {x2 : Int32} {x3 : Int32} {x4 : Int32} {M : zMe} {q : (Int32 × zMe)} (h : f_X10_neededBy x0 x1 x2 x3 x4 M = some q) : zMet g yX10_neededBy mX10_neededBy [.ref x0, .ref x1, .int x2, .int x3, .int x4] M (some (.int q.1)) q.2 := by
  refine z_entry (by decide +kernel) rfl rfl (Nat.le_of_ble_eq_true rfl) ?_
  refine zeqL (L2 := [.ref x0, .ref x1, .int x2, .int x3, .int x4, .retAddr 0, .retAddr 0]) rfl ?_
  unfold f_X10_neededBy at h
  refine z_aload_n (x := x1) rfl dX10_neededBy_0 ?_
  refine z_iload_n (x := x2) rfl dX10_neededBy_1 ?_
  refine z_iload_n (x := x3) rfl dX10_neededBy_2 ?_
  refine z_iload (x := x4) rfl dX10_neededBy_3 ?_
  obtain ⟨_, hb, h⟩ := zbind h
  obtain ⟨fs, hb⟩ := zob_some hb
  obtain ⟨q1, h1, h⟩ := zbind h
  refine z_callV (av := [.int x2, .int x3, .int x4]) (rest := []) hC zcl_4 hb (s_X4_behind hC h1) lk_X10_35 im_X4_behind se_X4_behind cd_X4_behind ⟨by decide, by decide, (Nat.le_of_ble_eq_true rfl)⟩ dX10_neededBy_5 ?_
  clear hb fs
  refine zeqS (stk2 := [.int q1.1]) rfl ?_
  refine z_istore dX10_neededBy_8 (by decide) ?_
  refine zeqL (L2 := [.ref x0, .ref x1, .int x2, .int x3, .int x4, .int q1.1, .retAddr 0]) rfl ?_
  refine z_iload (x := q1.1) rfl dX10_neededBy_10 ?_
  obtain ⟨q2, h2, h⟩ := zbind h
  refine z_callS (av := [.int q1.1]) (rest := []) hC (s_J6_bitCount_0f7a4 hC h2) lk_X10_19 st_J6_bitCount_0f7a4 cd_J6_bitCount_0f7a4 ⟨by decide, by decide, (Nat.le_of_ble_eq_true rfl)⟩ dX10_neededBy_12 ?_
  refine zeqS (stk2 := [.int q2.1]) rfl ?_
  refine z_iload (x := x4) rfl dX10_neededBy_15 ?_
  obtain ⟨q3, h3, h⟩ := zbind h
  refine z_callS (av := [.int x4]) (rest := [.int q2.1]) hC (s_J6_bitCount_0f7a4 hC h3) lk_X10_19 st_J6_bitCount_0f7a4 cd_J6_bitCount_0f7a4 ⟨by decide, by decide, (Nat.le_of_ble_eq_true rfl)⟩ dX10_neededBy_17 ?_
  refine zeqS (stk2 := [.int q3.1, .int q2.1]) rfl ?_
  refine z_icmp_ge (tgt := 26) dX10_neededBy_20 (by decide) (fun c1 => ?_) (fun c1 => ?_)
  · have h := zift h c1
    refine z_aload_n (x := x0) rfl dX10_neededBy_26 ?_
    refine z_iload_n (x := x2) rfl dX10_neededBy_27 ?_
    refine z_iconst 1 (by decide) dX10_neededBy_28 ?_
    refine z_iadd dX10_neededBy_29 ?_
    refine z_iload (x := q1.1) rfl dX10_neededBy_30 ?_
    refine z_aload_n (x := x0) rfl dX10_neededBy_32 ?_
    obtain ⟨v1, h4, h⟩ := zbind h
    refine z_gI hC fs_X10_15 h4 dX10_neededBy_33 ?_
    refine z_iand dX10_neededBy_36 ?_
    obtain ⟨_, hb, h⟩ := zbind h
    obtain ⟨fs, hb⟩ := zob_some hb
    obtain ⟨q4, h5, h⟩ := zbind h
    refine z_callV (av := [.int (x2 + 1), .int (q1.1 &&& v1)]) (rest := []) hC zcl_10 hb (s_X10_fewestFor hC h5) lk_X10_41 im_X10_fewestFor se_X10_fewestFor cd_X10_fewestFor ⟨by decide, by decide, (Nat.le_of_ble_eq_true rfl)⟩ dX10_neededBy_37 ?_
    clear hb fs
    refine zeqS (stk2 := [.int q4.1]) rfl ?_
    refine z_aload_n (x := x0) rfl dX10_neededBy_40 ?_
    refine z_iload_n (x := x2) rfl dX10_neededBy_41 ?_
    refine z_iconst 1 (by decide) dX10_neededBy_42 ?_
    refine z_iadd dX10_neededBy_43 ?_
    refine z_iload (x := q1.1) rfl dX10_neededBy_44 ?_
    refine z_aload_n (x := x0) rfl dX10_neededBy_46 ?_
    obtain ⟨v2, h6, h⟩ := zbind h
    refine z_gI hC fs_X10_15 h6 dX10_neededBy_47 ?_
    refine z_iconst (-1) (by decide) dX10_neededBy_50 ?_
    refine z_ixor dX10_neededBy_51 ?_
    refine z_iand dX10_neededBy_52 ?_
    obtain ⟨_, hb, h⟩ := zbind h
    obtain ⟨fs, hb⟩ := zob_some hb
    obtain ⟨q5, h7, h⟩ := zbind h
    refine z_callV (av := [.int (x2 + 1), .int (q1.1 &&& (v2 ^^^ (-1)))]) (rest := [.int q4.1]) hC zcl_10 hb (s_X10_fewestFor hC h7) lk_X10_41 im_X10_fewestFor se_X10_fewestFor cd_X10_fewestFor ⟨by decide, by decide, (Nat.le_of_ble_eq_true rfl)⟩ dX10_neededBy_53 ?_
    clear hb fs
    refine zeqS (stk2 := [.int q5.1, .int q4.1]) rfl ?_
    refine z_mmax hC lk_X10_44 (by decide) (Nat.le_of_ble_eq_true rfl) dX10_neededBy_56 ?_
    refine z_nameI (fun v3 hv => ?_)
    have h := zlet_use h hv
    clear hv
    refine z_istore dX10_neededBy_59 (by decide) ?_
    refine zeqL (L2 := [.ref x0, .ref x1, .int x2, .int x3, .int x4, .int q1.1, .int v3]) rfl ?_
    refine z_iload (x := v3) rfl dX10_neededBy_61 ?_
    refine z_bipush 99 (by decide) dX10_neededBy_63 ?_
    refine z_icmp_ne (tgt := 73) dX10_neededBy_65 (by decide) (fun c2 => ?_) (fun c2 => ?_)
    · have h := zife h c2
      refine z_iload (x := v3) rfl dX10_neededBy_73 ?_
      refine z_iconst 1 (by decide) dX10_neededBy_75 ?_
      refine z_iadd dX10_neededBy_76 ?_
      refine zweak [false, false, false, false, false, false, false] ?_
      exact s_X10_neededBy_b77 hC _ _ _ h
    · have h := zift h c2
      refine z_bipush 99 (by decide) dX10_neededBy_68 ?_
      refine z_goto (tgt := 77) dX10_neededBy_70 (by decide) ?_
      refine zweak [false, false, false, false, false, false, false] ?_
      exact s_X10_neededBy_b77 hC _ _ _ h
  · have h := zife h c1
    refine z_bipush 99 (by decide) dX10_neededBy_23 ?_
    obtain rfl := Option.some.inj h
    exact z_iret ⟨.int, rfl, rfl⟩ dX10_neededBy_25
def f_X10_weigh_b79 (k9 : Nat → Nat → Int32 → Int32 → zMe → Option zMe) (k17 : Nat → Nat → Int32 → Int32 → Int32 → zMe → Option zMe) (x0 : Nat) (x1 : Nat) (x2 : Int32) (x4 : Int32) (x5 : Int32) (x6 : Int32) (M : zMe) : Option zMe :=
  (zgN M x0 [10] 0).bind fun a1 =>
  (zwI M a1 ((x4 * 32) + x5) x6).bind fun M1 =>
  zlet (x5 + 1) fun v1 =>
  k17 x0 x1 x2 x4 v1 M1
set_option maxHeartbeats 4000000 in
set_option maxRecDepth 100000 in
theorem s_X10_weigh_b79 {g : zG} (hC : zC g) {k9 : Nat → Nat → Int32 → Int32 → zMe → Option zMe} {k17 : Nat → Nat → Int32 → Int32 → Int32 → zMe → Option zMe} (hk9 : ∀ (x0 : Nat) (x1 : Nat) (x2 : Int32) (x4 : Int32) (M : zMe) (q : zMe), k9 x0 x1 x2 x4 M = some q → zW g mX10_weigh 9 [.ref x0, .ref x1, .int x2, .retAddr 0, .int x4, .retAddr 0, .retAddr 0] [] M none q) (hk17 : ∀ (x0 : Nat) (x1 : Nat) (x2 : Int32) (x4 : Int32) (x5 : Int32) (M : zMe) (q : zMe), k17 x0 x1 x2 x4 x5 M = some q → zW g mX10_weigh 17 [.ref x0, .ref x1, .int x2, .retAddr 0, .int x4, .int x5, .retAddr 0] [] M none q) (x0 : Nat) (x1 : Nat) (x2 : Int32) (x4 : Int32) (x5 : Int32) (x6 : Int32) (M : zMe) (q : zMe) (h : f_X10_weigh_b79 k9 k17 x0 x1 x2 x4 x5 x6 M = some q) : zW g mX10_weigh 79 [.ref x0, .ref x1, .int x2, .retAddr 0, .int x4, .int x5, .int x6] [] M none q := by
  unfold f_X10_weigh_b79 at h
  refine z_aload_n (x := x0) rfl dX10_weigh_79 ?_
  obtain ⟨a1, h1, h⟩ := zbind h
  refine z_gN hC fs_X10_9 h1 dX10_weigh_80 ?_
  refine z_iload (x := x4) rfl dX10_weigh_83 ?_
  refine z_bipush 32 (by decide) dX10_weigh_85 ?_
  refine z_imul dX10_weigh_87 ?_
  refine z_iload (x := x5) rfl dX10_weigh_88 ?_
  refine z_iadd dX10_weigh_90 ?_
  refine z_iload (x := x6) rfl dX10_weigh_91 ?_
  obtain ⟨M1, h2, h⟩ := zbind h
  refine z_wI h2 dX10_weigh_93 ?_
  obtain ⟨v1, hv⟩ : ∃ z : Int32, z = x5 + 1 := ⟨_, rfl⟩
  have h := zlet_use h hv
  refine z_iinc (v := v1) dX10_weigh_94 (x := x5) rfl (by rw [hv]; rfl) ?_
  clear hv
  refine zeqL (L2 := [.ref x0, .ref x1, .int x2, .retAddr 0, .int x4, .int v1, .int x6]) rfl ?_
  refine z_goto (tgt := 17) dX10_weigh_97 (by decide) ?_
  refine zweak [true, true, true, false, true, true, false] ?_
  exact hk17 _ _ _ _ _ _ _ h
def f_X10_weigh_b38 (k9 : Nat → Nat → Int32 → Int32 → zMe → Option zMe) (k17 : Nat → Nat → Int32 → Int32 → Int32 → zMe → Option zMe) (x0 : Nat) (x1 : Nat) (x2 : Int32) (x4 : Int32) (x5 : Int32) (y0 : Int32) (M : zMe) : Option zMe :=
  if y0 = 99 then (
    if 8 ≤ x4 then (
      f_X10_weigh_b79 k9 k17 x0 x1 x2 x4 x5 y0 M)
    else (
      (zob M x0 10).bind fun _ =>
      (f_X10_neededBy x0 x1 x4 0 x5 M).bind fun q1 =>
      (zob q1.2 x0 10).bind fun _ =>
      (f_X10_neededBy x0 x1 x4 1 x5 q1.2).bind fun q2 =>
      zlet (if (q2.1 : Int32) < q1.1 then q2.1 else q1.1 : Int32) fun v1 =>
      f_X10_weigh_b79 k9 k17 x0 x1 x2 x4 x5 v1 q2.2))
  else (
    f_X10_weigh_b79 k9 k17 x0 x1 x2 x4 x5 y0 M)
set_option maxHeartbeats 4000000 in
set_option maxRecDepth 100000 in
theorem s_X10_weigh_b38 {g : zG} (hC : zC g) {k9 : Nat → Nat → Int32 → Int32 → zMe → Option zMe} {k17 : Nat → Nat → Int32 → Int32 → Int32 → zMe → Option zMe} (hk9 : ∀ (x0 : Nat) (x1 : Nat) (x2 : Int32) (x4 : Int32) (M : zMe) (q : zMe), k9 x0 x1 x2 x4 M = some q → zW g mX10_weigh 9 [.ref x0, .ref x1, .int x2, .retAddr 0, .int x4, .retAddr 0, .retAddr 0] [] M none q) (hk17 : ∀ (x0 : Nat) (x1 : Nat) (x2 : Int32) (x4 : Int32) (x5 : Int32) (M : zMe) (q : zMe), k17 x0 x1 x2 x4 x5 M = some q → zW g mX10_weigh 17 [.ref x0, .ref x1, .int x2, .retAddr 0, .int x4, .int x5, .retAddr 0] [] M none q) (x0 : Nat) (x1 : Nat) (x2 : Int32) (x4 : Int32) (x5 : Int32) (y0 : Int32) (M : zMe) (q : zMe) (h : f_X10_weigh_b38 k9 k17 x0 x1 x2 x4 x5 y0 M = some q) : zW g mX10_weigh 38 [.ref x0, .ref x1, .int x2, .retAddr 0, .int x4, .int x5, .retAddr 0] [.int y0] M none q := by
  unfold f_X10_weigh_b38 at h
  refine z_istore dX10_weigh_38 (by decide) ?_
  refine zeqL (L2 := [.ref x0, .ref x1, .int x2, .retAddr 0, .int x4, .int x5, .int y0]) rfl ?_
  refine z_iload (x := y0) rfl dX10_weigh_40 ?_
  refine z_bipush 99 (by decide) dX10_weigh_42 ?_
  refine z_icmp_ne (tgt := 79) dX10_weigh_44 (by decide) (fun c1 => ?_) (fun c1 => ?_)
  · have h := zife h c1
    exact s_X10_weigh_b79 hC hk9 hk17 _ _ _ _ _ _ _ _ h
  · have h := zift h c1
    refine z_iload (x := x4) rfl dX10_weigh_47 ?_
    refine z_bipush 8 (by decide) dX10_weigh_49 ?_
    refine z_icmp_ge (tgt := 79) dX10_weigh_51 (by decide) (fun c2 => ?_) (fun c2 => ?_)
    · have h := zift h c2
      exact s_X10_weigh_b79 hC hk9 hk17 _ _ _ _ _ _ _ _ h
    · have h := zife h c2
      refine z_aload_n (x := x0) rfl dX10_weigh_54 ?_
      refine z_aload_n (x := x1) rfl dX10_weigh_55 ?_
      refine z_iload (x := x4) rfl dX10_weigh_56 ?_
      refine z_iconst 0 (by decide) dX10_weigh_58 ?_
      refine z_iload (x := x5) rfl dX10_weigh_59 ?_
      obtain ⟨_, hb, h⟩ := zbind h
      obtain ⟨fs, hb⟩ := zob_some hb
      obtain ⟨q1, h1, h⟩ := zbind h
      refine z_callV (av := [.ref x1, .int x4, .int 0, .int x5]) (rest := []) hC zcl_10 hb (s_X10_neededBy hC h1) lk_X10_25 im_X10_neededBy se_X10_neededBy cd_X10_neededBy ⟨by decide, by decide, (Nat.le_of_ble_eq_true rfl)⟩ dX10_weigh_61 ?_
      clear hb fs
      refine zeqS (stk2 := [.int q1.1]) rfl ?_
      refine z_aload_n (x := x0) rfl dX10_weigh_64 ?_
      refine z_aload_n (x := x1) rfl dX10_weigh_65 ?_
      refine z_iload (x := x4) rfl dX10_weigh_66 ?_
      refine z_iconst 1 (by decide) dX10_weigh_68 ?_
      refine z_iload (x := x5) rfl dX10_weigh_69 ?_
      obtain ⟨_, hb, h⟩ := zbind h
      obtain ⟨fs, hb⟩ := zob_some hb
      obtain ⟨q2, h2, h⟩ := zbind h
      refine z_callV (av := [.ref x1, .int x4, .int 1, .int x5]) (rest := [.int q1.1]) hC zcl_10 hb (s_X10_neededBy hC h2) lk_X10_25 im_X10_neededBy se_X10_neededBy cd_X10_neededBy ⟨by decide, by decide, (Nat.le_of_ble_eq_true rfl)⟩ dX10_weigh_71 ?_
      clear hb fs
      refine zeqS (stk2 := [.int q2.1, .int q1.1]) rfl ?_
      refine z_mmin hC lk_X10_29 (by decide) (Nat.le_of_ble_eq_true rfl) dX10_weigh_74 ?_
      refine z_nameI (fun v1 hv => ?_)
      have h := zlet_use h hv
      clear hv
      refine z_istore dX10_weigh_77 (by decide) ?_
      refine zeqL (L2 := [.ref x0, .ref x1, .int x2, .retAddr 0, .int x4, .int x5, .int v1]) rfl ?_
      exact s_X10_weigh_b79 hC hk9 hk17 _ _ _ _ _ _ _ _ h
def f_X10_weigh_b17 (k9 : Nat → Nat → Int32 → Int32 → zMe → Option zMe) : Nat → Nat → Nat → Int32 → Int32 → Int32 → zMe → Option zMe
  | 0, _, _, _, _, _, _ => none
  | n + 1, x0, x1, x2, x4, x5, M =>
    if x2 < x5 then (
      zlet (x4 + (-1)) fun v1 =>
      k9 x0 x1 x2 v1 M)
    else (
      (f_J6_bitCount_0f7a4 x5 M).bind fun q1 =>
      if 1 < q1.1 then (
        f_X10_weigh_b38 k9 (f_X10_weigh_b17 k9 n) x0 x1 x2 x4 x5 99 q1.2)
      else (
        f_X10_weigh_b38 k9 (f_X10_weigh_b17 k9 n) x0 x1 x2 x4 x5 0 q1.2))
set_option maxHeartbeats 4000000 in
set_option maxRecDepth 100000 in
theorem s_X10_weigh_b17 {g : zG} (hC : zC g) {k9 : Nat → Nat → Int32 → Int32 → zMe → Option zMe} (hk9 : ∀ (x0 : Nat) (x1 : Nat) (x2 : Int32) (x4 : Int32) (M : zMe) (q : zMe), k9 x0 x1 x2 x4 M = some q → zW g mX10_weigh 9 [.ref x0, .ref x1, .int x2, .retAddr 0, .int x4, .retAddr 0, .retAddr 0] [] M none q) : ∀ (n : Nat) (x0 : Nat) (x1 : Nat) (x2 : Int32) (x4 : Int32) (x5 : Int32) (M : zMe) (q : zMe), f_X10_weigh_b17 k9 n x0 x1 x2 x4 x5 M = some q → zW g mX10_weigh 17 [.ref x0, .ref x1, .int x2, .retAddr 0, .int x4, .int x5, .retAddr 0] [] M none q := by
  intro n
  induction n with
  | zero => intro x0 x1 x2 x4 x5 M q h; cases h
  | succ n ih =>
    intro x0 x1 x2 x4 x5 M q h
    rw [f_X10_weigh_b17] at h
    refine z_iload (x := x5) rfl dX10_weigh_17 ?_
    refine z_iload_n (x := x2) rfl dX10_weigh_19 ?_
    refine z_icmp_gt (tgt := 100) dX10_weigh_20 (by decide) (fun c1 => ?_) (fun c1 => ?_)
    · have h := zift h c1
      obtain ⟨v1, hv⟩ : ∃ z : Int32, z = x4 + (-1) := ⟨_, rfl⟩
      have h := zlet_use h hv
      refine z_iinc (v := v1) dX10_weigh_100 (x := x4) rfl (by rw [hv]; rfl) ?_
      clear hv
      refine zeqL (L2 := [.ref x0, .ref x1, .int x2, .retAddr 0, .int v1, .int x5, .retAddr 0]) rfl ?_
      refine z_goto (tgt := 9) dX10_weigh_103 (by decide) ?_
      refine zweak [true, true, true, false, true, false, false] ?_
      exact hk9 _ _ _ _ _ _ h
    · have h := zife h c1
      refine z_iload (x := x5) rfl dX10_weigh_23 ?_
      obtain ⟨q1, h1, h⟩ := zbind h
      refine z_callS (av := [.int x5]) (rest := []) hC (s_J6_bitCount_0f7a4 hC h1) lk_X10_19 st_J6_bitCount_0f7a4 cd_J6_bitCount_0f7a4 ⟨by decide, by decide, (Nat.le_of_ble_eq_true rfl)⟩ dX10_weigh_25 ?_
      refine zeqS (stk2 := [.int q1.1]) rfl ?_
      refine z_iconst 1 (by decide) dX10_weigh_28 ?_
      refine z_icmp_gt (tgt := 36) dX10_weigh_29 (by decide) (fun c2 => ?_) (fun c2 => ?_)
      · have h := zift h c2
        refine z_bipush 99 (by decide) dX10_weigh_36 ?_
        exact s_X10_weigh_b38 hC hk9 ih _ _ _ _ _ _ _ _ h
      · have h := zife h c2
        refine z_iconst 0 (by decide) dX10_weigh_32 ?_
        refine z_goto (tgt := 38) dX10_weigh_33 (by decide) ?_
        exact s_X10_weigh_b38 hC hk9 ih _ _ _ _ _ _ _ _ h
def f_X10_weigh_b9  : Nat → Nat → Nat → Int32 → Int32 → zMe → Option zMe
  | 0, _, _, _, _, _ => none
  | n + 1, x0, x1, x2, x4, M =>
    if x4 < 0 then (
      some M)
    else (
      f_X10_weigh_b17 (f_X10_weigh_b9 n) zfu x0 x1 x2 x4 0 M)
set_option maxHeartbeats 4000000 in
set_option maxRecDepth 100000 in
theorem s_X10_weigh_b9 {g : zG} (hC : zC g)  : ∀ (n : Nat) (x0 : Nat) (x1 : Nat) (x2 : Int32) (x4 : Int32) (M : zMe) (q : zMe), f_X10_weigh_b9  n x0 x1 x2 x4 M = some q → zW g mX10_weigh 9 [.ref x0, .ref x1, .int x2, .retAddr 0, .int x4, .retAddr 0, .retAddr 0] [] M none q := by
  intro n
  induction n with
  | zero => intro x0 x1 x2 x4 M q h; cases h
  | succ n ih =>
    intro x0 x1 x2 x4 M q h
    rw [f_X10_weigh_b9] at h
    refine z_iload (x := x4) rfl dX10_weigh_9 ?_
    refine z_if_lt (tgt := 106) dX10_weigh_11 (by decide) (fun c1 => ?_) (fun c1 => ?_)
    · have h := zift h c1
      obtain rfl := Option.some.inj h
      exact z_ret rfl dX10_weigh_106
    · have h := zife h c1
      refine z_iconst 0 (by decide) dX10_weigh_14 ?_
      refine z_istore dX10_weigh_15 (by decide) ?_
      refine zeqL (L2 := [.ref x0, .ref x1, .int x2, .retAddr 0, .int x4, .int 0, .retAddr 0]) rfl ?_
      exact s_X10_weigh_b17 hC ih _ _ _ _ _ _ _ _ h
def f_X10_weigh (x0 : Nat) (x1 : Nat) (x2 : Int32) (x3 : Int32) (M : zMe) : Option zMe :=
  (zpI M x0 [10] 1 x3).bind fun M1 =>
  f_X10_weigh_b9 zfu x0 x1 x2 8 M1
set_option maxHeartbeats 4000000 in
set_option maxRecDepth 100000 in
theorem s_X10_weigh {g : zG} (hC : zC g) {x0 : Nat} {x1 : Nat} {x2 : Int32} {x3 : Int32} {M : zMe} {q : zMe} (h : f_X10_weigh x0 x1 x2 x3 M = some q) : zMet g yX10_weigh mX10_weigh [.ref x0, .ref x1, .int x2, .int x3] M none q := by
  refine z_entry (by decide +kernel) rfl rfl (Nat.le_of_ble_eq_true rfl) ?_
  refine zeqL (L2 := [.ref x0, .ref x1, .int x2, .int x3, .retAddr 0, .retAddr 0, .retAddr 0]) rfl ?_
  unfold f_X10_weigh at h
  refine z_aload_n (x := x0) rfl dX10_weigh_0 ?_
  refine z_iload_n (x := x3) rfl dX10_weigh_1 ?_
  obtain ⟨M1, h1, h⟩ := zbind h
  refine z_pI hC fp_X10_15 h1 dX10_weigh_2 ?_
  refine z_bipush 8 (by decide) dX10_weigh_5 ?_
  refine z_istore dX10_weigh_7 (by decide) ?_
  refine zeqL (L2 := [.ref x0, .ref x1, .int x2, .int x3, .int 8, .retAddr 0, .retAddr 0]) rfl ?_
  refine zweak [true, true, true, false, true, false, false] ?_
  exact s_X10_weigh_b9 hC _ _ _ _ _ _ _ h
def f_X10_firstWhistle_b48  (y0 : Int32) (M : zMe) : Option (Int32 × zMe) :=
  some (y0, M)
set_option maxHeartbeats 4000000 in
set_option maxRecDepth 100000 in
theorem s_X10_firstWhistle_b48 {g : zG} (hC : zC g)  (y0 : Int32) (M : zMe) (q : (Int32 × zMe)) (h : f_X10_firstWhistle_b48  y0 M = some q) : zW g mX10_firstWhistle 48 [.retAddr 0, .retAddr 0, .retAddr 0] [.int y0] M (some (.int q.1)) q.2 := by
  unfold f_X10_firstWhistle_b48 at h
  obtain rfl := Option.some.inj h
  exact z_iret ⟨.int, rfl, rfl⟩ dX10_firstWhistle_48
def f_X10_firstWhistle (x0 : Nat) (x1 : Nat) (x2 : Int32) (M : zMe) : Option (Int32 × zMe) :=
  (f_J6_bitCount_0f7a4 x2 M).bind fun q1 =>
  if 1 < q1.1 then (
    (zob q1.2 x0 10).bind fun _ =>
    (f_X10_fewestFor x0 0 x2 q1.2).bind fun q2 =>
    if q2.1 = 99 then (
      some ((-5), q2.2))
    else (
      (zob q2.2 x0 10).bind fun _ =>
      (f_X10_neededBy x0 x1 0 0 x2 q2.2).bind fun q3 =>
      (zob q3.2 x0 10).bind fun _ =>
      (f_X10_neededBy x0 x1 0 1 x2 q3.2).bind fun q4 =>
      if q4.1 < q3.1 then (
        f_X10_firstWhistle_b48 1 q4.2)
      else (
        f_X10_firstWhistle_b48 0 q4.2)))
  else (
    some ((-1), q1.2))
set_option maxHeartbeats 4000000 in
set_option maxRecDepth 100000 in
theorem s_X10_firstWhistle {g : zG} (hC : zC g) {x0 : Nat} {x1 : Nat} {x2 : Int32} {M : zMe} {q : (Int32 × zMe)} (h : f_X10_firstWhistle x0 x1 x2 M = some q) : zMet g yX10_firstWhistle mX10_firstWhistle [.ref x0, .ref x1, .int x2] M (some (.int q.1)) q.2 := by
  refine z_entry (by decide +kernel) rfl rfl (Nat.le_of_ble_eq_true rfl) ?_
  refine zeqL (L2 := [.ref x0, .ref x1, .int x2]) rfl ?_
  unfold f_X10_firstWhistle at h
  refine z_iload_n (x := x2) rfl dX10_firstWhistle_0 ?_
  obtain ⟨q1, h1, h⟩ := zbind h
  refine z_callS (av := [.int x2]) (rest := []) hC (s_J6_bitCount_0f7a4 hC h1) lk_X10_19 st_J6_bitCount_0f7a4 cd_J6_bitCount_0f7a4 ⟨by decide, by decide, (Nat.le_of_ble_eq_true rfl)⟩ dX10_firstWhistle_1 ?_
  refine zeqS (stk2 := [.int q1.1]) rfl ?_
  refine z_iconst 1 (by decide) dX10_firstWhistle_4 ?_
  refine z_icmp_gt (tgt := 10) dX10_firstWhistle_5 (by decide) (fun c1 => ?_) (fun c1 => ?_)
  · have h := zift h c1
    refine z_aload_n (x := x0) rfl dX10_firstWhistle_10 ?_
    refine z_iconst 0 (by decide) dX10_firstWhistle_11 ?_
    refine z_iload_n (x := x2) rfl dX10_firstWhistle_12 ?_
    obtain ⟨_, hb, h⟩ := zbind h
    obtain ⟨fs, hb⟩ := zob_some hb
    obtain ⟨q2, h2, h⟩ := zbind h
    refine z_callV (av := [.int 0, .int x2]) (rest := []) hC zcl_10 hb (s_X10_fewestFor hC h2) lk_X10_41 im_X10_fewestFor se_X10_fewestFor cd_X10_fewestFor ⟨by decide, by decide, (Nat.le_of_ble_eq_true rfl)⟩ dX10_firstWhistle_13 ?_
    clear hb fs
    refine zeqS (stk2 := [.int q2.1]) rfl ?_
    refine z_bipush 99 (by decide) dX10_firstWhistle_16 ?_
    refine z_icmp_ne (tgt := 24) dX10_firstWhistle_18 (by decide) (fun c2 => ?_) (fun c2 => ?_)
    · have h := zife h c2
      refine z_aload_n (x := x0) rfl dX10_firstWhistle_24 ?_
      refine z_aload_n (x := x1) rfl dX10_firstWhistle_25 ?_
      refine z_iconst 0 (by decide) dX10_firstWhistle_26 ?_
      refine z_iconst 0 (by decide) dX10_firstWhistle_27 ?_
      refine z_iload_n (x := x2) rfl dX10_firstWhistle_28 ?_
      obtain ⟨_, hb, h⟩ := zbind h
      obtain ⟨fs, hb⟩ := zob_some hb
      obtain ⟨q3, h3, h⟩ := zbind h
      refine z_callV (av := [.ref x1, .int 0, .int 0, .int x2]) (rest := []) hC zcl_10 hb (s_X10_neededBy hC h3) lk_X10_25 im_X10_neededBy se_X10_neededBy cd_X10_neededBy ⟨by decide, by decide, (Nat.le_of_ble_eq_true rfl)⟩ dX10_firstWhistle_29 ?_
      clear hb fs
      refine zeqS (stk2 := [.int q3.1]) rfl ?_
      refine z_aload_n (x := x0) rfl dX10_firstWhistle_32 ?_
      refine z_aload_n (x := x1) rfl dX10_firstWhistle_33 ?_
      refine z_iconst 0 (by decide) dX10_firstWhistle_34 ?_
      refine z_iconst 1 (by decide) dX10_firstWhistle_35 ?_
      refine z_iload_n (x := x2) rfl dX10_firstWhistle_36 ?_
      obtain ⟨_, hb, h⟩ := zbind h
      obtain ⟨fs, hb⟩ := zob_some hb
      obtain ⟨q4, h4, h⟩ := zbind h
      refine z_callV (av := [.ref x1, .int 0, .int 1, .int x2]) (rest := [.int q3.1]) hC zcl_10 hb (s_X10_neededBy hC h4) lk_X10_25 im_X10_neededBy se_X10_neededBy cd_X10_neededBy ⟨by decide, by decide, (Nat.le_of_ble_eq_true rfl)⟩ dX10_firstWhistle_37 ?_
      clear hb fs
      refine zeqS (stk2 := [.int q4.1, .int q3.1]) rfl ?_
      refine z_icmp_gt (tgt := 47) dX10_firstWhistle_40 (by decide) (fun c3 => ?_) (fun c3 => ?_)
      · have h := zift h c3
        refine z_iconst 1 (by decide) dX10_firstWhistle_47 ?_
        refine zweak [false, false, false] ?_
        exact s_X10_firstWhistle_b48 hC _ _ _ h
      · have h := zife h c3
        refine z_iconst 0 (by decide) dX10_firstWhistle_43 ?_
        refine z_goto (tgt := 48) dX10_firstWhistle_44 (by decide) ?_
        refine zweak [false, false, false] ?_
        exact s_X10_firstWhistle_b48 hC _ _ _ h
    · have h := zift h c2
      refine z_bipush (-5) (by decide) dX10_firstWhistle_21 ?_
      obtain rfl := Option.some.inj h
      exact z_iret ⟨.int, rfl, rfl⟩ dX10_firstWhistle_23
  · have h := zife h c1
    refine z_iconst (-1) (by decide) dX10_firstWhistle_8 ?_
    obtain rfl := Option.some.inj h
    exact z_iret ⟨.int, rfl, rfl⟩ dX10_firstWhistle_9
def f_X11_init (x0 : Nat) (M : zMe) : Option zMe :=
  zlet (zAdd M (.inr (2, [.int 0, .int 0, .int 0, .int 0, .int 0, .int 0, .int 0, .null])) 8) fun M1 =>
  (f_X2_init M.2.1 M1).bind fun q1 =>
  (zpR q1 x0 [11] 0 (some M.2.1)).bind fun M2 =>
  (znR M2 "OneWhistle$Hill" 2).bind fun M3 =>
  (zpR M3 x0 [11] 1 (some M2.2.1)).bind fun M4 =>
  (znI M4 .byte 200).bind fun M5 =>
  (zpR M5 x0 [11] 2 (some M4.2.1)).bind fun M6 =>
  (zpI M6 x0 [11] 3 0).bind fun M7 =>
  (zpL M7 x0 [11] 4 (0 : Int64)).bind fun M8 =>
  (zpL M8 x0 [11] 5 (1 : Int64)).bind fun M9 =>
  (zpI M9 x0 [11] 6 0).bind fun M10 =>
  (zpI M10 x0 [11] 7 0).bind fun M11 =>
  (zpI M11 x0 [11] 8 0).bind fun M12 =>
  zlet (zAdd M12 (.inr (0, [.null, .null, .int 0, .int 0, .int 0, .null, .null, .int 0, .int 0, .int 0, .int 0])) 11) fun M13 =>
  (f_X0_init M12.2.1 M13).bind fun q2 =>
  (zpR q2 x0 [11] 9 (some M12.2.1)).bind fun M14 =>
  zlet (zAdd M14 (.inr (4, [.null, .null, .null, .int 0])) 4) fun M15 =>
  (f_X4_init M14.2.1 M15).bind fun q3 =>
  (zpR q3 x0 [11] 10 (some M14.2.1)).bind fun M16 =>
  zlet (zAdd M16 (.inr (10, [.null, .int 0])) 2) fun M17 =>
  (f_X10_init M16.2.1 M17).bind fun q4 =>
  (zpR q4 x0 [11] 11 (some M16.2.1)).bind fun M18 =>
  (znL M18 5).bind fun M19 =>
  (zpR M19 x0 [11] 12 (some M18.2.1)).bind fun M20 =>
  (znL M20 5).bind fun M21 =>
  (zpR M21 x0 [11] 13 (some M20.2.1)).bind fun M22 =>
  some M22
set_option maxHeartbeats 4000000 in
set_option maxRecDepth 100000 in
theorem s_X11_init {g : zG} (hC : zC g) {x0 : Nat} {M : zMe} {q : zMe} (h : f_X11_init x0 M = some q) : zMet g yX11_init mX11_init [.ref x0] M none q := by
  refine z_entry (by decide +kernel) rfl rfl (Nat.le_of_ble_eq_true rfl) ?_
  refine zeqL (L2 := [.ref x0]) rfl ?_
  unfold f_X11_init at h
  refine z_aload_n (x := x0) rfl dX11_init_0 ?_
  refine z_objInit hC dX11_init_1 lk_X11_3 im_obj cd_obj (by decide) (Nat.le_of_ble_eq_true rfl) ?_
  refine z_aload_n (x := x0) rfl dX11_init_4 ?_
  obtain ⟨M1, hm⟩ : ∃ z, z = zAdd M (.inr (2, [.int 0, .int 0, .int 0, .int 0, .int 0, .int 0, .int 0, .null])) 8 := ⟨_, rfl⟩
  have h := zlet_use h hm
  refine z_nO hC zcl_2 (fs := [.int 0, .int 0, .int 0, .int 0, .int 0, .int 0, .int 0, .null]) cl_X11_9 ins_2 ini_2 rfl df_2 hm dX11_init_5 ?_
  refine z_dup rfl dX11_init_8 ?_
  obtain ⟨q1, h1, h⟩ := zbind h
  refine z_callIN (av := []) (rest := [.ref M.2.1, .ref x0]) hC (s_X2_init hC h1) ln_X11_11 im_X2_init rfl rfl cd_X2_init ⟨by decide, by decide, (Nat.le_of_ble_eq_true rfl)⟩ dX11_init_9 ?_
  refine zeqS (stk2 := [.ref M.2.1, .ref x0]) rfl ?_
  obtain ⟨M2, h2, h⟩ := zbind h
  refine z_pRo hC fp_X11_12 h2 dX11_init_12 ?_
  refine z_aload_n (x := x0) rfl dX11_init_15 ?_
  refine z_iconst 2 (by decide) dX11_init_16 ?_
  obtain ⟨M3, h3, h⟩ := zbind h
  refine z_nR hC cl_X11_9 ao_2 h3 dX11_init_17 ?_
  obtain ⟨M4, h4, h⟩ := zbind h
  refine z_pRa hC fp_X11_16 h4 dX11_init_20 ?_
  refine z_aload_n (x := x0) rfl dX11_init_23 ?_
  refine z_sipush 200 (by decide) dX11_init_24 ?_
  obtain ⟨M5, h5, h⟩ := zbind h
  refine z_nI hC (at0 := .byte) rfl rfl (by decide) ac_byte h5 dX11_init_27 ?_
  obtain ⟨M6, h6, h⟩ := zbind h
  refine z_pRa hC fp_X11_20 h6 dX11_init_29 ?_
  refine z_aload_n (x := x0) rfl dX11_init_32 ?_
  refine z_iconst 0 (by decide) dX11_init_33 ?_
  obtain ⟨M7, h7, h⟩ := zbind h
  refine z_pI hC fp_X11_24 h7 dX11_init_34 ?_
  refine z_aload_n (x := x0) rfl dX11_init_37 ?_
  refine z_lconst (0 : Int64) (by decide) dX11_init_38 ?_
  obtain ⟨M8, h8, h⟩ := zbind h
  refine z_pL hC fp_X11_28 h8 dX11_init_39 ?_
  refine z_aload_n (x := x0) rfl dX11_init_42 ?_
  refine z_lconst (1 : Int64) (by decide) dX11_init_43 ?_
  obtain ⟨M9, h9, h⟩ := zbind h
  refine z_pL hC fp_X11_32 h9 dX11_init_44 ?_
  refine z_aload_n (x := x0) rfl dX11_init_47 ?_
  refine z_iconst 0 (by decide) dX11_init_48 ?_
  obtain ⟨M10, h10, h⟩ := zbind h
  refine z_pI hC fp_X11_35 h10 dX11_init_49 ?_
  refine z_aload_n (x := x0) rfl dX11_init_52 ?_
  refine z_iconst 0 (by decide) dX11_init_53 ?_
  obtain ⟨M11, h11, h⟩ := zbind h
  refine z_pI hC fp_X11_38 h11 dX11_init_54 ?_
  refine z_aload_n (x := x0) rfl dX11_init_57 ?_
  refine z_iconst 0 (by decide) dX11_init_58 ?_
  obtain ⟨M12, h12, h⟩ := zbind h
  refine z_pI hC fp_X11_41 h12 dX11_init_59 ?_
  refine z_aload_n (x := x0) rfl dX11_init_62 ?_
  obtain ⟨M13, hm⟩ : ∃ z, z = zAdd M12 (.inr (0, [.null, .null, .int 0, .int 0, .int 0, .null, .null, .int 0, .int 0, .int 0, .int 0])) 11 := ⟨_, rfl⟩
  have h := zlet_use h hm
  refine z_nO hC zcl_0 (fs := [.null, .null, .int 0, .int 0, .int 0, .null, .null, .int 0, .int 0, .int 0, .int 0]) cl_X11_44 ins_0 ini_0 rfl df_0 hm dX11_init_63 ?_
  refine z_dup rfl dX11_init_66 ?_
  obtain ⟨q2, h13, h⟩ := zbind h
  refine z_callIN (av := []) (rest := [.ref M12.2.1, .ref x0]) hC (s_X0_init hC h13) ln_X11_46 im_X0_init rfl rfl cd_X0_init ⟨by decide, by decide, (Nat.le_of_ble_eq_true rfl)⟩ dX11_init_67 ?_
  refine zeqS (stk2 := [.ref M12.2.1, .ref x0]) rfl ?_
  obtain ⟨M14, h14, h⟩ := zbind h
  refine z_pRo hC fp_X11_47 h14 dX11_init_70 ?_
  refine z_aload_n (x := x0) rfl dX11_init_73 ?_
  obtain ⟨M15, hm⟩ : ∃ z, z = zAdd M14 (.inr (4, [.null, .null, .null, .int 0])) 4 := ⟨_, rfl⟩
  have h := zlet_use h hm
  refine z_nO hC zcl_4 (fs := [.null, .null, .null, .int 0]) cl_X11_51 ins_4 ini_4 rfl df_4 hm dX11_init_74 ?_
  refine z_dup rfl dX11_init_77 ?_
  obtain ⟨q3, h15, h⟩ := zbind h
  refine z_callIN (av := []) (rest := [.ref M14.2.1, .ref x0]) hC (s_X4_init hC h15) ln_X11_53 im_X4_init rfl rfl cd_X4_init ⟨by decide, by decide, (Nat.le_of_ble_eq_true rfl)⟩ dX11_init_78 ?_
  refine zeqS (stk2 := [.ref M14.2.1, .ref x0]) rfl ?_
  obtain ⟨M16, h16, h⟩ := zbind h
  refine z_pRo hC fp_X11_54 h16 dX11_init_81 ?_
  refine z_aload_n (x := x0) rfl dX11_init_84 ?_
  obtain ⟨M17, hm⟩ : ∃ z, z = zAdd M16 (.inr (10, [.null, .int 0])) 2 := ⟨_, rfl⟩
  have h := zlet_use h hm
  refine z_nO hC zcl_10 (fs := [.null, .int 0]) cl_X11_58 ins_10 ini_10 rfl df_10 hm dX11_init_85 ?_
  refine z_dup rfl dX11_init_88 ?_
  obtain ⟨q4, h17, h⟩ := zbind h
  refine z_callIN (av := []) (rest := [.ref M16.2.1, .ref x0]) hC (s_X10_init hC h17) ln_X11_60 im_X10_init rfl rfl cd_X10_init ⟨by decide, by decide, (Nat.le_of_ble_eq_true rfl)⟩ dX11_init_89 ?_
  refine zeqS (stk2 := [.ref M16.2.1, .ref x0]) rfl ?_
  obtain ⟨M18, h18, h⟩ := zbind h
  refine z_pRo hC fp_X11_61 h18 dX11_init_92 ?_
  refine z_aload_n (x := x0) rfl dX11_init_95 ?_
  refine z_iconst 5 (by decide) dX11_init_96 ?_
  obtain ⟨M19, h19, h⟩ := zbind h
  refine z_nL hC ac_long h19 dX11_init_97 ?_
  obtain ⟨M20, h20, h⟩ := zbind h
  refine z_pRa hC fp_X11_65 h20 dX11_init_99 ?_
  refine z_aload_n (x := x0) rfl dX11_init_102 ?_
  refine z_iconst 5 (by decide) dX11_init_103 ?_
  obtain ⟨M21, h21, h⟩ := zbind h
  refine z_nL hC ac_long h21 dX11_init_104 ?_
  obtain ⟨M22, h22, h⟩ := zbind h
  refine z_pRa hC fp_X11_69 h22 dX11_init_106 ?_
  obtain rfl := Option.some.inj h
  exact z_ret rfl dX11_init_109
def f_X11_refusedBad (x0 : Nat) (x1 : Int32) (M : zMe) : Option (Int32 × zMe) :=
  (zgI M x0 [11] 6).bind fun v1 =>
  (zpI M x0 [11] 6 (v1 + 1)).bind fun M1 =>
  some (x1, M1)
set_option maxHeartbeats 4000000 in
set_option maxRecDepth 100000 in
theorem s_X11_refusedBad {g : zG} (hC : zC g) {x0 : Nat} {x1 : Int32} {M : zMe} {q : (Int32 × zMe)} (h : f_X11_refusedBad x0 x1 M = some q) : zMet g yX11_refusedBad mX11_refusedBad [.ref x0, .int x1] M (some (.int q.1)) q.2 := by
  refine z_entry (by decide +kernel) rfl rfl (Nat.le_of_ble_eq_true rfl) ?_
  refine zeqL (L2 := [.ref x0, .int x1]) rfl ?_
  unfold f_X11_refusedBad at h
  refine z_aload_n (x := x0) rfl dX11_refusedBad_0 ?_
  refine z_dup rfl dX11_refusedBad_1 ?_
  obtain ⟨v1, h1, h⟩ := zbind h
  refine z_gI hC fs_X11_35 h1 dX11_refusedBad_2 ?_
  refine z_iconst 1 (by decide) dX11_refusedBad_5 ?_
  refine z_iadd dX11_refusedBad_6 ?_
  obtain ⟨M1, h2, h⟩ := zbind h
  refine z_pI hC fp_X11_35 h2 dX11_refusedBad_7 ?_
  refine z_iload_n (x := x1) rfl dX11_refusedBad_10 ?_
  obtain rfl := Option.some.inj h
  exact z_iret ⟨.int, rfl, rfl⟩ dX11_refusedBad_11
def f_X11_places_b10  (x0 : Nat) (M : zMe) : Option (Int32 × zMe) :=
  (zob M x0 11).bind fun _ =>
  (f_X11_refusedBad x0 (-2) M).bind fun q1 =>
  some (q1.1, q1.2)
set_option maxHeartbeats 4000000 in
set_option maxRecDepth 100000 in
theorem s_X11_places_b10 {g : zG} (hC : zC g)  (x0 : Nat) (M : zMe) (q : (Int32 × zMe)) (h : f_X11_places_b10  x0 M = some q) : zW g mX11_places 10 [.ref x0, .retAddr 0, .retAddr 0] [] M (some (.int q.1)) q.2 := by
  unfold f_X11_places_b10 at h
  refine z_aload_n (x := x0) rfl dX11_places_10 ?_
  refine z_bipush (-2) (by decide) dX11_places_11 ?_
  obtain ⟨_, hb, h⟩ := zbind h
  obtain ⟨fs, hb⟩ := zob_some hb
  obtain ⟨q1, h1, h⟩ := zbind h
  refine z_callV (av := [.int (-2)]) (rest := []) hC zcl_11 hb (s_X11_refusedBad hC h1) lk_X11_72 im_X11_refusedBad se_X11_refusedBad cd_X11_refusedBad ⟨by decide, by decide, (Nat.le_of_ble_eq_true rfl)⟩ dX11_places_13 ?_
  clear hb fs
  refine zeqS (stk2 := [.int q1.1]) rfl ?_
  obtain rfl := Option.some.inj h
  exact z_iret ⟨.int, rfl, rfl⟩ dX11_places_16
def f_X11_places (x0 : Nat) (x1 : Int32) (M : zMe) : Option (Int32 × zMe) :=
  if x1 < 2 then (
    f_X11_places_b10 x0 M)
  else (
    if x1 ≤ 5 then (
      (zgN M x0 [11] 0).bind fun a1 =>
      (zgI M a1 [2] 0).bind fun v1 =>
      (zgN M x0 [11] 0).bind fun a2 =>
      (zob M a2 2).bind fun _ =>
      (f_X2_settle a2 x1 M).bind fun q1 =>
      some (v1, q1))
    else (
      f_X11_places_b10 x0 M))
set_option maxHeartbeats 4000000 in
set_option maxRecDepth 100000 in
theorem s_X11_places {g : zG} (hC : zC g) {x0 : Nat} {x1 : Int32} {M : zMe} {q : (Int32 × zMe)} (h : f_X11_places x0 x1 M = some q) : zMet g yX11_places mX11_places [.ref x0, .int x1] M (some (.int q.1)) q.2 := by
  refine z_entry (by decide +kernel) rfl rfl (Nat.le_of_ble_eq_true rfl) ?_
  refine zeqL (L2 := [.ref x0, .int x1, .retAddr 0]) rfl ?_
  unfold f_X11_places at h
  refine z_iload_n (x := x1) rfl dX11_places_0 ?_
  refine z_iconst 2 (by decide) dX11_places_1 ?_
  refine z_icmp_lt (tgt := 10) dX11_places_2 (by decide) (fun c1 => ?_) (fun c1 => ?_)
  · have h := zift h c1
    refine zweak [true, false, false] ?_
    exact s_X11_places_b10 hC _ _ _ h
  · have h := zife h c1
    refine z_iload_n (x := x1) rfl dX11_places_5 ?_
    refine z_iconst 5 (by decide) dX11_places_6 ?_
    refine z_icmp_le (tgt := 17) dX11_places_7 (by decide) (fun c2 => ?_) (fun c2 => ?_)
    · have h := zift h c2
      refine z_aload_n (x := x0) rfl dX11_places_17 ?_
      obtain ⟨a1, h1, h⟩ := zbind h
      refine z_gN hC fs_X11_12 h1 dX11_places_18 ?_
      obtain ⟨v1, h2, h⟩ := zbind h
      refine z_gI hC fs_X11_76 h2 dX11_places_21 ?_
      refine z_istore_n dX11_places_24 (by decide) ?_
      refine zeqL (L2 := [.ref x0, .int x1, .int v1]) rfl ?_
      refine z_aload_n (x := x0) rfl dX11_places_25 ?_
      obtain ⟨a2, h3, h⟩ := zbind h
      refine z_gN hC fs_X11_12 h3 dX11_places_26 ?_
      refine z_iload_n (x := x1) rfl dX11_places_29 ?_
      obtain ⟨_, hb, h⟩ := zbind h
      obtain ⟨fs, hb⟩ := zob_some hb
      obtain ⟨q1, h4, h⟩ := zbind h
      refine z_callV (av := [.int x1]) (rest := []) hC zcl_2 hb (s_X2_settle hC h4) lk_X11_79 im_X2_settle se_X2_settle cd_X2_settle ⟨by decide, by decide, (Nat.le_of_ble_eq_true rfl)⟩ dX11_places_30 ?_
      clear hb fs
      refine zeqS (stk2 := []) rfl ?_
      refine z_iload_n (x := v1) rfl dX11_places_33 ?_
      obtain rfl := Option.some.inj h
      exact z_iret ⟨.int, rfl, rfl⟩ dX11_places_34
    · have h := zife h c2
      refine zweak [true, false, false] ?_
      exact s_X11_places_b10 hC _ _ _ h
def f_X11_refusedFull (x0 : Nat) (M : zMe) : Option (Int32 × zMe) :=
  (zgI M x0 [11] 8).bind fun v1 =>
  (zpI M x0 [11] 8 (v1 + 1)).bind fun M1 =>
  some ((-4), M1)
set_option maxHeartbeats 4000000 in
set_option maxRecDepth 100000 in
theorem s_X11_refusedFull {g : zG} (hC : zC g) {x0 : Nat} {M : zMe} {q : (Int32 × zMe)} (h : f_X11_refusedFull x0 M = some q) : zMet g yX11_refusedFull mX11_refusedFull [.ref x0] M (some (.int q.1)) q.2 := by
  refine z_entry (by decide +kernel) rfl rfl (Nat.le_of_ble_eq_true rfl) ?_
  refine zeqL (L2 := [.ref x0]) rfl ?_
  unfold f_X11_refusedFull at h
  refine z_aload_n (x := x0) rfl dX11_refusedFull_0 ?_
  refine z_dup rfl dX11_refusedFull_1 ?_
  obtain ⟨v1, h1, h⟩ := zbind h
  refine z_gI hC fs_X11_41 h1 dX11_refusedFull_2 ?_
  refine z_iconst 1 (by decide) dX11_refusedFull_5 ?_
  refine z_iadd dX11_refusedFull_6 ?_
  obtain ⟨M1, h2, h⟩ := zbind h
  refine z_pI hC fp_X11_41 h2 dX11_refusedFull_7 ?_
  refine z_bipush (-4) (by decide) dX11_refusedFull_10 ?_
  obtain rfl := Option.some.inj h
  exact z_iret ⟨.int, rfl, rfl⟩ dX11_refusedFull_12
def f_X11_dog_b29  (x0 : Nat) (M : zMe) : Option (Int32 × zMe) :=
  (zob M x0 11).bind fun _ =>
  (f_X11_refusedBad x0 (-2) M).bind fun q1 =>
  some (q1.1, q1.2)
set_option maxHeartbeats 4000000 in
set_option maxRecDepth 100000 in
theorem s_X11_dog_b29 {g : zG} (hC : zC g)  (x0 : Nat) (M : zMe) (q : (Int32 × zMe)) (h : f_X11_dog_b29  x0 M = some q) : zW g mX11_dog 29 [.ref x0, .retAddr 0, .retAddr 0, .retAddr 0] [] M (some (.int q.1)) q.2 := by
  unfold f_X11_dog_b29 at h
  refine z_aload_n (x := x0) rfl dX11_dog_29 ?_
  refine z_bipush (-2) (by decide) dX11_dog_30 ?_
  obtain ⟨_, hb, h⟩ := zbind h
  obtain ⟨fs, hb⟩ := zob_some hb
  obtain ⟨q1, h1, h⟩ := zbind h
  refine z_callV (av := [.int (-2)]) (rest := []) hC zcl_11 hb (s_X11_refusedBad hC h1) lk_X11_72 im_X11_refusedBad se_X11_refusedBad cd_X11_refusedBad ⟨by decide, by decide, (Nat.le_of_ble_eq_true rfl)⟩ dX11_dog_32 ?_
  clear hb fs
  refine zeqS (stk2 := [.int q1.1]) rfl ?_
  obtain rfl := Option.some.inj h
  exact z_iret ⟨.int, rfl, rfl⟩ dX11_dog_35
def f_X11_dog (x0 : Nat) (x1 : Int32) (x2 : Int32) (x3 : Int32) (M : zMe) : Option (Int32 × zMe) :=
  (f_X11_isRowsKind x1 M).bind fun q1 =>
  if q1.1 = 0 then (
    f_X11_dog_b29 x0 q1.2)
  else (
    (zgN q1.2 x0 [11] 0).bind fun a1 =>
    (zob q1.2 a1 2).bind fun _ =>
    (f_X2_isRow a1 x2 q1.2).bind fun q2 =>
    if q2.1 = 0 then (
      f_X11_dog_b29 x0 q2.2)
    else (
      (zgN q2.2 x0 [11] 0).bind fun a2 =>
      (zob q2.2 a2 2).bind fun _ =>
      (f_X2_isRow a2 x3 q2.2).bind fun q3 =>
      if q3.1 = 0 then (
        f_X11_dog_b29 x0 q3.2)
      else (
        (zgN q3.2 x0 [11] 0).bind fun a3 =>
        (zob q3.2 a3 2).bind fun _ =>
        (f_X2_isFull a3 q3.2).bind fun q4 =>
        if q4.1 = 0 then (
          (zgN q4.2 x0 [11] 0).bind fun a4 =>
          (f_X11_bred x1 x2 x3 q4.2).bind fun q5 =>
          zcase q5.1 none fun a5 =>
          (zob q5.2 a4 2).bind fun _ =>
          (f_X2_addDog a4 a5 q5.2).bind fun q6 =>
          some (q6.1, q6.2))
        else (
          (zob q4.2 x0 11).bind fun _ =>
          (f_X11_refusedFull x0 q4.2).bind fun q7 =>
          some (q7.1, q7.2)))))
set_option maxHeartbeats 4000000 in
set_option maxRecDepth 100000 in
theorem s_X11_dog {g : zG} (hC : zC g) {x0 : Nat} {x1 : Int32} {x2 : Int32} {x3 : Int32} {M : zMe} {q : (Int32 × zMe)} (h : f_X11_dog x0 x1 x2 x3 M = some q) : zMet g yX11_dog mX11_dog [.ref x0, .int x1, .int x2, .int x3] M (some (.int q.1)) q.2 := by
  refine z_entry (by decide +kernel) rfl rfl (Nat.le_of_ble_eq_true rfl) ?_
  refine zeqL (L2 := [.ref x0, .int x1, .int x2, .int x3]) rfl ?_
  unfold f_X11_dog at h
  refine z_iload_n (x := x1) rfl dX11_dog_0 ?_
  obtain ⟨q1, h1, h⟩ := zbind h
  refine z_callS (av := [.int x1]) (rest := []) hC (s_X11_isRowsKind hC h1) lk_X11_83 st_X11_isRowsKind cd_X11_isRowsKind ⟨by decide, by decide, (Nat.le_of_ble_eq_true rfl)⟩ dX11_dog_1 ?_
  refine zeqS (stk2 := [.int q1.1]) rfl ?_
  refine z_if_eq (tgt := 29) dX11_dog_4 (by decide) (fun c1 => ?_) (fun c1 => ?_)
  · have h := zift h c1
    refine zweak [true, false, false, false] ?_
    exact s_X11_dog_b29 hC _ _ _ h
  · have h := zife h c1
    refine z_aload_n (x := x0) rfl dX11_dog_7 ?_
    obtain ⟨a1, h2, h⟩ := zbind h
    refine z_gN hC fs_X11_12 h2 dX11_dog_8 ?_
    refine z_iload_n (x := x2) rfl dX11_dog_11 ?_
    obtain ⟨_, hb, h⟩ := zbind h
    obtain ⟨fs, hb⟩ := zob_some hb
    obtain ⟨q2, h3, h⟩ := zbind h
    refine z_callV (av := [.int x2]) (rest := []) hC zcl_2 hb (s_X2_isRow hC h3) lk_X11_87 im_X2_isRow se_X2_isRow cd_X2_isRow ⟨by decide, by decide, (Nat.le_of_ble_eq_true rfl)⟩ dX11_dog_12 ?_
    clear hb fs
    refine zeqS (stk2 := [.int q2.1]) rfl ?_
    refine z_if_eq (tgt := 29) dX11_dog_15 (by decide) (fun c2 => ?_) (fun c2 => ?_)
    · have h := zift h c2
      refine zweak [true, false, false, false] ?_
      exact s_X11_dog_b29 hC _ _ _ h
    · have h := zife h c2
      refine z_aload_n (x := x0) rfl dX11_dog_18 ?_
      obtain ⟨a2, h4, h⟩ := zbind h
      refine z_gN hC fs_X11_12 h4 dX11_dog_19 ?_
      refine z_iload_n (x := x3) rfl dX11_dog_22 ?_
      obtain ⟨_, hb, h⟩ := zbind h
      obtain ⟨fs, hb⟩ := zob_some hb
      obtain ⟨q3, h5, h⟩ := zbind h
      refine z_callV (av := [.int x3]) (rest := []) hC zcl_2 hb (s_X2_isRow hC h5) lk_X11_87 im_X2_isRow se_X2_isRow cd_X2_isRow ⟨by decide, by decide, (Nat.le_of_ble_eq_true rfl)⟩ dX11_dog_23 ?_
      clear hb fs
      refine zeqS (stk2 := [.int q3.1]) rfl ?_
      refine z_if_ne (tgt := 36) dX11_dog_26 (by decide) (fun c3 => ?_) (fun c3 => ?_)
      · have h := zife h c3
        refine z_aload_n (x := x0) rfl dX11_dog_36 ?_
        obtain ⟨a3, h6, h⟩ := zbind h
        refine z_gN hC fs_X11_12 h6 dX11_dog_37 ?_
        obtain ⟨_, hb, h⟩ := zbind h
        obtain ⟨fs, hb⟩ := zob_some hb
        obtain ⟨q4, h7, h⟩ := zbind h
        refine z_callV (av := []) (rest := []) hC zcl_2 hb (s_X2_isFull hC h7) lk_X11_90 im_X2_isFull se_X2_isFull cd_X2_isFull ⟨by decide, by decide, (Nat.le_of_ble_eq_true rfl)⟩ dX11_dog_40 ?_
        clear hb fs
        refine zeqS (stk2 := [.int q4.1]) rfl ?_
        refine z_if_eq (tgt := 51) dX11_dog_43 (by decide) (fun c4 => ?_) (fun c4 => ?_)
        · have h := zift h c4
          refine z_aload_n (x := x0) rfl dX11_dog_51 ?_
          obtain ⟨a4, h8, h⟩ := zbind h
          refine z_gN hC fs_X11_12 h8 dX11_dog_52 ?_
          refine z_iload_n (x := x1) rfl dX11_dog_55 ?_
          refine z_iload_n (x := x2) rfl dX11_dog_56 ?_
          refine z_iload_n (x := x3) rfl dX11_dog_57 ?_
          obtain ⟨q5, h9, h⟩ := zbind h
          refine z_callS (av := [.int x1, .int x2, .int x3]) (rest := [.ref a4]) hC (s_X11_bred hC h9) lk_X11_98 st_X11_bred cd_X11_bred ⟨by decide, by decide, (Nat.le_of_ble_eq_true rfl)⟩ dX11_dog_58 ?_
          refine zeqS (stk2 := [va_rf q5.1, .ref a4]) rfl ?_
          obtain ⟨a5, hx, h⟩ := zopt h
          rw [hx]
          clear hx
          obtain ⟨_, hb, h⟩ := zbind h
          obtain ⟨fs, hb⟩ := zob_some hb
          obtain ⟨q6, h10, h⟩ := zbind h
          refine z_callV (av := [.ref a5]) (rest := []) hC zcl_2 hb (s_X2_addDog hC h10) lk_X11_102 im_X2_addDog se_X2_addDog cd_X2_addDog ⟨by decide, by decide, (Nat.le_of_ble_eq_true rfl)⟩ dX11_dog_61 ?_
          clear hb fs
          refine zeqS (stk2 := [.int q6.1]) rfl ?_
          obtain rfl := Option.some.inj h
          exact z_iret ⟨.int, rfl, rfl⟩ dX11_dog_64
        · have h := zife h c4
          refine z_aload_n (x := x0) rfl dX11_dog_46 ?_
          obtain ⟨_, hb, h⟩ := zbind h
          obtain ⟨fs, hb⟩ := zob_some hb
          obtain ⟨q7, h11, h⟩ := zbind h
          refine z_callV (av := []) (rest := []) hC zcl_11 hb (s_X11_refusedFull hC h11) lk_X11_94 im_X11_refusedFull se_X11_refusedFull cd_X11_refusedFull ⟨by decide, by decide, (Nat.le_of_ble_eq_true rfl)⟩ dX11_dog_47 ?_
          clear hb fs
          refine zeqS (stk2 := [.int q7.1]) rfl ?_
          obtain rfl := Option.some.inj h
          exact z_iret ⟨.int, rfl, rfl⟩ dX11_dog_50
      · have h := zift h c3
        refine zweak [true, false, false, false] ?_
        exact s_X11_dog_b29 hC _ _ _ h
def f_X11_isLearningKind_b15  (y0 : Int32) (M : zMe) : Option (Int32 × zMe) :=
  if y0 = 0 ∨ y0 = 1 then some (y0, M) else none
set_option maxHeartbeats 4000000 in
set_option maxRecDepth 100000 in
theorem s_X11_isLearningKind_b15 {g : zG} (hC : zC g)  (y0 : Int32) (M : zMe) (q : (Int32 × zMe)) (h : f_X11_isLearningKind_b15  y0 M = some q) : zW g mX11_isLearningKind 15 [.retAddr 0] [.int y0] M (some (.int q.1)) q.2 := by
  unfold f_X11_isLearningKind_b15 at h
  obtain ⟨hz, h⟩ := zifs h
  obtain rfl := Option.some.inj h
  exact z_iret ⟨.boolean, rfl, zbo hz⟩ dX11_isLearningKind_15
def f_X11_isLearningKind_b10   (M : zMe) : Option (Int32 × zMe) :=
  f_X11_isLearningKind_b15 1 M
set_option maxHeartbeats 4000000 in
set_option maxRecDepth 100000 in
theorem s_X11_isLearningKind_b10 {g : zG} (hC : zC g)   (M : zMe) (q : (Int32 × zMe)) (h : f_X11_isLearningKind_b10   M = some q) : zW g mX11_isLearningKind 10 [.retAddr 0] [] M (some (.int q.1)) q.2 := by
  unfold f_X11_isLearningKind_b10 at h
  refine z_iconst 1 (by decide) dX11_isLearningKind_10 ?_
  refine z_goto (tgt := 15) dX11_isLearningKind_11 (by decide) ?_
  exact s_X11_isLearningKind_b15 hC _ _ _ h
def f_X11_isLearningKind (x0 : Int32) (M : zMe) : Option (Int32 × zMe) :=
  if x0 = 2 then (
    f_X11_isLearningKind_b10 M)
  else (
    if x0 = 3 then (
      f_X11_isLearningKind_b10 M)
    else (
      f_X11_isLearningKind_b15 0 M))
set_option maxHeartbeats 4000000 in
set_option maxRecDepth 100000 in
theorem s_X11_isLearningKind {g : zG} (hC : zC g) {x0 : Int32} {M : zMe} {q : (Int32 × zMe)} (h : f_X11_isLearningKind x0 M = some q) : zMet g yX11_isLearningKind mX11_isLearningKind [.int x0] M (some (.int q.1)) q.2 := by
  refine z_entry (by decide +kernel) rfl rfl (Nat.le_of_ble_eq_true rfl) ?_
  refine zeqL (L2 := [.int x0]) rfl ?_
  unfold f_X11_isLearningKind at h
  refine z_iload_n (x := x0) rfl dX11_isLearningKind_0 ?_
  refine z_iconst 2 (by decide) dX11_isLearningKind_1 ?_
  refine z_icmp_eq (tgt := 10) dX11_isLearningKind_2 (by decide) (fun c1 => ?_) (fun c1 => ?_)
  · have h := zift h c1
    refine zweak [false] ?_
    exact s_X11_isLearningKind_b10 hC _ _ h
  · have h := zife h c1
    refine z_iload_n (x := x0) rfl dX11_isLearningKind_5 ?_
    refine z_iconst 3 (by decide) dX11_isLearningKind_6 ?_
    refine z_icmp_ne (tgt := 14) dX11_isLearningKind_7 (by decide) (fun c2 => ?_) (fun c2 => ?_)
    · have h := zife h c2
      refine z_iconst 0 (by decide) dX11_isLearningKind_14 ?_
      refine zweak [false] ?_
      exact s_X11_isLearningKind_b15 hC _ _ _ h
    · have h := zift h c2
      refine zweak [false] ?_
      exact s_X11_isLearningKind_b10 hC _ _ h
def f_X11_pup_b72  (x0 : Nat) (M : zMe) : Option (Int32 × zMe) :=
  (zob M x0 11).bind fun _ =>
  (f_X11_refusedBad x0 (-2) M).bind fun q1 =>
  some (q1.1, q1.2)
set_option maxHeartbeats 4000000 in
set_option maxRecDepth 100000 in
theorem s_X11_pup_b72 {g : zG} (hC : zC g)  (x0 : Nat) (M : zMe) (q : (Int32 × zMe)) (h : f_X11_pup_b72  x0 M = some q) : zW g mX11_pup 72 [.ref x0, .retAddr 0, .retAddr 0, .retAddr 0, .retAddr 0, .retAddr 0, .retAddr 0] [] M (some (.int q.1)) q.2 := by
  unfold f_X11_pup_b72 at h
  refine z_aload_n (x := x0) rfl dX11_pup_72 ?_
  refine z_bipush (-2) (by decide) dX11_pup_73 ?_
  obtain ⟨_, hb, h⟩ := zbind h
  obtain ⟨fs, hb⟩ := zob_some hb
  obtain ⟨q1, h1, h⟩ := zbind h
  refine z_callV (av := [.int (-2)]) (rest := []) hC zcl_11 hb (s_X11_refusedBad hC h1) lk_X11_72 im_X11_refusedBad se_X11_refusedBad cd_X11_refusedBad ⟨by decide, by decide, (Nat.le_of_ble_eq_true rfl)⟩ dX11_pup_75 ?_
  clear hb fs
  refine zeqS (stk2 := [.int q1.1]) rfl ?_
  obtain rfl := Option.some.inj h
  exact z_iret ⟨.int, rfl, rfl⟩ dX11_pup_78
def f_X11_pup_b19  (x0 : Nat) (M : zMe) : Option (Int32 × zMe) :=
  (zob M x0 11).bind fun _ =>
  (f_X11_refusedBad x0 (-2) M).bind fun q1 =>
  some (q1.1, q1.2)
set_option maxHeartbeats 4000000 in
set_option maxRecDepth 100000 in
theorem s_X11_pup_b19 {g : zG} (hC : zC g)  (x0 : Nat) (M : zMe) (q : (Int32 × zMe)) (h : f_X11_pup_b19  x0 M = some q) : zW g mX11_pup 19 [.ref x0, .retAddr 0, .retAddr 0, .retAddr 0, .retAddr 0, .retAddr 0, .retAddr 0] [] M (some (.int q.1)) q.2 := by
  unfold f_X11_pup_b19 at h
  refine z_aload_n (x := x0) rfl dX11_pup_19 ?_
  refine z_bipush (-2) (by decide) dX11_pup_20 ?_
  obtain ⟨_, hb, h⟩ := zbind h
  obtain ⟨fs, hb⟩ := zob_some hb
  obtain ⟨q1, h1, h⟩ := zbind h
  refine z_callV (av := [.int (-2)]) (rest := []) hC zcl_11 hb (s_X11_refusedBad hC h1) lk_X11_72 im_X11_refusedBad se_X11_refusedBad cd_X11_refusedBad ⟨by decide, by decide, (Nat.le_of_ble_eq_true rfl)⟩ dX11_pup_22 ?_
  clear hb fs
  refine zeqS (stk2 := [.int q1.1]) rfl ?_
  obtain rfl := Option.some.inj h
  exact z_iret ⟨.int, rfl, rfl⟩ dX11_pup_25
def f_X11_pup (x0 : Nat) (x1 : Int32) (x2 : Int32) (x3 : Int32) (x4 : Int32) (x5 : Int32) (x6 : Int32) (M : zMe) : Option (Int32 × zMe) :=
  (f_X11_isLearningKind x1 M).bind fun q1 =>
  if q1.1 = 0 then (
    f_X11_pup_b19 x0 q1.2)
  else (
    if x6 < 1 then (
      f_X11_pup_b19 x0 q1.2)
    else (
      if x6 ≤ 3 then (
        (zgN q1.2 x0 [11] 0).bind fun a1 =>
        (zob q1.2 a1 2).bind fun _ =>
        (f_X2_isRow a1 x2 q1.2).bind fun q2 =>
        if q2.1 = 0 then (
          f_X11_pup_b72 x0 q2.2)
        else (
          (zgN q2.2 x0 [11] 0).bind fun a2 =>
          (zob q2.2 a2 2).bind fun _ =>
          (f_X2_isRow a2 x3 q2.2).bind fun q3 =>
          if q3.1 = 0 then (
            f_X11_pup_b72 x0 q3.2)
          else (
            (zgN q3.2 x0 [11] 0).bind fun a3 =>
            (zob q3.2 a3 2).bind fun _ =>
            (f_X2_isRow a3 x4 q3.2).bind fun q4 =>
            if q4.1 = 0 then (
              f_X11_pup_b72 x0 q4.2)
            else (
              (zgN q4.2 x0 [11] 0).bind fun a4 =>
              (zob q4.2 a4 2).bind fun _ =>
              (f_X2_isRow a4 x5 q4.2).bind fun q5 =>
              if q5.1 = 0 then (
                f_X11_pup_b72 x0 q5.2)
              else (
                (zgN q5.2 x0 [11] 0).bind fun a5 =>
                (zob q5.2 a5 2).bind fun _ =>
                (f_X2_isFull a5 q5.2).bind fun q6 =>
                if q6.1 = 0 then (
                  (zgN q6.2 x0 [11] 0).bind fun a6 =>
                  (f_X11_bredLearning x1 x2 x3 x4 x5 x6 q6.2).bind fun q7 =>
                  zcase q7.1 none fun a7 =>
                  (zob q7.2 a6 2).bind fun _ =>
                  (f_X2_addDog a6 a7 q7.2).bind fun q8 =>
                  some (q8.1, q8.2))
                else (
                  (zob q6.2 x0 11).bind fun _ =>
                  (f_X11_refusedFull x0 q6.2).bind fun q9 =>
                  some (q9.1, q9.2)))))))
      else (
        f_X11_pup_b19 x0 q1.2)))
set_option maxHeartbeats 4000000 in
set_option maxRecDepth 100000 in
theorem s_X11_pup {g : zG} (hC : zC g) {x0 : Nat} {x1 : Int32} {x2 : Int32} {x3 : Int32} {x4 : Int32} {x5 : Int32} {x6 : Int32} {M : zMe} {q : (Int32 × zMe)} (h : f_X11_pup x0 x1 x2 x3 x4 x5 x6 M = some q) : zMet g yX11_pup mX11_pup [.ref x0, .int x1, .int x2, .int x3, .int x4, .int x5, .int x6] M (some (.int q.1)) q.2 := by
  refine z_entry (by decide +kernel) rfl rfl (Nat.le_of_ble_eq_true rfl) ?_
  refine zeqL (L2 := [.ref x0, .int x1, .int x2, .int x3, .int x4, .int x5, .int x6]) rfl ?_
  unfold f_X11_pup at h
  refine z_iload_n (x := x1) rfl dX11_pup_0 ?_
  obtain ⟨q1, h1, h⟩ := zbind h
  refine z_callS (av := [.int x1]) (rest := []) hC (s_X11_isLearningKind hC h1) lk_X11_106 st_X11_isLearningKind cd_X11_isLearningKind ⟨by decide, by decide, (Nat.le_of_ble_eq_true rfl)⟩ dX11_pup_1 ?_
  refine zeqS (stk2 := [.int q1.1]) rfl ?_
  refine z_if_eq (tgt := 19) dX11_pup_4 (by decide) (fun c1 => ?_) (fun c1 => ?_)
  · have h := zift h c1
    refine zweak [true, false, false, false, false, false, false] ?_
    exact s_X11_pup_b19 hC _ _ _ h
  · have h := zife h c1
    refine z_iload (x := x6) rfl dX11_pup_7 ?_
    refine z_iconst 1 (by decide) dX11_pup_9 ?_
    refine z_icmp_lt (tgt := 19) dX11_pup_10 (by decide) (fun c2 => ?_) (fun c2 => ?_)
    · have h := zift h c2
      refine zweak [true, false, false, false, false, false, false] ?_
      exact s_X11_pup_b19 hC _ _ _ h
    · have h := zife h c2
      refine z_iload (x := x6) rfl dX11_pup_13 ?_
      refine z_iconst 3 (by decide) dX11_pup_15 ?_
      refine z_icmp_le (tgt := 26) dX11_pup_16 (by decide) (fun c3 => ?_) (fun c3 => ?_)
      · have h := zift h c3
        refine z_aload_n (x := x0) rfl dX11_pup_26 ?_
        obtain ⟨a1, h2, h⟩ := zbind h
        refine z_gN hC fs_X11_12 h2 dX11_pup_27 ?_
        refine z_iload_n (x := x2) rfl dX11_pup_30 ?_
        obtain ⟨_, hb, h⟩ := zbind h
        obtain ⟨fs, hb⟩ := zob_some hb
        obtain ⟨q2, h3, h⟩ := zbind h
        refine z_callV (av := [.int x2]) (rest := []) hC zcl_2 hb (s_X2_isRow hC h3) lk_X11_87 im_X2_isRow se_X2_isRow cd_X2_isRow ⟨by decide, by decide, (Nat.le_of_ble_eq_true rfl)⟩ dX11_pup_31 ?_
        clear hb fs
        refine zeqS (stk2 := [.int q2.1]) rfl ?_
        refine z_if_eq (tgt := 72) dX11_pup_34 (by decide) (fun c4 => ?_) (fun c4 => ?_)
        · have h := zift h c4
          refine zweak [true, false, false, false, false, false, false] ?_
          exact s_X11_pup_b72 hC _ _ _ h
        · have h := zife h c4
          refine z_aload_n (x := x0) rfl dX11_pup_37 ?_
          obtain ⟨a2, h4, h⟩ := zbind h
          refine z_gN hC fs_X11_12 h4 dX11_pup_38 ?_
          refine z_iload_n (x := x3) rfl dX11_pup_41 ?_
          obtain ⟨_, hb, h⟩ := zbind h
          obtain ⟨fs, hb⟩ := zob_some hb
          obtain ⟨q3, h5, h⟩ := zbind h
          refine z_callV (av := [.int x3]) (rest := []) hC zcl_2 hb (s_X2_isRow hC h5) lk_X11_87 im_X2_isRow se_X2_isRow cd_X2_isRow ⟨by decide, by decide, (Nat.le_of_ble_eq_true rfl)⟩ dX11_pup_42 ?_
          clear hb fs
          refine zeqS (stk2 := [.int q3.1]) rfl ?_
          refine z_if_eq (tgt := 72) dX11_pup_45 (by decide) (fun c5 => ?_) (fun c5 => ?_)
          · have h := zift h c5
            refine zweak [true, false, false, false, false, false, false] ?_
            exact s_X11_pup_b72 hC _ _ _ h
          · have h := zife h c5
            refine z_aload_n (x := x0) rfl dX11_pup_48 ?_
            obtain ⟨a3, h6, h⟩ := zbind h
            refine z_gN hC fs_X11_12 h6 dX11_pup_49 ?_
            refine z_iload (x := x4) rfl dX11_pup_52 ?_
            obtain ⟨_, hb, h⟩ := zbind h
            obtain ⟨fs, hb⟩ := zob_some hb
            obtain ⟨q4, h7, h⟩ := zbind h
            refine z_callV (av := [.int x4]) (rest := []) hC zcl_2 hb (s_X2_isRow hC h7) lk_X11_87 im_X2_isRow se_X2_isRow cd_X2_isRow ⟨by decide, by decide, (Nat.le_of_ble_eq_true rfl)⟩ dX11_pup_54 ?_
            clear hb fs
            refine zeqS (stk2 := [.int q4.1]) rfl ?_
            refine z_if_eq (tgt := 72) dX11_pup_57 (by decide) (fun c6 => ?_) (fun c6 => ?_)
            · have h := zift h c6
              refine zweak [true, false, false, false, false, false, false] ?_
              exact s_X11_pup_b72 hC _ _ _ h
            · have h := zife h c6
              refine z_aload_n (x := x0) rfl dX11_pup_60 ?_
              obtain ⟨a4, h8, h⟩ := zbind h
              refine z_gN hC fs_X11_12 h8 dX11_pup_61 ?_
              refine z_iload (x := x5) rfl dX11_pup_64 ?_
              obtain ⟨_, hb, h⟩ := zbind h
              obtain ⟨fs, hb⟩ := zob_some hb
              obtain ⟨q5, h9, h⟩ := zbind h
              refine z_callV (av := [.int x5]) (rest := []) hC zcl_2 hb (s_X2_isRow hC h9) lk_X11_87 im_X2_isRow se_X2_isRow cd_X2_isRow ⟨by decide, by decide, (Nat.le_of_ble_eq_true rfl)⟩ dX11_pup_66 ?_
              clear hb fs
              refine zeqS (stk2 := [.int q5.1]) rfl ?_
              refine z_if_ne (tgt := 79) dX11_pup_69 (by decide) (fun c7 => ?_) (fun c7 => ?_)
              · have h := zife h c7
                refine z_aload_n (x := x0) rfl dX11_pup_79 ?_
                obtain ⟨a5, h10, h⟩ := zbind h
                refine z_gN hC fs_X11_12 h10 dX11_pup_80 ?_
                obtain ⟨_, hb, h⟩ := zbind h
                obtain ⟨fs, hb⟩ := zob_some hb
                obtain ⟨q6, h11, h⟩ := zbind h
                refine z_callV (av := []) (rest := []) hC zcl_2 hb (s_X2_isFull hC h11) lk_X11_90 im_X2_isFull se_X2_isFull cd_X2_isFull ⟨by decide, by decide, (Nat.le_of_ble_eq_true rfl)⟩ dX11_pup_83 ?_
                clear hb fs
                refine zeqS (stk2 := [.int q6.1]) rfl ?_
                refine z_if_eq (tgt := 94) dX11_pup_86 (by decide) (fun c8 => ?_) (fun c8 => ?_)
                · have h := zift h c8
                  refine z_aload_n (x := x0) rfl dX11_pup_94 ?_
                  obtain ⟨a6, h12, h⟩ := zbind h
                  refine z_gN hC fs_X11_12 h12 dX11_pup_95 ?_
                  refine z_iload_n (x := x1) rfl dX11_pup_98 ?_
                  refine z_iload_n (x := x2) rfl dX11_pup_99 ?_
                  refine z_iload_n (x := x3) rfl dX11_pup_100 ?_
                  refine z_iload (x := x4) rfl dX11_pup_101 ?_
                  refine z_iload (x := x5) rfl dX11_pup_103 ?_
                  refine z_iload (x := x6) rfl dX11_pup_105 ?_
                  obtain ⟨q7, h13, h⟩ := zbind h
                  refine z_callS (av := [.int x1, .int x2, .int x3, .int x4, .int x5, .int x6]) (rest := [.ref a6]) hC (s_X11_bredLearning hC h13) lk_X11_109 st_X11_bredLearning cd_X11_bredLearning ⟨by decide, by decide, (Nat.le_of_ble_eq_true rfl)⟩ dX11_pup_107 ?_
                  refine zeqS (stk2 := [va_rf q7.1, .ref a6]) rfl ?_
                  obtain ⟨a7, hx, h⟩ := zopt h
                  rw [hx]
                  clear hx
                  obtain ⟨_, hb, h⟩ := zbind h
                  obtain ⟨fs, hb⟩ := zob_some hb
                  obtain ⟨q8, h14, h⟩ := zbind h
                  refine z_callV (av := [.ref a7]) (rest := []) hC zcl_2 hb (s_X2_addDog hC h14) lk_X11_102 im_X2_addDog se_X2_addDog cd_X2_addDog ⟨by decide, by decide, (Nat.le_of_ble_eq_true rfl)⟩ dX11_pup_110 ?_
                  clear hb fs
                  refine zeqS (stk2 := [.int q8.1]) rfl ?_
                  obtain rfl := Option.some.inj h
                  exact z_iret ⟨.int, rfl, rfl⟩ dX11_pup_113
                · have h := zife h c8
                  refine z_aload_n (x := x0) rfl dX11_pup_89 ?_
                  obtain ⟨_, hb, h⟩ := zbind h
                  obtain ⟨fs, hb⟩ := zob_some hb
                  obtain ⟨q9, h15, h⟩ := zbind h
                  refine z_callV (av := []) (rest := []) hC zcl_11 hb (s_X11_refusedFull hC h15) lk_X11_94 im_X11_refusedFull se_X11_refusedFull cd_X11_refusedFull ⟨by decide, by decide, (Nat.le_of_ble_eq_true rfl)⟩ dX11_pup_90 ?_
                  clear hb fs
                  refine zeqS (stk2 := [.int q9.1]) rfl ?_
                  obtain rfl := Option.some.inj h
                  exact z_iret ⟨.int, rfl, rfl⟩ dX11_pup_93
              · have h := zift h c7
                refine zweak [true, false, false, false, false, false, false] ?_
                exact s_X11_pup_b72 hC _ _ _ h
      · have h := zife h c3
        refine zweak [true, false, false, false, false, false, false] ?_
        exact s_X11_pup_b19 hC _ _ _ h
def f_X11_refusedNo (x0 : Nat) (M : zMe) : Option (Int32 × zMe) :=
  (zgI M x0 [11] 7).bind fun v1 =>
  (zpI M x0 [11] 7 (v1 + 1)).bind fun M1 =>
  some ((-3), M1)
set_option maxHeartbeats 4000000 in
set_option maxRecDepth 100000 in
theorem s_X11_refusedNo {g : zG} (hC : zC g) {x0 : Nat} {M : zMe} {q : (Int32 × zMe)} (h : f_X11_refusedNo x0 M = some q) : zMet g yX11_refusedNo mX11_refusedNo [.ref x0] M (some (.int q.1)) q.2 := by
  refine z_entry (by decide +kernel) rfl rfl (Nat.le_of_ble_eq_true rfl) ?_
  refine zeqL (L2 := [.ref x0]) rfl ?_
  unfold f_X11_refusedNo at h
  refine z_aload_n (x := x0) rfl dX11_refusedNo_0 ?_
  refine z_dup rfl dX11_refusedNo_1 ?_
  obtain ⟨v1, h1, h⟩ := zbind h
  refine z_gI hC fs_X11_38 h1 dX11_refusedNo_2 ?_
  refine z_iconst 1 (by decide) dX11_refusedNo_5 ?_
  refine z_iadd dX11_refusedNo_6 ?_
  obtain ⟨M1, h2, h⟩ := zbind h
  refine z_pI hC fp_X11_38 h2 dX11_refusedNo_7 ?_
  refine z_bipush (-3) (by decide) dX11_refusedNo_10 ?_
  obtain rfl := Option.some.inj h
  exact z_iret ⟨.int, rfl, rfl⟩ dX11_refusedNo_12
def f_X11_shut (x0 : Nat) (x1 : Int32) (x2 : Int32) (M : zMe) : Option (Int32 × zMe) :=
  (zgN M x0 [11] 0).bind fun a1 =>
  (zob M a1 2).bind fun _ =>
  (f_X2_isPlace a1 x1 M).bind fun q1 =>
  if q1.1 = 0 then (
    (zob q1.2 x0 11).bind fun _ =>
    (f_X11_refusedBad x0 (-2) q1.2).bind fun q2 =>
    some (q2.1, q2.2))
  else (
    (zgN q1.2 x0 [11] 0).bind fun a2 =>
    (zgI q1.2 a2 [2] 1).bind fun v1 =>
    (f_X11_holds v1 x1 q1.2).bind fun q3 =>
    if q3.1 = x2 then (
      (zob q3.2 x0 11).bind fun _ =>
      (f_X11_refusedNo x0 q3.2).bind fun q4 =>
      some (q4.1, q4.2))
    else (
      (zgN q3.2 x0 [11] 0).bind fun a3 =>
      (zgI q3.2 a3 [2] 1).bind fun v2 =>
      (zpI q3.2 a3 [2] 1 (v2 ^^^ ((1 : Int32) <<< (x1 &&& 31)))).bind fun M1 =>
      some (1, M1)))
set_option maxHeartbeats 4000000 in
set_option maxRecDepth 100000 in
theorem s_X11_shut {g : zG} (hC : zC g) {x0 : Nat} {x1 : Int32} {x2 : Int32} {M : zMe} {q : (Int32 × zMe)} (h : f_X11_shut x0 x1 x2 M = some q) : zMet g yX11_shut mX11_shut [.ref x0, .int x1, .int x2] M (some (.int q.1)) q.2 := by
  refine z_entry (by decide +kernel) rfl rfl (Nat.le_of_ble_eq_true rfl) ?_
  refine zeqL (L2 := [.ref x0, .int x1, .int x2]) rfl ?_
  unfold f_X11_shut at h
  refine z_aload_n (x := x0) rfl dX11_shut_0 ?_
  obtain ⟨a1, h1, h⟩ := zbind h
  refine z_gN hC fs_X11_12 h1 dX11_shut_1 ?_
  refine z_iload_n (x := x1) rfl dX11_shut_4 ?_
  obtain ⟨_, hb, h⟩ := zbind h
  obtain ⟨fs, hb⟩ := zob_some hb
  obtain ⟨q1, h2, h⟩ := zbind h
  refine z_callV (av := [.int x1]) (rest := []) hC zcl_2 hb (s_X2_isPlace hC h2) lk_X11_113 im_X2_isPlace se_X2_isPlace cd_X2_isPlace ⟨by decide, by decide, (Nat.le_of_ble_eq_true rfl)⟩ dX11_shut_5 ?_
  clear hb fs
  refine zeqS (stk2 := [.int q1.1]) rfl ?_
  refine z_if_ne (tgt := 18) dX11_shut_8 (by decide) (fun c1 => ?_) (fun c1 => ?_)
  · have h := zife h c1
    refine z_aload_n (x := x0) rfl dX11_shut_18 ?_
    obtain ⟨a2, h4, h⟩ := zbind h
    refine z_gN hC fs_X11_12 h4 dX11_shut_19 ?_
    obtain ⟨v1, h5, h⟩ := zbind h
    refine z_gI hC fs_X11_116 h5 dX11_shut_22 ?_
    refine z_iload_n (x := x1) rfl dX11_shut_25 ?_
    obtain ⟨q3, h6, h⟩ := zbind h
    refine z_callS (av := [.int v1, .int x1]) (rest := []) hC (s_X11_holds hC h6) lk_X11_119 st_X11_holds cd_X11_holds ⟨by decide, by decide, (Nat.le_of_ble_eq_true rfl)⟩ dX11_shut_26 ?_
    refine zeqS (stk2 := [.int q3.1]) rfl ?_
    refine z_iload_n (x := x2) rfl dX11_shut_29 ?_
    refine z_icmp_ne (tgt := 38) dX11_shut_30 (by decide) (fun c2 => ?_) (fun c2 => ?_)
    · have h := zife h c2
      refine z_aload_n (x := x0) rfl dX11_shut_38 ?_
      obtain ⟨a3, h8, h⟩ := zbind h
      refine z_gN hC fs_X11_12 h8 dX11_shut_39 ?_
      refine z_dup rfl dX11_shut_42 ?_
      obtain ⟨v2, h9, h⟩ := zbind h
      refine z_gI hC fs_X11_116 h9 dX11_shut_43 ?_
      refine z_iconst 1 (by decide) dX11_shut_46 ?_
      refine z_iload_n (x := x1) rfl dX11_shut_47 ?_
      refine z_ishl dX11_shut_48 ?_
      refine z_ixor dX11_shut_49 ?_
      obtain ⟨M1, h10, h⟩ := zbind h
      refine z_pI hC fp_X11_116 h10 dX11_shut_50 ?_
      refine z_iconst 1 (by decide) dX11_shut_53 ?_
      obtain rfl := Option.some.inj h
      exact z_iret ⟨.int, rfl, rfl⟩ dX11_shut_54
    · have h := zift h c2
      refine z_aload_n (x := x0) rfl dX11_shut_33 ?_
      obtain ⟨_, hb, h⟩ := zbind h
      obtain ⟨fs, hb⟩ := zob_some hb
      obtain ⟨q4, h7, h⟩ := zbind h
      refine z_callV (av := []) (rest := []) hC zcl_11 hb (s_X11_refusedNo hC h7) lk_X11_123 im_X11_refusedNo se_X11_refusedNo cd_X11_refusedNo ⟨by decide, by decide, (Nat.le_of_ble_eq_true rfl)⟩ dX11_shut_34 ?_
      clear hb fs
      refine zeqS (stk2 := [.int q4.1]) rfl ?_
      obtain rfl := Option.some.inj h
      exact z_iret ⟨.int, rfl, rfl⟩ dX11_shut_37
  · have h := zift h c1
    refine z_aload_n (x := x0) rfl dX11_shut_11 ?_
    refine z_bipush (-2) (by decide) dX11_shut_12 ?_
    obtain ⟨_, hb, h⟩ := zbind h
    obtain ⟨fs, hb⟩ := zob_some hb
    obtain ⟨q2, h3, h⟩ := zbind h
    refine z_callV (av := [.int (-2)]) (rest := []) hC zcl_11 hb (s_X11_refusedBad hC h3) lk_X11_72 im_X11_refusedBad se_X11_refusedBad cd_X11_refusedBad ⟨by decide, by decide, (Nat.le_of_ble_eq_true rfl)⟩ dX11_shut_14 ?_
    clear hb fs
    refine zeqS (stk2 := [.int q2.1]) rfl ?_
    obtain rfl := Option.some.inj h
    exact z_iret ⟨.int, rfl, rfl⟩ dX11_shut_17
def f_X11_canPut_b78  (y0 : Int32) (M : zMe) : Option (Int32 × zMe) :=
  if y0 = 0 ∨ y0 = 1 then some (y0, M) else none
set_option maxHeartbeats 4000000 in
set_option maxRecDepth 100000 in
theorem s_X11_canPut_b78 {g : zG} (hC : zC g)  (y0 : Int32) (M : zMe) (q : (Int32 × zMe)) (h : f_X11_canPut_b78  y0 M = some q) : zW g mX11_canPut 78 [.retAddr 0, .retAddr 0, .retAddr 0] [.int y0] M (some (.int q.1)) q.2 := by
  unfold f_X11_canPut_b78 at h
  obtain ⟨hz, h⟩ := zifs h
  obtain rfl := Option.some.inj h
  exact z_iret ⟨.boolean, rfl, zbo hz⟩ dX11_canPut_78
def f_X11_canPut_b77   (M : zMe) : Option (Int32 × zMe) :=
  f_X11_canPut_b78 0 M
set_option maxHeartbeats 4000000 in
set_option maxRecDepth 100000 in
theorem s_X11_canPut_b77 {g : zG} (hC : zC g)   (M : zMe) (q : (Int32 × zMe)) (h : f_X11_canPut_b77   M = some q) : zW g mX11_canPut 77 [.retAddr 0, .retAddr 0, .retAddr 0] [] M (some (.int q.1)) q.2 := by
  unfold f_X11_canPut_b77 at h
  refine z_iconst 0 (by decide) dX11_canPut_77 ?_
  exact s_X11_canPut_b78 hC _ _ _ h
def f_X11_canPut_b62  (x2 : Int32) (M : zMe) : Option (Int32 × zMe) :=
  if x2 < 1 then (
    f_X11_canPut_b77 M)
  else (
    if 9 < x2 then (
      f_X11_canPut_b77 M)
    else (
      f_X11_canPut_b78 1 M))
set_option maxHeartbeats 4000000 in
set_option maxRecDepth 100000 in
theorem s_X11_canPut_b62 {g : zG} (hC : zC g)  (x2 : Int32) (M : zMe) (q : (Int32 × zMe)) (h : f_X11_canPut_b62  x2 M = some q) : zW g mX11_canPut 62 [.retAddr 0, .retAddr 0, .int x2] [] M (some (.int q.1)) q.2 := by
  unfold f_X11_canPut_b62 at h
  refine z_iload_n (x := x2) rfl dX11_canPut_62 ?_
  refine z_iconst 1 (by decide) dX11_canPut_63 ?_
  refine z_icmp_lt (tgt := 77) dX11_canPut_64 (by decide) (fun c1 => ?_) (fun c1 => ?_)
  · have h := zift h c1
    refine zweak [false, false, false] ?_
    exact s_X11_canPut_b77 hC _ _ h
  · have h := zife h c1
    refine z_iload_n (x := x2) rfl dX11_canPut_67 ?_
    refine z_bipush 9 (by decide) dX11_canPut_68 ?_
    refine z_icmp_gt (tgt := 77) dX11_canPut_70 (by decide) (fun c2 => ?_) (fun c2 => ?_)
    · have h := zift h c2
      refine zweak [false, false, false] ?_
      exact s_X11_canPut_b77 hC _ _ h
    · have h := zife h c2
      refine z_iconst 1 (by decide) dX11_canPut_73 ?_
      refine z_goto (tgt := 78) dX11_canPut_74 (by decide) ?_
      refine zweak [false, false, false] ?_
      exact s_X11_canPut_b78 hC _ _ _ h
def f_X11_canPut_b61  (y0 : Int32) (M : zMe) : Option (Int32 × zMe) :=
  if y0 = 0 ∨ y0 = 1 then some (y0, M) else none
set_option maxHeartbeats 4000000 in
set_option maxRecDepth 100000 in
theorem s_X11_canPut_b61 {g : zG} (hC : zC g)  (y0 : Int32) (M : zMe) (q : (Int32 × zMe)) (h : f_X11_canPut_b61  y0 M = some q) : zW g mX11_canPut 61 [.retAddr 0, .retAddr 0, .retAddr 0] [.int y0] M (some (.int q.1)) q.2 := by
  unfold f_X11_canPut_b61 at h
  obtain ⟨hz, h⟩ := zifs h
  obtain rfl := Option.some.inj h
  exact z_iret ⟨.boolean, rfl, zbo hz⟩ dX11_canPut_61
def f_X11_canPut_b60   (M : zMe) : Option (Int32 × zMe) :=
  f_X11_canPut_b61 0 M
set_option maxHeartbeats 4000000 in
set_option maxRecDepth 100000 in
theorem s_X11_canPut_b60 {g : zG} (hC : zC g)   (M : zMe) (q : (Int32 × zMe)) (h : f_X11_canPut_b60   M = some q) : zW g mX11_canPut 60 [.retAddr 0, .retAddr 0, .retAddr 0] [] M (some (.int q.1)) q.2 := by
  unfold f_X11_canPut_b60 at h
  refine z_iconst 0 (by decide) dX11_canPut_60 ?_
  exact s_X11_canPut_b61 hC _ _ _ h
def f_X11_canPut (x0 : Nat) (x1 : Int32) (x2 : Int32) (M : zMe) : Option (Int32 × zMe) :=
  if x1 = 0 then (
    (zgN M x0 [11] 0).bind fun a1 =>
    (zob M a1 2).bind fun _ =>
    (f_X2_isPlace a1 x2 M).bind fun q1 =>
    if q1.1 = 0 ∨ q1.1 = 1 then some (q1.1, q1.2) else none)
  else (
    if x1 = 1 then (
      if x2 < 0 then (
        f_X11_canPut_b60 M)
      else (
        (zgN M x0 [11] 0).bind fun a2 =>
        (zob M a2 2).bind fun _ =>
        (f_X2_allPlaces a2 M).bind fun q2 =>
        if q2.1 < x2 then (
          f_X11_canPut_b60 q2.2)
        else (
          f_X11_canPut_b61 1 q2.2)))
    else (
      if x1 = 2 then (
        f_X11_canPut_b62 x2 M)
      else (
        if x1 = 3 then (
          f_X11_canPut_b62 x2 M)
        else (
          some (0, M)))))
set_option maxHeartbeats 4000000 in
set_option maxRecDepth 100000 in
theorem s_X11_canPut {g : zG} (hC : zC g) {x0 : Nat} {x1 : Int32} {x2 : Int32} {M : zMe} {q : (Int32 × zMe)} (h : f_X11_canPut x0 x1 x2 M = some q) : zMet g yX11_canPut mX11_canPut [.ref x0, .int x1, .int x2] M (some (.int q.1)) q.2 := by
  refine z_entry (by decide +kernel) rfl rfl (Nat.le_of_ble_eq_true rfl) ?_
  refine zeqL (L2 := [.ref x0, .int x1, .int x2]) rfl ?_
  unfold f_X11_canPut at h
  refine z_iload_n (x := x1) rfl dX11_canPut_0 ?_
  by_cases c1 : x1 = 0
  · have h := zift h c1
    refine z_tabIn (tgt := 32) 0 dX11_canPut_1 c1 (by decide) (by decide) rfl (by decide) ?_
    refine z_aload_n (x := x0) rfl dX11_canPut_32 ?_
    obtain ⟨a1, h1, h⟩ := zbind h
    refine z_gN hC fs_X11_12 h1 dX11_canPut_33 ?_
    refine z_iload_n (x := x2) rfl dX11_canPut_36 ?_
    obtain ⟨_, hb, h⟩ := zbind h
    obtain ⟨fs, hb⟩ := zob_some hb
    obtain ⟨q1, h2, h⟩ := zbind h
    refine z_callV (av := [.int x2]) (rest := []) hC zcl_2 hb (s_X2_isPlace hC h2) lk_X11_113 im_X2_isPlace se_X2_isPlace cd_X2_isPlace ⟨by decide, by decide, (Nat.le_of_ble_eq_true rfl)⟩ dX11_canPut_37 ?_
    clear hb fs
    refine zeqS (stk2 := [.int q1.1]) rfl ?_
    obtain ⟨hz, h⟩ := zifs h
    obtain rfl := Option.some.inj h
    exact z_iret ⟨.boolean, rfl, zbo hz⟩ dX11_canPut_40
  · have h := zife h c1
    by_cases c2 : x1 = 1
    · have h := zift h c2
      refine z_tabIn (tgt := 41) 1 dX11_canPut_1 c2 (by decide) (by decide) rfl (by decide) ?_
      refine z_iload_n (x := x2) rfl dX11_canPut_41 ?_
      refine z_if_lt (tgt := 60) dX11_canPut_42 (by decide) (fun c3 => ?_) (fun c3 => ?_)
      · have h := zift h c3
        refine zweak [false, false, false] ?_
        exact s_X11_canPut_b60 hC _ _ h
      · have h := zife h c3
        refine z_iload_n (x := x2) rfl dX11_canPut_45 ?_
        refine z_aload_n (x := x0) rfl dX11_canPut_46 ?_
        obtain ⟨a2, h3, h⟩ := zbind h
        refine z_gN hC fs_X11_12 h3 dX11_canPut_47 ?_
        obtain ⟨_, hb, h⟩ := zbind h
        obtain ⟨fs, hb⟩ := zob_some hb
        obtain ⟨q2, h4, h⟩ := zbind h
        refine z_callV (av := []) (rest := [.int x2]) hC zcl_2 hb (s_X2_allPlaces hC h4) lk_X11_200 im_X2_allPlaces se_X2_allPlaces cd_X2_allPlaces ⟨by decide, by decide, (Nat.le_of_ble_eq_true rfl)⟩ dX11_canPut_50 ?_
        clear hb fs
        refine zeqS (stk2 := [.int q2.1, .int x2]) rfl ?_
        refine z_icmp_gt (tgt := 60) dX11_canPut_53 (by decide) (fun c4 => ?_) (fun c4 => ?_)
        · have h := zift h c4
          refine zweak [false, false, false] ?_
          exact s_X11_canPut_b60 hC _ _ h
        · have h := zife h c4
          refine z_iconst 1 (by decide) dX11_canPut_56 ?_
          refine z_goto (tgt := 61) dX11_canPut_57 (by decide) ?_
          refine zweak [false, false, false] ?_
          exact s_X11_canPut_b61 hC _ _ _ h
    · have h := zife h c2
      by_cases c5 : x1 = 2
      · have h := zift h c5
        refine z_tabIn (tgt := 62) 2 dX11_canPut_1 c5 (by decide) (by decide) rfl (by decide) ?_
        refine zweak [false, false, true] ?_
        exact s_X11_canPut_b62 hC _ _ _ h
      · have h := zife h c5
        by_cases c6 : x1 = 3
        · have h := zift h c6
          refine z_tabIn (tgt := 62) 3 dX11_canPut_1 c6 (by decide) (by decide) rfl (by decide) ?_
          refine zweak [false, false, true] ?_
          exact s_X11_canPut_b62 hC _ _ _ h
        · have h := zife h c6
          refine z_tabOut (tgt := 79) 3 dX11_canPut_1 (by decide) (by decide) (fun j hj => ?_) (by decide) ?_
          · rcases (show j = 0 ∨ j = 1 ∨ j = 2 ∨ j = 3 by omega) with rfl | rfl | rfl | rfl
            · exact c1
            · exact c2
            · exact c5
            · exact c6
          · refine z_iconst 0 (by decide) dX11_canPut_79 ?_
            obtain rfl := Option.some.inj h
            exact z_iret ⟨.boolean, rfl, rfl⟩ dX11_canPut_80
def f_X11_put_b117  (x3 : Int32) (M : zMe) : Option (Int32 × zMe) :=
  some (x3, M)
set_option maxHeartbeats 4000000 in
set_option maxRecDepth 100000 in
theorem s_X11_put_b117 {g : zG} (hC : zC g)  (x3 : Int32) (M : zMe) (q : (Int32 × zMe)) (h : f_X11_put_b117  x3 M = some q) : zW g mX11_put 117 [.retAddr 0, .retAddr 0, .retAddr 0, .int x3] [] M (some (.int q.1)) q.2 := by
  unfold f_X11_put_b117 at h
  refine z_iload_n (x := x3) rfl dX11_put_117 ?_
  obtain rfl := Option.some.inj h
  exact z_iret ⟨.int, rfl, rfl⟩ dX11_put_118
def f_X11_put (x0 : Nat) (x1 : Int32) (x2 : Int32) (M : zMe) : Option (Int32 × zMe) :=
  (zob M x0 11).bind fun _ =>
  (f_X11_canPut x0 x1 x2 M).bind fun q1 =>
  if q1.1 = 0 then (
    (zob q1.2 x0 11).bind fun _ =>
    (f_X11_refusedBad x0 (-2) q1.2).bind fun q2 =>
    some (q2.1, q2.2))
  else (
    if x1 = 0 then (
      (zgN q1.2 x0 [11] 0).bind fun a1 =>
      (zgI q1.2 a1 [2] 2).bind fun v1 =>
      (zgN q1.2 x0 [11] 0).bind fun a2 =>
      (zpI q1.2 a2 [2] 2 x2).bind fun M1 =>
      f_X11_put_b117 v1 M1)
    else (
      if x1 = 1 then (
        (zgN q1.2 x0 [11] 0).bind fun a3 =>
        (zgI q1.2 a3 [2] 3).bind fun v2 =>
        (zgN q1.2 x0 [11] 0).bind fun a4 =>
        (zpI q1.2 a4 [2] 3 x2).bind fun M2 =>
        f_X11_put_b117 v2 M2)
      else (
        if x1 = 2 then (
          (zgN q1.2 x0 [11] 0).bind fun a5 =>
          (zgI q1.2 a5 [2] 4).bind fun v3 =>
          (zgN q1.2 x0 [11] 0).bind fun a6 =>
          (zpI q1.2 a6 [2] 4 x2).bind fun M3 =>
          f_X11_put_b117 v3 M3)
        else (
          (zgN q1.2 x0 [11] 0).bind fun a7 =>
          (zgI q1.2 a7 [2] 5).bind fun v4 =>
          (zgN q1.2 x0 [11] 0).bind fun a8 =>
          (zpI q1.2 a8 [2] 5 x2).bind fun M4 =>
          f_X11_put_b117 v4 M4))))
set_option maxHeartbeats 4000000 in
set_option maxRecDepth 100000 in
theorem s_X11_put {g : zG} (hC : zC g) {x0 : Nat} {x1 : Int32} {x2 : Int32} {M : zMe} {q : (Int32 × zMe)} (h : f_X11_put x0 x1 x2 M = some q) : zMet g yX11_put mX11_put [.ref x0, .int x1, .int x2] M (some (.int q.1)) q.2 := by
  refine z_entry (by decide +kernel) rfl rfl (Nat.le_of_ble_eq_true rfl) ?_
  refine zeqL (L2 := [.ref x0, .int x1, .int x2, .retAddr 0]) rfl ?_
  unfold f_X11_put at h
  refine z_aload_n (x := x0) rfl dX11_put_0 ?_
  refine z_iload_n (x := x1) rfl dX11_put_1 ?_
  refine z_iload_n (x := x2) rfl dX11_put_2 ?_
  obtain ⟨_, hb, h⟩ := zbind h
  obtain ⟨fs, hb⟩ := zob_some hb
  obtain ⟨q1, h1, h⟩ := zbind h
  refine z_callV (av := [.int x1, .int x2]) (rest := []) hC zcl_11 hb (s_X11_canPut hC h1) lk_X11_126 im_X11_canPut se_X11_canPut cd_X11_canPut ⟨by decide, by decide, (Nat.le_of_ble_eq_true rfl)⟩ dX11_put_3 ?_
  clear hb fs
  refine zeqS (stk2 := [.int q1.1]) rfl ?_
  refine z_if_ne (tgt := 16) dX11_put_6 (by decide) (fun c1 => ?_) (fun c1 => ?_)
  · have h := zife h c1
    refine z_iload_n (x := x1) rfl dX11_put_16 ?_
    by_cases c2 : x1 = 0
    · have h := zift h c2
      refine z_tabIn (tgt := 44) 0 dX11_put_17 c2 (by decide) (by decide) rfl (by decide) ?_
      refine z_aload_n (x := x0) rfl dX11_put_44 ?_
      obtain ⟨a1, h3, h⟩ := zbind h
      refine z_gN hC fs_X11_12 h3 dX11_put_45 ?_
      obtain ⟨v1, h4, h⟩ := zbind h
      refine z_gI hC fs_X11_129 h4 dX11_put_48 ?_
      refine z_istore_n dX11_put_51 (by decide) ?_
      refine zeqL (L2 := [.ref x0, .int x1, .int x2, .int v1]) rfl ?_
      refine z_aload_n (x := x0) rfl dX11_put_52 ?_
      obtain ⟨a2, h5, h⟩ := zbind h
      refine z_gN hC fs_X11_12 h5 dX11_put_53 ?_
      refine z_iload_n (x := x2) rfl dX11_put_56 ?_
      obtain ⟨M1, h6, h⟩ := zbind h
      refine z_pI hC fp_X11_129 h6 dX11_put_57 ?_
      refine z_goto (tgt := 117) dX11_put_60 (by decide) ?_
      refine zweak [false, false, false, true] ?_
      exact s_X11_put_b117 hC _ _ _ h
    · have h := zife h c2
      by_cases c3 : x1 = 1
      · have h := zift h c3
        refine z_tabIn (tgt := 63) 1 dX11_put_17 c3 (by decide) (by decide) rfl (by decide) ?_
        refine z_aload_n (x := x0) rfl dX11_put_63 ?_
        obtain ⟨a3, h7, h⟩ := zbind h
        refine z_gN hC fs_X11_12 h7 dX11_put_64 ?_
        obtain ⟨v2, h8, h⟩ := zbind h
        refine z_gI hC fs_X11_132 h8 dX11_put_67 ?_
        refine z_istore_n dX11_put_70 (by decide) ?_
        refine zeqL (L2 := [.ref x0, .int x1, .int x2, .int v2]) rfl ?_
        refine z_aload_n (x := x0) rfl dX11_put_71 ?_
        obtain ⟨a4, h9, h⟩ := zbind h
        refine z_gN hC fs_X11_12 h9 dX11_put_72 ?_
        refine z_iload_n (x := x2) rfl dX11_put_75 ?_
        obtain ⟨M2, h10, h⟩ := zbind h
        refine z_pI hC fp_X11_132 h10 dX11_put_76 ?_
        refine z_goto (tgt := 117) dX11_put_79 (by decide) ?_
        refine zweak [false, false, false, true] ?_
        exact s_X11_put_b117 hC _ _ _ h
      · have h := zife h c3
        by_cases c4 : x1 = 2
        · have h := zift h c4
          refine z_tabIn (tgt := 82) 2 dX11_put_17 c4 (by decide) (by decide) rfl (by decide) ?_
          refine z_aload_n (x := x0) rfl dX11_put_82 ?_
          obtain ⟨a5, h11, h⟩ := zbind h
          refine z_gN hC fs_X11_12 h11 dX11_put_83 ?_
          obtain ⟨v3, h12, h⟩ := zbind h
          refine z_gI hC fs_X11_135 h12 dX11_put_86 ?_
          refine z_istore_n dX11_put_89 (by decide) ?_
          refine zeqL (L2 := [.ref x0, .int x1, .int x2, .int v3]) rfl ?_
          refine z_aload_n (x := x0) rfl dX11_put_90 ?_
          obtain ⟨a6, h13, h⟩ := zbind h
          refine z_gN hC fs_X11_12 h13 dX11_put_91 ?_
          refine z_iload_n (x := x2) rfl dX11_put_94 ?_
          obtain ⟨M3, h14, h⟩ := zbind h
          refine z_pI hC fp_X11_135 h14 dX11_put_95 ?_
          refine z_goto (tgt := 117) dX11_put_98 (by decide) ?_
          refine zweak [false, false, false, true] ?_
          exact s_X11_put_b117 hC _ _ _ h
        · have h := zife h c4
          refine z_tabOut (tgt := 101) 2 dX11_put_17 (by decide) (by decide) (fun j hj => ?_) (by decide) ?_
          · rcases (show j = 0 ∨ j = 1 ∨ j = 2 by omega) with rfl | rfl | rfl
            · exact c2
            · exact c3
            · exact c4
          · refine z_aload_n (x := x0) rfl dX11_put_101 ?_
            obtain ⟨a7, h15, h⟩ := zbind h
            refine z_gN hC fs_X11_12 h15 dX11_put_102 ?_
            obtain ⟨v4, h16, h⟩ := zbind h
            refine z_gI hC fs_X11_138 h16 dX11_put_105 ?_
            refine z_istore_n dX11_put_108 (by decide) ?_
            refine zeqL (L2 := [.ref x0, .int x1, .int x2, .int v4]) rfl ?_
            refine z_aload_n (x := x0) rfl dX11_put_109 ?_
            obtain ⟨a8, h17, h⟩ := zbind h
            refine z_gN hC fs_X11_12 h17 dX11_put_110 ?_
            refine z_iload_n (x := x2) rfl dX11_put_113 ?_
            obtain ⟨M4, h18, h⟩ := zbind h
            refine z_pI hC fp_X11_138 h18 dX11_put_114 ?_
            refine zweak [false, false, false, true] ?_
            exact s_X11_put_b117 hC _ _ _ h
  · have h := zift h c1
    refine z_aload_n (x := x0) rfl dX11_put_9 ?_
    refine z_bipush (-2) (by decide) dX11_put_10 ?_
    obtain ⟨_, hb, h⟩ := zbind h
    obtain ⟨fs, hb⟩ := zob_some hb
    obtain ⟨q2, h2, h⟩ := zbind h
    refine z_callV (av := [.int (-2)]) (rest := []) hC zcl_11 hb (s_X11_refusedBad hC h2) lk_X11_72 im_X11_refusedBad se_X11_refusedBad cd_X11_refusedBad ⟨by decide, by decide, (Nat.le_of_ble_eq_true rfl)⟩ dX11_put_12 ?_
    clear hb fs
    refine zeqS (stk2 := [.int q2.1]) rfl ?_
    obtain rfl := Option.some.inj h
    exact z_iret ⟨.int, rfl, rfl⟩ dX11_put_15
def f_X11_type_b40  : Nat → Nat → Int64 → Int32 → zMe → Option (Int32 × zMe)
  | 0, _, _, _, _ => none
  | n + 1, x0, x1, x4, M =>
    if x4 < 0 then (
      (zgI M x0 [11] 3).bind fun v1 =>
      some (v1, M))
    else (
      (zgN M x0 [11] 2).bind fun a1 =>
      (zgI M x0 [11] 3).bind fun v2 =>
      (zwB M a1 v2 ((((x1.toUInt64 >>> (((8 * x4) : Int32).toInt64.toUInt64 &&& Int64.toUInt64 63)).toInt64).toInt32).toInt8.toInt32)).bind fun M1 =>
      (zgI M1 x0 [11] 3).bind fun v3 =>
      (zpI M1 x0 [11] 3 (v3 + 1)).bind fun M2 =>
      zlet (x4 + (-1)) fun v4 =>
      f_X11_type_b40 n x0 x1 v4 M2)
set_option maxHeartbeats 4000000 in
set_option maxRecDepth 100000 in
theorem s_X11_type_b40 {g : zG} (hC : zC g)  : ∀ (n : Nat) (x0 : Nat) (x1 : Int64) (x4 : Int32) (M : zMe) (q : (Int32 × zMe)), f_X11_type_b40  n x0 x1 x4 M = some q → zW g mX11_type 40 [.ref x0, .long x1, .retAddr 0, .retAddr 0, .int x4] [] M (some (.int q.1)) q.2 := by
  intro n
  induction n with
  | zero => intro x0 x1 x4 M q h; cases h
  | succ n ih =>
    intro x0 x1 x4 M q h
    rw [f_X11_type_b40] at h
    refine z_iload (x := x4) rfl dX11_type_40 ?_
    refine z_if_lt (tgt := 79) dX11_type_42 (by decide) (fun c1 => ?_) (fun c1 => ?_)
    · have h := zift h c1
      refine z_aload_n (x := x0) rfl dX11_type_79 ?_
      obtain ⟨v1, h1, h⟩ := zbind h
      refine z_gI hC fs_X11_24 h1 dX11_type_80 ?_
      obtain rfl := Option.some.inj h
      exact z_iret ⟨.int, rfl, rfl⟩ dX11_type_83
    · have h := zife h c1
      refine z_aload_n (x := x0) rfl dX11_type_45 ?_
      obtain ⟨a1, h2, h⟩ := zbind h
      refine z_gN hC fs_X11_20 h2 dX11_type_46 ?_
      refine z_aload_n (x := x0) rfl dX11_type_49 ?_
      obtain ⟨v2, h3, h⟩ := zbind h
      refine z_gI hC fs_X11_24 h3 dX11_type_50 ?_
      refine z_lload_n (x := x1) rfl dX11_type_53 ?_
      refine z_bipush 8 (by decide) dX11_type_54 ?_
      refine z_iload (x := x4) rfl dX11_type_56 ?_
      refine z_imul dX11_type_58 ?_
      refine z_lushr dX11_type_59 ?_
      refine z_l2i dX11_type_60 ?_
      refine z_i2b dX11_type_61 ?_
      obtain ⟨M1, h4, h⟩ := zbind h
      refine z_wB h4 dX11_type_62 ?_
      refine z_aload_n (x := x0) rfl dX11_type_63 ?_
      refine z_dup rfl dX11_type_64 ?_
      obtain ⟨v3, h5, h⟩ := zbind h
      refine z_gI hC fs_X11_24 h5 dX11_type_65 ?_
      refine z_iconst 1 (by decide) dX11_type_68 ?_
      refine z_iadd dX11_type_69 ?_
      obtain ⟨M2, h6, h⟩ := zbind h
      refine z_pI hC fp_X11_24 h6 dX11_type_70 ?_
      obtain ⟨v4, hv⟩ : ∃ z : Int32, z = x4 + (-1) := ⟨_, rfl⟩
      have h := zlet_use h hv
      refine z_iinc (v := v4) dX11_type_73 (x := x4) rfl (by rw [hv]; rfl) ?_
      clear hv
      refine zeqL (L2 := [.ref x0, .long x1, .retAddr 0, .retAddr 0, .int v4]) rfl ?_
      refine z_goto (tgt := 40) dX11_type_76 (by decide) ?_
      exact ih _ _ _ _ _ h
def f_X11_type_b11  (x0 : Nat) (M : zMe) : Option (Int32 × zMe) :=
  (zob M x0 11).bind fun _ =>
  (f_X11_refusedBad x0 (-2) M).bind fun q1 =>
  some (q1.1, q1.2)
set_option maxHeartbeats 4000000 in
set_option maxRecDepth 100000 in
theorem s_X11_type_b11 {g : zG} (hC : zC g)  (x0 : Nat) (M : zMe) (q : (Int32 × zMe)) (h : f_X11_type_b11  x0 M = some q) : zW g mX11_type 11 [.ref x0, .retAddr 0, .retAddr 0, .retAddr 0, .retAddr 0] [] M (some (.int q.1)) q.2 := by
  unfold f_X11_type_b11 at h
  refine z_aload_n (x := x0) rfl dX11_type_11 ?_
  refine z_bipush (-2) (by decide) dX11_type_12 ?_
  obtain ⟨_, hb, h⟩ := zbind h
  obtain ⟨fs, hb⟩ := zob_some hb
  obtain ⟨q1, h1, h⟩ := zbind h
  refine z_callV (av := [.int (-2)]) (rest := []) hC zcl_11 hb (s_X11_refusedBad hC h1) lk_X11_72 im_X11_refusedBad se_X11_refusedBad cd_X11_refusedBad ⟨by decide, by decide, (Nat.le_of_ble_eq_true rfl)⟩ dX11_type_14 ?_
  clear hb fs
  refine zeqS (stk2 := [.int q1.1]) rfl ?_
  obtain rfl := Option.some.inj h
  exact z_iret ⟨.int, rfl, rfl⟩ dX11_type_17
def f_X11_type (x0 : Nat) (x1 : Int64) (x3 : Int32) (M : zMe) : Option (Int32 × zMe) :=
  if x3 < 1 then (
    f_X11_type_b11 x0 M)
  else (
    if x3 ≤ 8 then (
      (zgI M x0 [11] 3).bind fun v1 =>
      if (v1 + x3) ≤ 200 then (
        zlet (x3 - 1 : Int32) fun v2 =>
        f_X11_type_b40 zfu x0 x1 v2 M)
      else (
        (zob M x0 11).bind fun _ =>
        (f_X11_refusedFull x0 M).bind fun q1 =>
        some (q1.1, q1.2)))
    else (
      f_X11_type_b11 x0 M))
set_option maxHeartbeats 4000000 in
set_option maxRecDepth 100000 in
theorem s_X11_type {g : zG} (hC : zC g) {x0 : Nat} {x1 : Int64} {x3 : Int32} {M : zMe} {q : (Int32 × zMe)} (h : f_X11_type x0 x1 x3 M = some q) : zMet g yX11_type mX11_type [.ref x0, .long x1, .int x3] M (some (.int q.1)) q.2 := by
  refine z_entry (by decide +kernel) rfl rfl (Nat.le_of_ble_eq_true rfl) ?_
  refine zeqL (L2 := [.ref x0, .long x1, .retAddr 0, .int x3, .retAddr 0]) rfl ?_
  unfold f_X11_type at h
  refine z_iload_n (x := x3) rfl dX11_type_0 ?_
  refine z_iconst 1 (by decide) dX11_type_1 ?_
  refine z_icmp_lt (tgt := 11) dX11_type_2 (by decide) (fun c1 => ?_) (fun c1 => ?_)
  · have h := zift h c1
    refine zweak [true, false, false, false, false] ?_
    exact s_X11_type_b11 hC _ _ _ h
  · have h := zife h c1
    refine z_iload_n (x := x3) rfl dX11_type_5 ?_
    refine z_bipush 8 (by decide) dX11_type_6 ?_
    refine z_icmp_le (tgt := 18) dX11_type_8 (by decide) (fun c2 => ?_) (fun c2 => ?_)
    · have h := zift h c2
      refine z_aload_n (x := x0) rfl dX11_type_18 ?_
      obtain ⟨v1, h1, h⟩ := zbind h
      refine z_gI hC fs_X11_24 h1 dX11_type_19 ?_
      refine z_iload_n (x := x3) rfl dX11_type_22 ?_
      refine z_iadd dX11_type_23 ?_
      refine z_sipush 200 (by decide) dX11_type_24 ?_
      refine z_icmp_le (tgt := 35) dX11_type_27 (by decide) (fun c3 => ?_) (fun c3 => ?_)
      · have h := zift h c3
        refine z_iload_n (x := x3) rfl dX11_type_35 ?_
        refine z_iconst 1 (by decide) dX11_type_36 ?_
        refine z_isub dX11_type_37 ?_
        refine z_nameI (fun v2 hv => ?_)
        have h := zlet_use h hv
        clear hv
        refine z_istore dX11_type_38 (by decide) ?_
        refine zeqL (L2 := [.ref x0, .long x1, .retAddr 0, .int x3, .int v2]) rfl ?_
        refine zweak [true, true, false, false, true] ?_
        exact s_X11_type_b40 hC _ _ _ _ _ _ h
      · have h := zife h c3
        refine z_aload_n (x := x0) rfl dX11_type_30 ?_
        obtain ⟨_, hb, h⟩ := zbind h
        obtain ⟨fs, hb⟩ := zob_some hb
        obtain ⟨q1, h2, h⟩ := zbind h
        refine z_callV (av := []) (rest := []) hC zcl_11 hb (s_X11_refusedFull hC h2) lk_X11_94 im_X11_refusedFull se_X11_refusedFull cd_X11_refusedFull ⟨by decide, by decide, (Nat.le_of_ble_eq_true rfl)⟩ dX11_type_31 ?_
        clear hb fs
        refine zeqS (stk2 := [.int q1.1]) rfl ?_
        obtain rfl := Option.some.inj h
        exact z_iret ⟨.int, rfl, rfl⟩ dX11_type_34
    · have h := zife h c2
      refine zweak [true, false, false, false, false] ?_
      exact s_X11_type_b11 hC _ _ _ h
def f_X11_clear (x0 : Nat) (M : zMe) : Option (Int32 × zMe) :=
  (zgI M x0 [11] 3).bind fun v1 =>
  (zpI M x0 [11] 3 0).bind fun M1 =>
  some (v1, M1)
set_option maxHeartbeats 4000000 in
set_option maxRecDepth 100000 in
theorem s_X11_clear {g : zG} (hC : zC g) {x0 : Nat} {M : zMe} {q : (Int32 × zMe)} (h : f_X11_clear x0 M = some q) : zMet g yX11_clear mX11_clear [.ref x0] M (some (.int q.1)) q.2 := by
  refine z_entry (by decide +kernel) rfl rfl (Nat.le_of_ble_eq_true rfl) ?_
  refine zeqL (L2 := [.ref x0, .retAddr 0]) rfl ?_
  unfold f_X11_clear at h
  refine z_aload_n (x := x0) rfl dX11_clear_0 ?_
  obtain ⟨v1, h1, h⟩ := zbind h
  refine z_gI hC fs_X11_24 h1 dX11_clear_1 ?_
  refine z_istore_n dX11_clear_4 (by decide) ?_
  refine zeqL (L2 := [.ref x0, .int v1]) rfl ?_
  refine z_aload_n (x := x0) rfl dX11_clear_5 ?_
  refine z_iconst 0 (by decide) dX11_clear_6 ?_
  obtain ⟨M1, h2, h⟩ := zbind h
  refine z_pI hC fp_X11_24 h2 dX11_clear_7 ?_
  refine z_iload_n (x := v1) rfl dX11_clear_10 ?_
  obtain rfl := Option.some.inj h
  exact z_iret ⟨.int, rfl, rfl⟩ dX11_clear_11
def f_X11_read (sa : Nat → Nat) (x0 : Nat) (M : zMe) : Option (Int32 × zMe) :=
  zlet (zAdd M (.inr (7, [.null, .int 0, .null, .int 0, .int 0, .int 0, .int 0])) 7) fun M1 =>
  (zgN M1 x0 [11] 2).bind fun a1 =>
  (zgI M1 x0 [11] 3).bind fun v1 =>
  (f_X7_init M.2.1 a1 v1 M1).bind fun q1 =>
  (zob q1 M.2.1 7).bind fun _ =>
  (f_X7_readHill sa M.2.1 q1).bind fun q2 =>
  (zgI q2 M.2.1 [7] 1).bind fun v2 =>
  if v2 = (-1) then (
    (zgN q2 M.2.1 [7] 0).bind fun a2 =>
    (zpR q2 x0 [11] 0 (some a2)).bind fun M2 =>
    (zgN M2 x0 [11] 0).bind fun a3 =>
    (zgI M2 a3 [2] 6).bind fun v3 =>
    some (v3, M2))
  else (
    (zgI q2 M.2.1 [7] 1).bind fun v4 =>
    some ((-10) - v4, q2))
set_option maxHeartbeats 4000000 in
set_option maxRecDepth 100000 in
theorem s_X11_read {g : zG} (hC : zC g) {sa : Nat → Nat} (hS : zCs g sa) {x0 : Nat} {M : zMe} {q : (Int32 × zMe)} (h : f_X11_read sa x0 M = some q) : zMet g yX11_read mX11_read [.ref x0] M (some (.int q.1)) q.2 := by
  refine z_entry (by decide +kernel) rfl rfl (Nat.le_of_ble_eq_true rfl) ?_
  refine zeqL (L2 := [.ref x0, .retAddr 0]) rfl ?_
  unfold f_X11_read at h
  obtain ⟨M1, hm⟩ : ∃ z, z = zAdd M (.inr (7, [.null, .int 0, .null, .int 0, .int 0, .int 0, .int 0])) 7 := ⟨_, rfl⟩
  have h := zlet_use h hm
  refine z_nO hC zcl_7 (fs := [.null, .int 0, .null, .int 0, .int 0, .int 0, .int 0]) cl_X11_141 ins_7 ini_7 rfl df_7 hm dX11_read_0 ?_
  refine z_dup rfl dX11_read_3 ?_
  refine z_aload_n (x := x0) rfl dX11_read_4 ?_
  obtain ⟨a1, h1, h⟩ := zbind h
  refine z_gN hC fs_X11_20 h1 dX11_read_5 ?_
  refine z_aload_n (x := x0) rfl dX11_read_8 ?_
  obtain ⟨v1, h2, h⟩ := zbind h
  refine z_gI hC fs_X11_24 h2 dX11_read_9 ?_
  obtain ⟨q1, h3, h⟩ := zbind h
  refine z_callI (av := [.ref a1, .int v1]) (rest := [.ref M.2.1]) hC (s_X7_init hC h3) lk_X11_143 im_X7_init rfl rfl cd_X7_init ⟨by decide, by decide, (Nat.le_of_ble_eq_true rfl)⟩ dX11_read_12 ?_
  refine zeqS (stk2 := [.ref M.2.1]) rfl ?_
  refine z_astore_n dX11_read_15 (by decide) ?_
  refine zeqL (L2 := [.ref x0, .ref M.2.1]) rfl ?_
  refine z_aload_n (x := M.2.1) rfl dX11_read_16 ?_
  obtain ⟨_, hb, h⟩ := zbind h
  obtain ⟨fs, hb⟩ := zob_some hb
  obtain ⟨q2, h4, h⟩ := zbind h
  refine z_callV (av := []) (rest := []) hC zcl_7 hb (s_X7_readHill hC hS h4) lk_X11_146 im_X7_readHill se_X7_readHill cd_X7_readHill ⟨by decide, by decide, (Nat.le_of_ble_eq_true rfl)⟩ dX11_read_17 ?_
  clear hb fs
  refine zeqS (stk2 := []) rfl ?_
  refine z_aload_n (x := M.2.1) rfl dX11_read_20 ?_
  obtain ⟨v2, h5, h⟩ := zbind h
  refine z_gI hC fs_X11_149 h5 dX11_read_21 ?_
  refine z_iconst (-1) (by decide) dX11_read_24 ?_
  refine z_icmp_eq (tgt := 36) dX11_read_25 (by decide) (fun c1 => ?_) (fun c1 => ?_)
  · have h := zift h c1
    refine z_aload_n (x := x0) rfl dX11_read_36 ?_
    refine z_aload_n (x := M.2.1) rfl dX11_read_37 ?_
    obtain ⟨a2, h6, h⟩ := zbind h
    refine z_gN hC fs_X11_152 h6 dX11_read_38 ?_
    obtain ⟨M2, h7, h⟩ := zbind h
    refine z_pRo hC fp_X11_12 h7 dX11_read_41 ?_
    refine z_aload_n (x := x0) rfl dX11_read_44 ?_
    obtain ⟨a3, h8, h⟩ := zbind h
    refine z_gN hC fs_X11_12 h8 dX11_read_45 ?_
    obtain ⟨v3, h9, h⟩ := zbind h
    refine z_gI hC fs_X11_155 h9 dX11_read_48 ?_
    obtain rfl := Option.some.inj h
    exact z_iret ⟨.int, rfl, rfl⟩ dX11_read_51
  · have h := zife h c1
    refine z_bipush (-10) (by decide) dX11_read_28 ?_
    refine z_aload_n (x := M.2.1) rfl dX11_read_30 ?_
    obtain ⟨v4, h10, h⟩ := zbind h
    refine z_gI hC fs_X11_149 h10 dX11_read_31 ?_
    refine z_isub dX11_read_34 ?_
    obtain rfl := Option.some.inj h
    exact z_iret ⟨.int, rfl, rfl⟩ dX11_read_35
def f_X11_goes_b47  (x0 : Nat) (M : zMe) : Option (Int32 × zMe) :=
  (zob M x0 11).bind fun _ =>
  (f_X11_refusedBad x0 (-2) M).bind fun q1 =>
  some (q1.1, q1.2)
set_option maxHeartbeats 4000000 in
set_option maxRecDepth 100000 in
theorem s_X11_goes_b47 {g : zG} (hC : zC g)  (x0 : Nat) (M : zMe) (q : (Int32 × zMe)) (h : f_X11_goes_b47  x0 M = some q) : zW g mX11_goes 47 [.ref x0, .retAddr 0, .retAddr 0, .retAddr 0, .retAddr 0, .retAddr 0] [] M (some (.int q.1)) q.2 := by
  unfold f_X11_goes_b47 at h
  refine z_aload_n (x := x0) rfl dX11_goes_47 ?_
  refine z_bipush (-2) (by decide) dX11_goes_48 ?_
  obtain ⟨_, hb, h⟩ := zbind h
  obtain ⟨fs, hb⟩ := zob_some hb
  obtain ⟨q1, h1, h⟩ := zbind h
  refine z_callV (av := [.int (-2)]) (rest := []) hC zcl_11 hb (s_X11_refusedBad hC h1) lk_X11_72 im_X11_refusedBad se_X11_refusedBad cd_X11_refusedBad ⟨by decide, by decide, (Nat.le_of_ble_eq_true rfl)⟩ dX11_goes_50 ?_
  clear hb fs
  refine zeqS (stk2 := [.int q1.1]) rfl ?_
  obtain rfl := Option.some.inj h
  exact z_iret ⟨.int, rfl, rfl⟩ dX11_goes_53
def f_X11_goes (x0 : Nat) (x1 : Int32) (x2 : Int32) (x3 : Int32) (x4 : Int32) (M : zMe) : Option (Int32 × zMe) :=
  (zgN M x0 [11] 0).bind fun a1 =>
  (zob M a1 2).bind fun _ =>
  (f_X2_dogAt a1 x1 M).bind fun q1 =>
  zcase q1.1 (
    f_X11_goes_b47 x0 q1.2) (fun a2 =>
    (zgN q1.2 x0 [11] 0).bind fun a3 =>
    (zob q1.2 a3 2).bind fun _ =>
    (f_X2_isPlace a3 x2 q1.2).bind fun q2 =>
    if q2.1 = 0 then (
      f_X11_goes_b47 x0 q2.2)
    else (
      if x3 < 0 then (
        f_X11_goes_b47 x0 q2.2)
      else (
        if 1 < x3 then (
          f_X11_goes_b47 x0 q2.2)
        else (
          if x4 < 0 then (
            f_X11_goes_b47 x0 q2.2)
          else (
            if x4 ≤ 99 then (
              (zgN q2.2 x0 [11] 0).bind fun a4 =>
              (zgI q2.2 a4 [2] 1).bind fun v1 =>
              (fv_X5_next a2 x2 x3 x4 v1 q2.2).bind fun q3 =>
              some (q3.1, q3.2))
            else (
              f_X11_goes_b47 x0 q2.2))))))
set_option maxHeartbeats 4000000 in
set_option maxRecDepth 100000 in
theorem s_X11_goes {g : zG} (hC : zC g) {x0 : Nat} {x1 : Int32} {x2 : Int32} {x3 : Int32} {x4 : Int32} {M : zMe} {q : (Int32 × zMe)} (h : f_X11_goes x0 x1 x2 x3 x4 M = some q) : zMet g yX11_goes mX11_goes [.ref x0, .int x1, .int x2, .int x3, .int x4] M (some (.int q.1)) q.2 := by
  refine z_entry (by decide +kernel) rfl rfl (Nat.le_of_ble_eq_true rfl) ?_
  refine zeqL (L2 := [.ref x0, .int x1, .int x2, .int x3, .int x4, .retAddr 0]) rfl ?_
  unfold f_X11_goes at h
  refine z_aload_n (x := x0) rfl dX11_goes_0 ?_
  obtain ⟨a1, h1, h⟩ := zbind h
  refine z_gN hC fs_X11_12 h1 dX11_goes_1 ?_
  refine z_iload_n (x := x1) rfl dX11_goes_4 ?_
  obtain ⟨_, hb, h⟩ := zbind h
  obtain ⟨fs, hb⟩ := zob_some hb
  obtain ⟨q1, h2, h⟩ := zbind h
  refine z_callV (av := [.int x1]) (rest := []) hC zcl_2 hb (s_X2_dogAt hC h2) lk_X11_158 im_X2_dogAt se_X2_dogAt cd_X2_dogAt ⟨by decide, by decide, (Nat.le_of_ble_eq_true rfl)⟩ dX11_goes_5 ?_
  clear hb fs
  refine zeqS (stk2 := [va_rf q1.1]) rfl ?_
  refine z_astoreO dX11_goes_8 (by decide) ?_
  refine zeqL (L2 := [.ref x0, .int x1, .int x2, .int x3, .int x4, va_rf q1.1]) rfl ?_
  refine z_aloadO (x := q1.1) rfl dX11_goes_10 ?_
  obtain hx1 | ⟨a2, hx1⟩ := zon q1.1
  · have h := zcaseN h hx1
    rw [hx1]
    refine z_ifnullN (tgt := 47) dX11_goes_12 (by decide) ?_
    refine zweak [true, false, false, false, false, false] ?_
    exact s_X11_goes_b47 hC _ _ _ h
  · have h := zcaseS h hx1
    rw [hx1]
    refine z_ifnull dX11_goes_12 ?_
    refine z_aload_n (x := x0) rfl dX11_goes_15 ?_
    obtain ⟨a3, h3, h⟩ := zbind h
    refine z_gN hC fs_X11_12 h3 dX11_goes_16 ?_
    refine z_iload_n (x := x2) rfl dX11_goes_19 ?_
    obtain ⟨_, hb, h⟩ := zbind h
    obtain ⟨fs, hb⟩ := zob_some hb
    obtain ⟨q2, h4, h⟩ := zbind h
    refine z_callV (av := [.int x2]) (rest := []) hC zcl_2 hb (s_X2_isPlace hC h4) lk_X11_113 im_X2_isPlace se_X2_isPlace cd_X2_isPlace ⟨by decide, by decide, (Nat.le_of_ble_eq_true rfl)⟩ dX11_goes_20 ?_
    clear hb fs
    refine zeqS (stk2 := [.int q2.1]) rfl ?_
    refine z_if_eq (tgt := 47) dX11_goes_23 (by decide) (fun c1 => ?_) (fun c1 => ?_)
    · have h := zift h c1
      refine zweak [true, false, false, false, false, false] ?_
      exact s_X11_goes_b47 hC _ _ _ h
    · have h := zife h c1
      refine z_iload_n (x := x3) rfl dX11_goes_26 ?_
      refine z_if_lt (tgt := 47) dX11_goes_27 (by decide) (fun c2 => ?_) (fun c2 => ?_)
      · have h := zift h c2
        refine zweak [true, false, false, false, false, false] ?_
        exact s_X11_goes_b47 hC _ _ _ h
      · have h := zife h c2
        refine z_iload_n (x := x3) rfl dX11_goes_30 ?_
        refine z_iconst 1 (by decide) dX11_goes_31 ?_
        refine z_icmp_gt (tgt := 47) dX11_goes_32 (by decide) (fun c3 => ?_) (fun c3 => ?_)
        · have h := zift h c3
          refine zweak [true, false, false, false, false, false] ?_
          exact s_X11_goes_b47 hC _ _ _ h
        · have h := zife h c3
          refine z_iload (x := x4) rfl dX11_goes_35 ?_
          refine z_if_lt (tgt := 47) dX11_goes_37 (by decide) (fun c4 => ?_) (fun c4 => ?_)
          · have h := zift h c4
            refine zweak [true, false, false, false, false, false] ?_
            exact s_X11_goes_b47 hC _ _ _ h
          · have h := zife h c4
            refine z_iload (x := x4) rfl dX11_goes_40 ?_
            refine z_bipush 99 (by decide) dX11_goes_42 ?_
            refine z_icmp_le (tgt := 54) dX11_goes_44 (by decide) (fun c5 => ?_) (fun c5 => ?_)
            · have h := zift h c5
              refine z_aload (x := a2) rfl dX11_goes_54 ?_
              refine z_iload_n (x := x2) rfl dX11_goes_56 ?_
              refine z_iload_n (x := x3) rfl dX11_goes_57 ?_
              refine z_iload (x := x4) rfl dX11_goes_58 ?_
              refine z_aload_n (x := x0) rfl dX11_goes_60 ?_
              obtain ⟨a4, h5, h⟩ := zbind h
              refine z_gN hC fs_X11_12 h5 dX11_goes_61 ?_
              obtain ⟨v1, h6, h⟩ := zbind h
              refine z_gI hC fs_X11_116 h6 dX11_goes_64 ?_
              obtain ⟨q3, h7, h⟩ := zbind h
              refine cv_X11_162 (rest := []) hC h7 ⟨rfl, ⟨by decide, by decide⟩, ⟨by decide, by decide⟩, ⟨by decide, by decide⟩, ⟨by decide, by decide⟩⟩ (Nat.le_of_ble_eq_true rfl) dX11_goes_67 ?_
              refine zeqS (stk2 := [.int q3.1]) rfl ?_
              obtain rfl := Option.some.inj h
              exact z_iret ⟨.int, rfl, rfl⟩ dX11_goes_70
            · have h := zife h c5
              refine zweak [true, false, false, false, false, false] ?_
              exact s_X11_goes_b47 hC _ _ _ h
def f_X11_isTune_b23  (y0 : Int32) (M : zMe) : Option (Int32 × zMe) :=
  if y0 = 0 ∨ y0 = 1 then some (y0, M) else none
set_option maxHeartbeats 4000000 in
set_option maxRecDepth 100000 in
theorem s_X11_isTune_b23 {g : zG} (hC : zC g)  (y0 : Int32) (M : zMe) (q : (Int32 × zMe)) (h : f_X11_isTune_b23  y0 M = some q) : zW g mX11_isTune 23 [.retAddr 0, .retAddr 0] [.int y0] M (some (.int q.1)) q.2 := by
  unfold f_X11_isTune_b23 at h
  obtain ⟨hz, h⟩ := zifs h
  obtain rfl := Option.some.inj h
  exact z_iret ⟨.boolean, rfl, zbo hz⟩ dX11_isTune_23
def f_X11_isTune_b22   (M : zMe) : Option (Int32 × zMe) :=
  f_X11_isTune_b23 0 M
set_option maxHeartbeats 4000000 in
set_option maxRecDepth 100000 in
theorem s_X11_isTune_b22 {g : zG} (hC : zC g)   (M : zMe) (q : (Int32 × zMe)) (h : f_X11_isTune_b22   M = some q) : zW g mX11_isTune 22 [.retAddr 0, .retAddr 0] [] M (some (.int q.1)) q.2 := by
  unfold f_X11_isTune_b22 at h
  refine z_iconst 0 (by decide) dX11_isTune_22 ?_
  exact s_X11_isTune_b23 hC _ _ _ h
def f_X11_isTune (x0 : Int32) (x1 : Int32) (M : zMe) : Option (Int32 × zMe) :=
  if x1 < 0 then (
    f_X11_isTune_b22 M)
  else (
    if 20 < x1 then (
      f_X11_isTune_b22 M)
    else (
      (f_X11_areBits x0 x1 M).bind fun q1 =>
      if q1.1 = 0 then (
        f_X11_isTune_b22 q1.2)
      else (
        f_X11_isTune_b23 1 q1.2)))
set_option maxHeartbeats 4000000 in
set_option maxRecDepth 100000 in
theorem s_X11_isTune {g : zG} (hC : zC g) {x0 : Int32} {x1 : Int32} {M : zMe} {q : (Int32 × zMe)} (h : f_X11_isTune x0 x1 M = some q) : zMet g yX11_isTune mX11_isTune [.int x0, .int x1] M (some (.int q.1)) q.2 := by
  refine z_entry (by decide +kernel) rfl rfl (Nat.le_of_ble_eq_true rfl) ?_
  refine zeqL (L2 := [.int x0, .int x1]) rfl ?_
  unfold f_X11_isTune at h
  refine z_iload_n (x := x1) rfl dX11_isTune_0 ?_
  refine z_if_lt (tgt := 22) dX11_isTune_1 (by decide) (fun c1 => ?_) (fun c1 => ?_)
  · have h := zift h c1
    refine zweak [false, false] ?_
    exact s_X11_isTune_b22 hC _ _ h
  · have h := zife h c1
    refine z_iload_n (x := x1) rfl dX11_isTune_4 ?_
    refine z_bipush 20 (by decide) dX11_isTune_5 ?_
    refine z_icmp_gt (tgt := 22) dX11_isTune_7 (by decide) (fun c2 => ?_) (fun c2 => ?_)
    · have h := zift h c2
      refine zweak [false, false] ?_
      exact s_X11_isTune_b22 hC _ _ h
    · have h := zife h c2
      refine z_iload_n (x := x0) rfl dX11_isTune_10 ?_
      refine z_iload_n (x := x1) rfl dX11_isTune_11 ?_
      obtain ⟨q1, h1, h⟩ := zbind h
      refine z_callS (av := [.int x0, .int x1]) (rest := []) hC (s_X11_areBits hC h1) lk_X11_264 st_X11_areBits cd_X11_areBits ⟨by decide, by decide, (Nat.le_of_ble_eq_true rfl)⟩ dX11_isTune_12 ?_
      refine zeqS (stk2 := [.int q1.1]) rfl ?_
      refine z_if_eq (tgt := 22) dX11_isTune_15 (by decide) (fun c3 => ?_) (fun c3 => ?_)
      · have h := zift h c3
        refine zweak [false, false] ?_
        exact s_X11_isTune_b22 hC _ _ h
      · have h := zife h c3
        refine z_iconst 1 (by decide) dX11_isTune_18 ?_
        refine z_goto (tgt := 23) dX11_isTune_19 (by decide) ?_
        refine zweak [false, false] ?_
        exact s_X11_isTune_b23 hC _ _ _ h
def fv_X5_behind (a : Nat) (x1 : Int32) (x2 : Int32) (x3 : Int32) (x4 : Int32) (M : zMe) : Option (Int32 × zMe) := match M.1 a with
  | some (.inr (ci, _)) =>
    if ci = 5 then f_X5_behind a x1 x2 x3 x4 M else if ci = 1 then f_X5_behind a x1 x2 x3 x4 M else if ci = 9 then f_X5_behind a x1 x2 x3 x4 M else if ci = 6 then f_X5_behind a x1 x2 x3 x4 M else if ci = 3 then f_X5_behind a x1 x2 x3 x4 M else none
  | _ => none
theorem fv_X5_behind_some {a : Nat} {x1 : Int32} {x2 : Int32} {x3 : Int32} {x4 : Int32} {M : zMe} {q : (Int32 × zMe)} (h : fv_X5_behind a x1 x2 x3 x4 M = some q) : (∃ fs, M.1 a = some (.inr (5, fs)) ∧ f_X5_behind a x1 x2 x3 x4 M = some q) ∨ (∃ fs, M.1 a = some (.inr (1, fs)) ∧ f_X5_behind a x1 x2 x3 x4 M = some q) ∨ (∃ fs, M.1 a = some (.inr (9, fs)) ∧ f_X5_behind a x1 x2 x3 x4 M = some q) ∨ (∃ fs, M.1 a = some (.inr (6, fs)) ∧ f_X5_behind a x1 x2 x3 x4 M = some q) ∨ (∃ fs, M.1 a = some (.inr (3, fs)) ∧ f_X5_behind a x1 x2 x3 x4 M = some q) := by
  unfold fv_X5_behind at h
  split at h
  next ci fs e =>
    by_cases c5 : ci = 5
    · exact Or.inl ⟨fs, by rw [e, c5], zift h c5⟩
    have h := zife h c5
    by_cases c1 : ci = 1
    · exact Or.inr (Or.inl ⟨fs, by rw [e, c1], zift h c1⟩)
    have h := zife h c1
    by_cases c9 : ci = 9
    · exact Or.inr (Or.inr (Or.inl ⟨fs, by rw [e, c9], zift h c9⟩))
    have h := zife h c9
    by_cases c6 : ci = 6
    · exact Or.inr (Or.inr (Or.inr (Or.inl ⟨fs, by rw [e, c6], zift h c6⟩)))
    have h := zife h c6
    by_cases c3 : ci = 3
    · exact Or.inr (Or.inr (Or.inr (Or.inr (⟨fs, by rw [e, c3], zift h c3⟩))))
    have h := zife h c3
    cases h
  next => cases h
theorem up_X11_171_1 : zUp RX11 171 RX1 "OneWhistle$Plain" ⟨"OneWhistle$Plain", "behind", "(IIII)I"⟩ yX5_behind := ⟨by decide +kernel, by decide +kernel, Or.inr ⟨by decide +kernel, _, _, _, cd_X5_behind.1⟩, by decide +kernel, by decide +kernel, ⟨by decide +kernel, by decide +kernel⟩, rfl⟩
theorem up_X11_171_9 : zUp RX11 171 RX9 "OneWhistle$Plain" ⟨"OneWhistle$Plain", "behind", "(IIII)I"⟩ yX5_behind := ⟨by decide +kernel, by decide +kernel, Or.inr ⟨by decide +kernel, _, _, _, cd_X5_behind.1⟩, by decide +kernel, by decide +kernel, ⟨by decide +kernel, by decide +kernel⟩, rfl⟩
theorem up_X11_171_6 : zUp RX11 171 RX6 "OneWhistle$Plain" ⟨"OneWhistle$Plain", "behind", "(IIII)I"⟩ yX5_behind := ⟨by decide +kernel, by decide +kernel, Or.inr ⟨by decide +kernel, _, _, _, cd_X5_behind.1⟩, by decide +kernel, by decide +kernel, ⟨by decide +kernel, by decide +kernel⟩, rfl⟩
theorem up_X11_171_3 : zUp RX11 171 RX3 "OneWhistle$Plain" ⟨"OneWhistle$Plain", "behind", "(IIII)I"⟩ yX5_behind := ⟨by decide +kernel, by decide +kernel, Or.inr ⟨by decide +kernel, _, _, _, cd_X5_behind.1⟩, by decide +kernel, by decide +kernel, ⟨by decide +kernel, by decide +kernel⟩, rfl⟩
theorem cv_X11_171 {g : zG} {t : zM} {pc : Nat} {L rest : List Value} {M M2 : zMe} {rv : Option Value} {a : Nat} {x1 : Int32} {x2 : Int32} {x3 : Int32} {x4 : Int32} {q : (Int32 × zMe)} (hC : zC g) (h : fv_X5_behind a x1 x2 x3 x4 M = some q) (hfit : t.1 = RX11 ∧ (mX5_behind.2.2.2.2.2.1 + 1 ≤ t.2.2.2.2.2.1 ∧ 8 + (mX5_behind.2.2.1 + 11) + mX5_behind.2.2.2.2.2.2 ≤ t.2.2.2.2.2.2)) (hr : (rest.map fun v => v.category).sum ≤ 8) (hd : decode t.2.1 pc = .ok (.invokevirtual 171, 3)) (kk : zW g t (pc + 3) L ((some (.int q.1)).toList ++ rest) q.2 rv M2) : zW g t pc L (([.int x1, .int x2, .int x3, .int x4] : List Value).reverse ++ .ref a :: rest) M rv M2 := by
  obtain ⟨ht, w_X5_behind⟩ := hfit
  rcases fv_X5_behind_some h with ⟨fs, hb, h⟩ | ⟨fs, hb, h⟩ | ⟨fs, hb, h⟩ | ⟨fs, hb, h⟩ | ⟨fs, hb, h⟩
  · exact z_callV hC zcl_5 hb (s_X5_behind hC h) (by rw [ht]; exact lk_X11_171) im_X5_behind se_X5_behind cd_X5_behind ⟨w_X5_behind.1, w_X5_behind.2, hr⟩ hd kk
  · exact z_callU hC zcl_1 hb (s_X5_behind hC h) (by rw [ht]; exact up_X11_171_1) cd_X5_behind ⟨w_X5_behind.1, w_X5_behind.2, hr⟩ hd kk
  · exact z_callU hC zcl_9 hb (s_X5_behind hC h) (by rw [ht]; exact up_X11_171_9) cd_X5_behind ⟨w_X5_behind.1, w_X5_behind.2, hr⟩ hd kk
  · exact z_callU hC zcl_6 hb (s_X5_behind hC h) (by rw [ht]; exact up_X11_171_6) cd_X5_behind ⟨w_X5_behind.1, w_X5_behind.2, hr⟩ hd kk
  · exact z_callU hC zcl_3 hb (s_X5_behind hC h) (by rw [ht]; exact up_X11_171_3) cd_X5_behind ⟨w_X5_behind.1, w_X5_behind.2, hr⟩ hd kk
def f_X11_run_b35  (x0 : Nat) (M : zMe) : Option (Int32 × zMe) :=
  (zob M x0 11).bind fun _ =>
  (f_X11_refusedBad x0 (-2) M).bind fun q1 =>
  some (q1.1, q1.2)
set_option maxHeartbeats 4000000 in
set_option maxRecDepth 100000 in
theorem s_X11_run_b35 {g : zG} (hC : zC g)  (x0 : Nat) (M : zMe) (q : (Int32 × zMe)) (h : f_X11_run_b35  x0 M = some q) : zW g mX11_run 35 [.ref x0, .retAddr 0, .retAddr 0, .retAddr 0, .retAddr 0, .retAddr 0] [] M (some (.int q.1)) q.2 := by
  unfold f_X11_run_b35 at h
  refine z_aload_n (x := x0) rfl dX11_run_35 ?_
  refine z_bipush (-2) (by decide) dX11_run_36 ?_
  obtain ⟨_, hb, h⟩ := zbind h
  obtain ⟨fs, hb⟩ := zob_some hb
  obtain ⟨q1, h1, h⟩ := zbind h
  refine z_callV (av := [.int (-2)]) (rest := []) hC zcl_11 hb (s_X11_refusedBad hC h1) lk_X11_72 im_X11_refusedBad se_X11_refusedBad cd_X11_refusedBad ⟨by decide, by decide, (Nat.le_of_ble_eq_true rfl)⟩ dX11_run_38 ?_
  clear hb fs
  refine zeqS (stk2 := [.int q1.1]) rfl ?_
  obtain rfl := Option.some.inj h
  exact z_iret ⟨.int, rfl, rfl⟩ dX11_run_41
def f_X11_run (x0 : Nat) (x1 : Int32) (x2 : Int32) (x3 : Int32) (x4 : Int32) (M : zMe) : Option (Int32 × zMe) :=
  (zgN M x0 [11] 0).bind fun a1 =>
  (zob M a1 2).bind fun _ =>
  (f_X2_dogAt a1 x1 M).bind fun q1 =>
  zcase q1.1 (
    f_X11_run_b35 x0 q1.2) (fun a2 =>
    (zgN q1.2 x0 [11] 0).bind fun a3 =>
    (zob q1.2 a3 2).bind fun _ =>
    (f_X2_isPlace a3 x2 q1.2).bind fun q2 =>
    if q2.1 = 0 then (
      f_X11_run_b35 x0 q2.2)
    else (
      (f_X11_isTune x3 x4 q2.2).bind fun q3 =>
      if q3.1 = 0 then (
        f_X11_run_b35 x0 q3.2)
      else (
        (zgN q3.2 x0 [11] 0).bind fun a4 =>
        (zgI q3.2 a4 [2] 1).bind fun v1 =>
        (fv_X5_behind a2 x2 x3 x4 v1 q3.2).bind fun q4 =>
        some (q4.1, q4.2))))
set_option maxHeartbeats 4000000 in
set_option maxRecDepth 100000 in
theorem s_X11_run {g : zG} (hC : zC g) {x0 : Nat} {x1 : Int32} {x2 : Int32} {x3 : Int32} {x4 : Int32} {M : zMe} {q : (Int32 × zMe)} (h : f_X11_run x0 x1 x2 x3 x4 M = some q) : zMet g yX11_run mX11_run [.ref x0, .int x1, .int x2, .int x3, .int x4] M (some (.int q.1)) q.2 := by
  refine z_entry (by decide +kernel) rfl rfl (Nat.le_of_ble_eq_true rfl) ?_
  refine zeqL (L2 := [.ref x0, .int x1, .int x2, .int x3, .int x4, .retAddr 0]) rfl ?_
  unfold f_X11_run at h
  refine z_aload_n (x := x0) rfl dX11_run_0 ?_
  obtain ⟨a1, h1, h⟩ := zbind h
  refine z_gN hC fs_X11_12 h1 dX11_run_1 ?_
  refine z_iload_n (x := x1) rfl dX11_run_4 ?_
  obtain ⟨_, hb, h⟩ := zbind h
  obtain ⟨fs, hb⟩ := zob_some hb
  obtain ⟨q1, h2, h⟩ := zbind h
  refine z_callV (av := [.int x1]) (rest := []) hC zcl_2 hb (s_X2_dogAt hC h2) lk_X11_158 im_X2_dogAt se_X2_dogAt cd_X2_dogAt ⟨by decide, by decide, (Nat.le_of_ble_eq_true rfl)⟩ dX11_run_5 ?_
  clear hb fs
  refine zeqS (stk2 := [va_rf q1.1]) rfl ?_
  refine z_astoreO dX11_run_8 (by decide) ?_
  refine zeqL (L2 := [.ref x0, .int x1, .int x2, .int x3, .int x4, va_rf q1.1]) rfl ?_
  refine z_aloadO (x := q1.1) rfl dX11_run_10 ?_
  obtain hx1 | ⟨a2, hx1⟩ := zon q1.1
  · have h := zcaseN h hx1
    rw [hx1]
    refine z_ifnullN (tgt := 35) dX11_run_12 (by decide) ?_
    refine zweak [true, false, false, false, false, false] ?_
    exact s_X11_run_b35 hC _ _ _ h
  · have h := zcaseS h hx1
    rw [hx1]
    refine z_ifnull dX11_run_12 ?_
    refine z_aload_n (x := x0) rfl dX11_run_15 ?_
    obtain ⟨a3, h3, h⟩ := zbind h
    refine z_gN hC fs_X11_12 h3 dX11_run_16 ?_
    refine z_iload_n (x := x2) rfl dX11_run_19 ?_
    obtain ⟨_, hb, h⟩ := zbind h
    obtain ⟨fs, hb⟩ := zob_some hb
    obtain ⟨q2, h4, h⟩ := zbind h
    refine z_callV (av := [.int x2]) (rest := []) hC zcl_2 hb (s_X2_isPlace hC h4) lk_X11_113 im_X2_isPlace se_X2_isPlace cd_X2_isPlace ⟨by decide, by decide, (Nat.le_of_ble_eq_true rfl)⟩ dX11_run_20 ?_
    clear hb fs
    refine zeqS (stk2 := [.int q2.1]) rfl ?_
    refine z_if_eq (tgt := 35) dX11_run_23 (by decide) (fun c1 => ?_) (fun c1 => ?_)
    · have h := zift h c1
      refine zweak [true, false, false, false, false, false] ?_
      exact s_X11_run_b35 hC _ _ _ h
    · have h := zife h c1
      refine z_iload_n (x := x3) rfl dX11_run_26 ?_
      refine z_iload (x := x4) rfl dX11_run_27 ?_
      obtain ⟨q3, h5, h⟩ := zbind h
      refine z_callS (av := [.int x3, .int x4]) (rest := []) hC (s_X11_isTune hC h5) lk_X11_168 st_X11_isTune cd_X11_isTune ⟨by decide, by decide, (Nat.le_of_ble_eq_true rfl)⟩ dX11_run_29 ?_
      refine zeqS (stk2 := [.int q3.1]) rfl ?_
      refine z_if_ne (tgt := 42) dX11_run_32 (by decide) (fun c2 => ?_) (fun c2 => ?_)
      · have h := zife h c2
        refine z_aload (x := a2) rfl dX11_run_42 ?_
        refine z_iload_n (x := x2) rfl dX11_run_44 ?_
        refine z_iload_n (x := x3) rfl dX11_run_45 ?_
        refine z_iload (x := x4) rfl dX11_run_46 ?_
        refine z_aload_n (x := x0) rfl dX11_run_48 ?_
        obtain ⟨a4, h6, h⟩ := zbind h
        refine z_gN hC fs_X11_12 h6 dX11_run_49 ?_
        obtain ⟨v1, h7, h⟩ := zbind h
        refine z_gI hC fs_X11_116 h7 dX11_run_52 ?_
        obtain ⟨q4, h8, h⟩ := zbind h
        refine cv_X11_171 (rest := []) hC h8 ⟨rfl, ⟨by decide, by decide⟩⟩ (Nat.le_of_ble_eq_true rfl) dX11_run_55 ?_
        refine zeqS (stk2 := [.int q4.1]) rfl ?_
        obtain rfl := Option.some.inj h
        exact z_iret ⟨.int, rfl, rfl⟩ dX11_run_58
      · have h := zift h c2
        refine zweak [true, false, false, false, false, false] ?_
        exact s_X11_run_b35 hC _ _ _ h
def f_X11_meets_b36  : Nat → Nat → Int32 → Int32 → Nat → Int32 → Int32 → zMe → Option (Int32 × zMe)
  | 0, _, _, _, _, _, _, _ => none
  | n + 1, x0, x2, x3, x4, x5, x6, M =>
    (zgN M x0 [11] 0).bind fun a1 =>
    (zgI M a1 [2] 0).bind fun v1 =>
    if v1 ≤ x6 then (
      some (x5, M))
    else (
      (zgN M x0 [11] 0).bind fun a2 =>
      (zgI M a2 [2] 1).bind fun v2 =>
      (fv_X5_behind x4 x6 x2 x3 v2 M).bind fun q1 =>
      zlet (x5 ||| ((1 : Int32) <<< (q1.1 &&& 31)) : Int32) fun v3 =>
      zlet (x6 + 1) fun v4 =>
      f_X11_meets_b36 n x0 x2 x3 x4 v3 v4 q1.2)
set_option maxHeartbeats 4000000 in
set_option maxRecDepth 100000 in
theorem s_X11_meets_b36 {g : zG} (hC : zC g)  : ∀ (n : Nat) (x0 : Nat) (x2 : Int32) (x3 : Int32) (x4 : Nat) (x5 : Int32) (x6 : Int32) (M : zMe) (q : (Int32 × zMe)), f_X11_meets_b36  n x0 x2 x3 x4 x5 x6 M = some q → zW g mX11_meets 36 [.ref x0, .retAddr 0, .int x2, .int x3, .ref x4, .int x5, .int x6] [] M (some (.int q.1)) q.2 := by
  intro n
  induction n with
  | zero => intro x0 x2 x3 x4 x5 x6 M q h; cases h
  | succ n ih =>
    intro x0 x2 x3 x4 x5 x6 M q h
    rw [f_X11_meets_b36] at h
    refine z_iload (x := x6) rfl dX11_meets_36 ?_
    refine z_aload_n (x := x0) rfl dX11_meets_38 ?_
    obtain ⟨a1, h1, h⟩ := zbind h
    refine z_gN hC fs_X11_12 h1 dX11_meets_39 ?_
    obtain ⟨v1, h2, h⟩ := zbind h
    refine z_gI hC fs_X11_76 h2 dX11_meets_42 ?_
    refine z_icmp_ge (tgt := 77) dX11_meets_45 (by decide) (fun c1 => ?_) (fun c1 => ?_)
    · have h := zift h c1
      refine z_iload (x := x5) rfl dX11_meets_77 ?_
      obtain rfl := Option.some.inj h
      exact z_iret ⟨.int, rfl, rfl⟩ dX11_meets_79
    · have h := zife h c1
      refine z_iload (x := x5) rfl dX11_meets_48 ?_
      refine z_iconst 1 (by decide) dX11_meets_50 ?_
      refine z_aload (x := x4) rfl dX11_meets_51 ?_
      refine z_iload (x := x6) rfl dX11_meets_53 ?_
      refine z_iload_n (x := x2) rfl dX11_meets_55 ?_
      refine z_iload_n (x := x3) rfl dX11_meets_56 ?_
      refine z_aload_n (x := x0) rfl dX11_meets_57 ?_
      obtain ⟨a2, h3, h⟩ := zbind h
      refine z_gN hC fs_X11_12 h3 dX11_meets_58 ?_
      obtain ⟨v2, h4, h⟩ := zbind h
      refine z_gI hC fs_X11_116 h4 dX11_meets_61 ?_
      obtain ⟨q1, h5, h⟩ := zbind h
      refine cv_X11_171 (rest := [.int 1, .int x5]) hC h5 ⟨rfl, ⟨by decide, by decide⟩⟩ (Nat.le_of_ble_eq_true rfl) dX11_meets_64 ?_
      refine zeqS (stk2 := [.int q1.1, .int 1, .int x5]) rfl ?_
      refine z_ishl dX11_meets_67 ?_
      refine z_ior dX11_meets_68 ?_
      refine z_nameI (fun v3 hv => ?_)
      have h := zlet_use h hv
      clear hv
      refine z_istore dX11_meets_69 (by decide) ?_
      refine zeqL (L2 := [.ref x0, .retAddr 0, .int x2, .int x3, .ref x4, .int v3, .int x6]) rfl ?_
      obtain ⟨v4, hv⟩ : ∃ z : Int32, z = x6 + 1 := ⟨_, rfl⟩
      have h := zlet_use h hv
      refine z_iinc (v := v4) dX11_meets_71 (x := x6) rfl (by rw [hv]; rfl) ?_
      clear hv
      refine zeqL (L2 := [.ref x0, .retAddr 0, .int x2, .int x3, .ref x4, .int v3, .int v4]) rfl ?_
      refine z_goto (tgt := 36) dX11_meets_74 (by decide) ?_
      exact ih _ _ _ _ _ _ _ _ h
def f_X11_meets_b23  (x0 : Nat) (M : zMe) : Option (Int32 × zMe) :=
  (zob M x0 11).bind fun _ =>
  (f_X11_refusedBad x0 (-2) M).bind fun q1 =>
  some (q1.1, q1.2)
set_option maxHeartbeats 4000000 in
set_option maxRecDepth 100000 in
theorem s_X11_meets_b23 {g : zG} (hC : zC g)  (x0 : Nat) (M : zMe) (q : (Int32 × zMe)) (h : f_X11_meets_b23  x0 M = some q) : zW g mX11_meets 23 [.ref x0, .retAddr 0, .retAddr 0, .retAddr 0, .retAddr 0, .retAddr 0, .retAddr 0] [] M (some (.int q.1)) q.2 := by
  unfold f_X11_meets_b23 at h
  refine z_aload_n (x := x0) rfl dX11_meets_23 ?_
  refine z_bipush (-2) (by decide) dX11_meets_24 ?_
  obtain ⟨_, hb, h⟩ := zbind h
  obtain ⟨fs, hb⟩ := zob_some hb
  obtain ⟨q1, h1, h⟩ := zbind h
  refine z_callV (av := [.int (-2)]) (rest := []) hC zcl_11 hb (s_X11_refusedBad hC h1) lk_X11_72 im_X11_refusedBad se_X11_refusedBad cd_X11_refusedBad ⟨by decide, by decide, (Nat.le_of_ble_eq_true rfl)⟩ dX11_meets_26 ?_
  clear hb fs
  refine zeqS (stk2 := [.int q1.1]) rfl ?_
  obtain rfl := Option.some.inj h
  exact z_iret ⟨.int, rfl, rfl⟩ dX11_meets_29
def f_X11_meets (x0 : Nat) (x1 : Int32) (x2 : Int32) (x3 : Int32) (M : zMe) : Option (Int32 × zMe) :=
  (zgN M x0 [11] 0).bind fun a1 =>
  (zob M a1 2).bind fun _ =>
  (f_X2_dogAt a1 x1 M).bind fun q1 =>
  zcase q1.1 (
    f_X11_meets_b23 x0 q1.2) (fun a2 =>
    (f_X11_isTune x2 x3 q1.2).bind fun q2 =>
    if q2.1 = 0 then (
      f_X11_meets_b23 x0 q2.2)
    else (
      f_X11_meets_b36 zfu x0 x2 x3 a2 0 0 q2.2))
set_option maxHeartbeats 4000000 in
set_option maxRecDepth 100000 in
theorem s_X11_meets {g : zG} (hC : zC g) {x0 : Nat} {x1 : Int32} {x2 : Int32} {x3 : Int32} {M : zMe} {q : (Int32 × zMe)} (h : f_X11_meets x0 x1 x2 x3 M = some q) : zMet g yX11_meets mX11_meets [.ref x0, .int x1, .int x2, .int x3] M (some (.int q.1)) q.2 := by
  refine z_entry (by decide +kernel) rfl rfl (Nat.le_of_ble_eq_true rfl) ?_
  refine zeqL (L2 := [.ref x0, .int x1, .int x2, .int x3, .retAddr 0, .retAddr 0, .retAddr 0]) rfl ?_
  unfold f_X11_meets at h
  refine z_aload_n (x := x0) rfl dX11_meets_0 ?_
  obtain ⟨a1, h1, h⟩ := zbind h
  refine z_gN hC fs_X11_12 h1 dX11_meets_1 ?_
  refine z_iload_n (x := x1) rfl dX11_meets_4 ?_
  obtain ⟨_, hb, h⟩ := zbind h
  obtain ⟨fs, hb⟩ := zob_some hb
  obtain ⟨q1, h2, h⟩ := zbind h
  refine z_callV (av := [.int x1]) (rest := []) hC zcl_2 hb (s_X2_dogAt hC h2) lk_X11_158 im_X2_dogAt se_X2_dogAt cd_X2_dogAt ⟨by decide, by decide, (Nat.le_of_ble_eq_true rfl)⟩ dX11_meets_5 ?_
  clear hb fs
  refine zeqS (stk2 := [va_rf q1.1]) rfl ?_
  refine z_astoreO dX11_meets_8 (by decide) ?_
  refine zeqL (L2 := [.ref x0, .int x1, .int x2, .int x3, va_rf q1.1, .retAddr 0, .retAddr 0]) rfl ?_
  refine z_aloadO (x := q1.1) rfl dX11_meets_10 ?_
  obtain hx1 | ⟨a2, hx1⟩ := zon q1.1
  · have h := zcaseN h hx1
    rw [hx1]
    refine z_ifnullN (tgt := 23) dX11_meets_12 (by decide) ?_
    refine zweak [true, false, false, false, false, false, false] ?_
    exact s_X11_meets_b23 hC _ _ _ h
  · have h := zcaseS h hx1
    rw [hx1]
    refine z_ifnull dX11_meets_12 ?_
    refine z_iload_n (x := x2) rfl dX11_meets_15 ?_
    refine z_iload_n (x := x3) rfl dX11_meets_16 ?_
    obtain ⟨q2, h3, h⟩ := zbind h
    refine z_callS (av := [.int x2, .int x3]) (rest := []) hC (s_X11_isTune hC h3) lk_X11_168 st_X11_isTune cd_X11_isTune ⟨by decide, by decide, (Nat.le_of_ble_eq_true rfl)⟩ dX11_meets_17 ?_
    refine zeqS (stk2 := [.int q2.1]) rfl ?_
    refine z_if_ne (tgt := 30) dX11_meets_20 (by decide) (fun c1 => ?_) (fun c1 => ?_)
    · have h := zife h c1
      refine z_iconst 0 (by decide) dX11_meets_30 ?_
      refine z_istore dX11_meets_31 (by decide) ?_
      refine zeqL (L2 := [.ref x0, .int x1, .int x2, .int x3, .ref a2, .int 0, .retAddr 0]) rfl ?_
      refine z_iconst 0 (by decide) dX11_meets_33 ?_
      refine z_istore dX11_meets_34 (by decide) ?_
      refine zeqL (L2 := [.ref x0, .int x1, .int x2, .int x3, .ref a2, .int 0, .int 0]) rfl ?_
      refine zweak [true, false, true, true, true, true, true] ?_
      exact s_X11_meets_b36 hC _ _ _ _ _ _ _ _ _ h
    · have h := zift h c1
      refine zweak [true, false, false, false, false, false, false] ?_
      exact s_X11_meets_b23 hC _ _ _ h
def f_X11_tame_b70  (y0 : Int32) (M : zMe) : Option (Int32 × zMe) :=
  some (y0, M)
set_option maxHeartbeats 4000000 in
set_option maxRecDepth 100000 in
theorem s_X11_tame_b70 {g : zG} (hC : zC g)  (y0 : Int32) (M : zMe) (q : (Int32 × zMe)) (h : f_X11_tame_b70  y0 M = some q) : zW g mX11_tame 70 [.retAddr 0, .retAddr 0, .retAddr 0] [.int y0] M (some (.int q.1)) q.2 := by
  unfold f_X11_tame_b70 at h
  obtain rfl := Option.some.inj h
  exact z_iret ⟨.int, rfl, rfl⟩ dX11_tame_70
def f_X11_tame_b20  (x0 : Nat) (M : zMe) : Option (Int32 × zMe) :=
  (zob M x0 11).bind fun _ =>
  (f_X11_refusedBad x0 (-10) M).bind fun q1 =>
  some (q1.1, q1.2)
set_option maxHeartbeats 4000000 in
set_option maxRecDepth 100000 in
theorem s_X11_tame_b20 {g : zG} (hC : zC g)  (x0 : Nat) (M : zMe) (q : (Int32 × zMe)) (h : f_X11_tame_b20  x0 M = some q) : zW g mX11_tame 20 [.ref x0, .retAddr 0, .retAddr 0] [] M (some (.int q.1)) q.2 := by
  unfold f_X11_tame_b20 at h
  refine z_aload_n (x := x0) rfl dX11_tame_20 ?_
  refine z_bipush (-10) (by decide) dX11_tame_21 ?_
  obtain ⟨_, hb, h⟩ := zbind h
  obtain ⟨fs, hb⟩ := zob_some hb
  obtain ⟨q1, h1, h⟩ := zbind h
  refine z_callV (av := [.int (-10)]) (rest := []) hC zcl_11 hb (s_X11_refusedBad hC h1) lk_X11_72 im_X11_refusedBad se_X11_refusedBad cd_X11_refusedBad ⟨by decide, by decide, (Nat.le_of_ble_eq_true rfl)⟩ dX11_tame_23 ?_
  clear hb fs
  refine zeqS (stk2 := [.int q1.1]) rfl ?_
  obtain rfl := Option.some.inj h
  exact z_iret ⟨.int, rfl, rfl⟩ dX11_tame_26
def f_X11_tame (x0 : Nat) (x1 : Int32) (x2 : Int32) (M : zMe) : Option (Int32 × zMe) :=
  (zgN M x0 [11] 0).bind fun a1 =>
  (zob M a1 2).bind fun _ =>
  (f_X2_areDogs a1 x1 M).bind fun q1 =>
  if q1.1 = 0 then (
    f_X11_tame_b20 x0 q1.2)
  else (
    if x2 < 0 then (
      f_X11_tame_b20 x0 q1.2)
    else (
      if x2 ≤ 1 then (
        (zgN q1.2 x0 [11] 9).bind fun a2 =>
        (zgN q1.2 x0 [11] 0).bind fun a3 =>
        (zgN q1.2 x0 [11] 0).bind fun a4 =>
        (zgI q1.2 a4 [2] 1).bind fun v1 =>
        (zob q1.2 a2 0).bind fun _ =>
        (f_X0_follow a2 a3 x1 v1 q1.2).bind fun q2 =>
        (zgN q2 x0 [11] 9).bind fun a5 =>
        (zob q2 a5 0).bind fun _ =>
        (f_X0_seek a5 1 1 q2).bind fun q3 =>
        if q3.1 = 0 then (
          f_X11_tame_b70 (-1) q3.2)
        else (
          (zgN q3.2 x0 [11] 9).bind fun a6 =>
          (zob q3.2 a6 0).bind fun _ =>
          (f_X0_shortest a6 x2 q3.2).bind fun q4 =>
          f_X11_tame_b70 q4.1 q4.2))
      else (
        f_X11_tame_b20 x0 q1.2)))
set_option maxHeartbeats 4000000 in
set_option maxRecDepth 100000 in
theorem s_X11_tame {g : zG} (hC : zC g) {x0 : Nat} {x1 : Int32} {x2 : Int32} {M : zMe} {q : (Int32 × zMe)} (h : f_X11_tame x0 x1 x2 M = some q) : zMet g yX11_tame mX11_tame [.ref x0, .int x1, .int x2] M (some (.int q.1)) q.2 := by
  refine z_entry (by decide +kernel) rfl rfl (Nat.le_of_ble_eq_true rfl) ?_
  refine zeqL (L2 := [.ref x0, .int x1, .int x2]) rfl ?_
  unfold f_X11_tame at h
  refine z_aload_n (x := x0) rfl dX11_tame_0 ?_
  obtain ⟨a1, h1, h⟩ := zbind h
  refine z_gN hC fs_X11_12 h1 dX11_tame_1 ?_
  refine z_iload_n (x := x1) rfl dX11_tame_4 ?_
  obtain ⟨_, hb, h⟩ := zbind h
  obtain ⟨fs, hb⟩ := zob_some hb
  obtain ⟨q1, h2, h⟩ := zbind h
  refine z_callV (av := [.int x1]) (rest := []) hC zcl_2 hb (s_X2_areDogs hC h2) lk_X11_174 im_X2_areDogs se_X2_areDogs cd_X2_areDogs ⟨by decide, by decide, (Nat.le_of_ble_eq_true rfl)⟩ dX11_tame_5 ?_
  clear hb fs
  refine zeqS (stk2 := [.int q1.1]) rfl ?_
  refine z_if_eq (tgt := 20) dX11_tame_8 (by decide) (fun c1 => ?_) (fun c1 => ?_)
  · have h := zift h c1
    refine zweak [true, false, false] ?_
    exact s_X11_tame_b20 hC _ _ _ h
  · have h := zife h c1
    refine z_iload_n (x := x2) rfl dX11_tame_11 ?_
    refine z_if_lt (tgt := 20) dX11_tame_12 (by decide) (fun c2 => ?_) (fun c2 => ?_)
    · have h := zift h c2
      refine zweak [true, false, false] ?_
      exact s_X11_tame_b20 hC _ _ _ h
    · have h := zife h c2
      refine z_iload_n (x := x2) rfl dX11_tame_15 ?_
      refine z_iconst 1 (by decide) dX11_tame_16 ?_
      refine z_icmp_le (tgt := 27) dX11_tame_17 (by decide) (fun c3 => ?_) (fun c3 => ?_)
      · have h := zift h c3
        refine z_aload_n (x := x0) rfl dX11_tame_27 ?_
        obtain ⟨a2, h3, h⟩ := zbind h
        refine z_gN hC fs_X11_47 h3 dX11_tame_28 ?_
        refine z_aload_n (x := x0) rfl dX11_tame_31 ?_
        obtain ⟨a3, h4, h⟩ := zbind h
        refine z_gN hC fs_X11_12 h4 dX11_tame_32 ?_
        refine z_iload_n (x := x1) rfl dX11_tame_35 ?_
        refine z_aload_n (x := x0) rfl dX11_tame_36 ?_
        obtain ⟨a4, h5, h⟩ := zbind h
        refine z_gN hC fs_X11_12 h5 dX11_tame_37 ?_
        obtain ⟨v1, h6, h⟩ := zbind h
        refine z_gI hC fs_X11_116 h6 dX11_tame_40 ?_
        obtain ⟨_, hb, h⟩ := zbind h
        obtain ⟨fs, hb⟩ := zob_some hb
        obtain ⟨q2, h7, h⟩ := zbind h
        refine z_callV (av := [.ref a3, .int x1, .int v1]) (rest := []) hC zcl_0 hb (s_X0_follow hC h7) lk_X11_177 im_X0_follow se_X0_follow cd_X0_follow ⟨by decide, by decide, (Nat.le_of_ble_eq_true rfl)⟩ dX11_tame_43 ?_
        clear hb fs
        refine zeqS (stk2 := []) rfl ?_
        refine z_aload_n (x := x0) rfl dX11_tame_46 ?_
        obtain ⟨a5, h8, h⟩ := zbind h
        refine z_gN hC fs_X11_47 h8 dX11_tame_47 ?_
        refine z_iconst 1 (by decide) dX11_tame_50 ?_
        refine z_iconst 1 (by decide) dX11_tame_51 ?_
        obtain ⟨_, hb, h⟩ := zbind h
        obtain ⟨fs, hb⟩ := zob_some hb
        obtain ⟨q3, h9, h⟩ := zbind h
        refine z_callV (av := [.int 1, .int 1]) (rest := []) hC zcl_0 hb (s_X0_seek hC h9) lk_X11_181 im_X0_seek se_X0_seek cd_X0_seek ⟨by decide, by decide, (Nat.le_of_ble_eq_true rfl)⟩ dX11_tame_52 ?_
        clear hb fs
        refine zeqS (stk2 := [.int q3.1]) rfl ?_
        refine z_if_eq (tgt := 69) dX11_tame_55 (by decide) (fun c4 => ?_) (fun c4 => ?_)
        · have h := zift h c4
          refine z_iconst (-1) (by decide) dX11_tame_69 ?_
          refine zweak [false, false, false] ?_
          exact s_X11_tame_b70 hC _ _ _ h
        · have h := zife h c4
          refine z_aload_n (x := x0) rfl dX11_tame_58 ?_
          obtain ⟨a6, h10, h⟩ := zbind h
          refine z_gN hC fs_X11_47 h10 dX11_tame_59 ?_
          refine z_iload_n (x := x2) rfl dX11_tame_62 ?_
          obtain ⟨_, hb, h⟩ := zbind h
          obtain ⟨fs, hb⟩ := zob_some hb
          obtain ⟨q4, h11, h⟩ := zbind h
          refine z_callV (av := [.int x2]) (rest := []) hC zcl_0 hb (s_X0_shortest hC h11) lk_X11_184 im_X0_shortest se_X0_shortest cd_X0_shortest ⟨by decide, by decide, (Nat.le_of_ble_eq_true rfl)⟩ dX11_tame_63 ?_
          clear hb fs
          refine zeqS (stk2 := [.int q4.1]) rfl ?_
          refine z_goto (tgt := 70) dX11_tame_66 (by decide) ?_
          refine zweak [false, false, false] ?_
          exact s_X11_tame_b70 hC _ _ _ h
      · have h := zife h c3
        refine zweak [true, false, false] ?_
        exact s_X11_tame_b20 hC _ _ _ h
