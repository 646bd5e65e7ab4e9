def f_X4_init (x0 : Nat) (M : zMe) : Option zMe :=
  (znI M .int 320).bind fun M1 =>
  (zpR M1 x0 [4] 0 (some M.2.1)).bind fun M2 =>
  (znI M2 .int 672).bind fun M3 =>
  (zpR M3 x0 [4] 1 (some M2.2.1)).bind fun M4 =>
  (znI M4 .int 5).bind fun M5 =>
  (zpR M5 x0 [4] 2 (some M4.2.1)).bind fun M6 =>
  (zpI M6 x0 [4] 3 0).bind fun M7 =>
  some M7
set_option maxHeartbeats 4000000 in
set_option maxRecDepth 100000 in
theorem s_X4_init {g : zG} (hC : zC g) {x0 : Nat} {M : zMe} {q : zMe} (h : f_X4_init x0 M = some q) : zMet g yX4_init mX4_init [.ref x0] M none q := by
  refine z_entry (by decide +kernel) rfl rfl (Nat.le_of_ble_eq_true rfl) ?_
  refine zeqL (L2 := [.ref x0]) rfl ?_
  unfold f_X4_init at h
  refine z_aload_n (x := x0) rfl dX4_init_0 ?_
  refine z_objInit hC dX4_init_1 lk_X4_3 im_obj cd_obj (by decide) (Nat.le_of_ble_eq_true rfl) ?_
  refine z_aload_n (x := x0) rfl dX4_init_4 ?_
  refine z_sipush 320 (by decide) dX4_init_5 ?_
  obtain ⟨M1, h1, h⟩ := zbind h
  refine z_nI hC (at0 := .int) rfl rfl (by decide) ac_int h1 dX4_init_8 ?_
  obtain ⟨M2, h2, h⟩ := zbind h
  refine z_pRa hC fp_X4_9 h2 dX4_init_10 ?_
  refine z_aload_n (x := x0) rfl dX4_init_13 ?_
  refine z_sipush 672 (by decide) dX4_init_14 ?_
  obtain ⟨M3, h3, h⟩ := zbind h
  refine z_nI hC (at0 := .int) rfl rfl (by decide) ac_int h3 dX4_init_17 ?_
  obtain ⟨M4, h4, h⟩ := zbind h
  refine z_pRa hC fp_X4_15 h4 dX4_init_19 ?_
  refine z_aload_n (x := x0) rfl dX4_init_22 ?_
  refine z_iconst 5 (by decide) dX4_init_23 ?_
  obtain ⟨M5, h5, h⟩ := zbind h
  refine z_nI hC (at0 := .int) rfl rfl (by decide) ac_int h5 dX4_init_24 ?_
  obtain ⟨M6, h6, h⟩ := zbind h
  refine z_pRa hC fp_X4_18 h6 dX4_init_26 ?_
  refine z_aload_n (x := x0) rfl dX4_init_29 ?_
  refine z_iconst 0 (by decide) dX4_init_30 ?_
  obtain ⟨M7, h7, h⟩ := zbind h
  refine z_pI hC fp_X4_21 h7 dX4_init_31 ?_
  obtain rfl := Option.some.inj h
  exact z_ret rfl dX4_init_34
def f_X8_init (x0 : Nat) (M : zMe) : Option zMe :=
  (znL M 64).bind fun M1 =>
  (zpR M1 x0 [8] 0 (some M.2.1)).bind fun M2 =>
  (zpI M2 x0 [8] 1 0).bind fun M3 =>
  (zpL M3 x0 [8] 2 (0 : Int64)).bind fun M4 =>
  some M4
set_option maxHeartbeats 4000000 in
set_option maxRecDepth 100000 in
theorem s_X8_init {g : zG} (hC : zC g) {x0 : Nat} {M : zMe} {q : zMe} (h : f_X8_init x0 M = some q) : zMet g yX8_init mX8_init [.ref x0] M none q := by
  refine z_entry (by decide +kernel) rfl rfl (Nat.le_of_ble_eq_true rfl) ?_
  refine zeqL (L2 := [.ref x0]) rfl ?_
  unfold f_X8_init at h
  refine z_aload_n (x := x0) rfl dX8_init_0 ?_
  refine z_objInit hC dX8_init_1 lk_X8_3 im_obj cd_obj (by decide) (Nat.le_of_ble_eq_true rfl) ?_
  refine z_aload_n (x := x0) rfl dX8_init_4 ?_
  refine z_bipush 64 (by decide) dX8_init_5 ?_
  obtain ⟨M1, h1, h⟩ := zbind h
  refine z_nL hC ac_long h1 dX8_init_7 ?_
  obtain ⟨M2, h2, h⟩ := zbind h
  refine z_pRa hC fp_X8_9 h2 dX8_init_9 ?_
  refine z_aload_n (x := x0) rfl dX8_init_12 ?_
  refine z_iconst 0 (by decide) dX8_init_13 ?_
  obtain ⟨M3, h3, h⟩ := zbind h
  refine z_pI hC fp_X8_13 h3 dX8_init_14 ?_
  refine z_aload_n (x := x0) rfl dX8_init_17 ?_
  refine z_lconst (0 : Int64) (by decide) dX8_init_18 ?_
  obtain ⟨M4, h4, h⟩ := zbind h
  refine z_pL hC fp_X8_17 h4 dX8_init_19 ?_
  obtain rfl := Option.some.inj h
  exact z_ret rfl dX8_init_22
def f_X0_init (x0 : Nat) (M : zMe) : Option zMe :=
  (znR M "OneWhistle$Lane" 3).bind fun M1 =>
  zlet (zAdd M1 (.inr (4, [.null, .null, .null, .int 0])) 4) fun M2 =>
  (f_X4_init M1.2.1 M2).bind fun q1 =>
  (zwR q1 M.2.1 0 (some M1.2.1) "OneWhistle$Lane" [4]).bind fun M3 =>
  zlet (zAdd M3 (.inr (4, [.null, .null, .null, .int 0])) 4) fun M4 =>
  (f_X4_init M3.2.1 M4).bind fun q2 =>
  (zwR q2 M.2.1 1 (some M3.2.1) "OneWhistle$Lane" [4]).bind fun M5 =>
  zlet (zAdd M5 (.inr (4, [.null, .null, .null, .int 0])) 4) fun M6 =>
  (f_X4_init M5.2.1 M6).bind fun q3 =>
  (zwR q3 M.2.1 2 (some M5.2.1) "OneWhistle$Lane" [4]).bind fun M7 =>
  (zpR M7 x0 [0] 0 (some M.2.1)).bind fun M8 =>
  zlet (zAdd M8 (.inr (8, [.null, .int 0, .long 0])) 3) fun M9 =>
  (f_X8_init M8.2.1 M9).bind fun q4 =>
  (zpR q4 x0 [0] 1 (some M8.2.1)).bind fun M10 =>
  (zpI M10 x0 [0] 2 0).bind fun M11 =>
  (zpI M11 x0 [0] 3 0).bind fun M12 =>
  (zpZ M12 x0 [0] 4 0).bind fun M13 =>
  (znL M13 32).bind fun M14 =>
  (zpR M14 x0 [0] 5 (some M13.2.1)).bind fun M15 =>
  (znL M15 32).bind fun M16 =>
  (zpR M16 x0 [0] 6 (some M15.2.1)).bind fun M17 =>
  (zpI M17 x0 [0] 7 0).bind fun M18 =>
  (zpI M18 x0 [0] 8 1).bind fun M19 =>
  (zpI M19 x0 [0] 9 1048576).bind fun M20 =>
  (zpI M20 x0 [0] 10 0).bind fun M21 =>
  some M21
set_option maxHeartbeats 4000000 in
set_option maxRecDepth 100000 in
theorem s_X0_init {g : zG} (hC : zC g) {x0 : Nat} {M : zMe} {q : zMe} (h : f_X0_init x0 M = some q) : zMet g yX0_init mX0_init [.ref x0] M none q := by
  refine z_entry (by decide +kernel) rfl rfl (Nat.le_of_ble_eq_true rfl) ?_
  refine zeqL (L2 := [.ref x0]) rfl ?_
  unfold f_X0_init at h
  refine z_aload_n (x := x0) rfl dX0_init_0 ?_
  refine z_objInit hC dX0_init_1 lk_X0_3 im_obj cd_obj (by decide) (Nat.le_of_ble_eq_true rfl) ?_
  refine z_aload_n (x := x0) rfl dX0_init_4 ?_
  refine z_iconst 3 (by decide) dX0_init_5 ?_
  obtain ⟨M1, h1, h⟩ := zbind h
  refine z_nR hC cl_X0_9 ao_4 h1 dX0_init_6 ?_
  refine z_dup rfl dX0_init_9 ?_
  refine z_iconst 0 (by decide) dX0_init_10 ?_
  obtain ⟨M2, hm⟩ : ∃ z, z = zAdd M1 (.inr (4, [.null, .null, .null, .int 0])) 4 := ⟨_, rfl⟩
  have h := zlet_use h hm
  refine z_nO hC zcl_4 (fs := [.null, .null, .null, .int 0]) cl_X0_9 ins_4 ini_4 rfl df_4 hm dX0_init_11 ?_
  refine z_dup rfl dX0_init_14 ?_
  obtain ⟨q1, h2, h⟩ := zbind h
  refine z_callIN (av := []) (rest := [.ref M1.2.1, .int 0, .ref M.2.1, .ref M.2.1, .ref x0]) hC (s_X4_init hC h2) ln_X0_11 im_X4_init rfl rfl cd_X4_init ⟨by decide, by decide, (Nat.le_of_ble_eq_true rfl)⟩ dX0_init_15 ?_
  refine zeqS (stk2 := [.ref M1.2.1, .int 0, .ref M.2.1, .ref M.2.1, .ref x0]) rfl ?_
  obtain ⟨M3, h3, h⟩ := zbind h
  refine z_wR hC ca_4 h3 dX0_init_18 ?_
  refine z_dup rfl dX0_init_19 ?_
  refine z_iconst 1 (by decide) dX0_init_20 ?_
  obtain ⟨M4, hm⟩ : ∃ z, z = zAdd M3 (.inr (4, [.null, .null, .null, .int 0])) 4 := ⟨_, rfl⟩
  have h := zlet_use h hm
  refine z_nO hC zcl_4 (fs := [.null, .null, .null, .int 0]) cl_X0_9 ins_4 ini_4 rfl df_4 hm dX0_init_21 ?_
  refine z_dup rfl dX0_init_24 ?_
  obtain ⟨q2, h4, h⟩ := zbind h
  refine z_callIN (av := []) (rest := [.ref M3.2.1, .int 1, .ref M.2.1, .ref M.2.1, .ref x0]) hC (s_X4_init hC h4) ln_X0_11 im_X4_init rfl rfl cd_X4_init ⟨by decide, by decide, (Nat.le_of_ble_eq_true rfl)⟩ dX0_init_25 ?_
  refine zeqS (stk2 := [.ref M3.2.1, .int 1, .ref M.2.1, .ref M.2.1, .ref x0]) rfl ?_
  obtain ⟨M5, h5, h⟩ := zbind h
  refine z_wR hC ca_4 h5 dX0_init_28 ?_
  refine z_dup rfl dX0_init_29 ?_
  refine z_iconst 2 (by decide) dX0_init_30 ?_
  obtain ⟨M6, hm⟩ : ∃ z, z = zAdd M5 (.inr (4, [.null, .null, .null, .int 0])) 4 := ⟨_, rfl⟩
  have h := zlet_use h hm
  refine z_nO hC zcl_4 (fs := [.null, .null, .null, .int 0]) cl_X0_9 ins_4 ini_4 rfl df_4 hm dX0_init_31 ?_
  refine z_dup rfl dX0_init_34 ?_
  obtain ⟨q3, h6, h⟩ := zbind h
  refine z_callIN (av := []) (rest := [.ref M5.2.1, .int 2, .ref M.2.1, .ref M.2.1, .ref x0]) hC (s_X4_init hC h6) ln_X0_11 im_X4_init rfl rfl cd_X4_init ⟨by decide, by decide, (Nat.le_of_ble_eq_true rfl)⟩ dX0_init_35 ?_
  refine zeqS (stk2 := [.ref M5.2.1, .int 2, .ref M.2.1, .ref M.2.1, .ref x0]) rfl ?_
  obtain ⟨M7, h7, h⟩ := zbind h
  refine z_wR hC ca_4 h7 dX0_init_38 ?_
  obtain ⟨M8, h8, h⟩ := zbind h
  refine z_pRa hC fp_X0_12 h8 dX0_init_39 ?_
  refine z_aload_n (x := x0) rfl dX0_init_42 ?_
  obtain ⟨M9, hm⟩ : ∃ z, z = zAdd M8 (.inr (8, [.null, .int 0, .long 0])) 3 := ⟨_, rfl⟩
  have h := zlet_use h hm
  refine z_nO hC zcl_8 (fs := [.null, .int 0, .long 0]) cl_X0_18 ins_8 ini_8 rfl df_8 hm dX0_init_43 ?_
  refine z_dup rfl dX0_init_46 ?_
  obtain ⟨q4, h9, h⟩ := zbind h
  refine z_callIN (av := []) (rest := [.ref M8.2.1, .ref x0]) hC (s_X8_init hC h9) ln_X0_20 im_X8_init rfl rfl cd_X8_init ⟨by decide, by decide, (Nat.le_of_ble_eq_true rfl)⟩ dX0_init_47 ?_
  refine zeqS (stk2 := [.ref M8.2.1, .ref x0]) rfl ?_
  obtain ⟨M10, h10, h⟩ := zbind h
  refine z_pRo hC fp_X0_21 h10 dX0_init_50 ?_
  refine z_aload_n (x := x0) rfl dX0_init_53 ?_
  refine z_iconst 0 (by decide) dX0_init_54 ?_
  obtain ⟨M11, h11, h⟩ := zbind h
  refine z_pI hC fp_X0_25 h11 dX0_init_55 ?_
  refine z_aload_n (x := x0) rfl dX0_init_58 ?_
  refine z_iconst 0 (by decide) dX0_init_59 ?_
  obtain ⟨M12, h12, h⟩ := zbind h
  refine z_pI hC fp_X0_29 h12 dX0_init_60 ?_
  refine z_aload_n (x := x0) rfl dX0_init_63 ?_
  refine z_iconst 0 (by decide) dX0_init_64 ?_
  obtain ⟨M13, h13, h⟩ := zbind h
  refine z_pZ hC fp_X0_32 h13 dX0_init_65 ?_
  refine z_aload_n (x := x0) rfl dX0_init_68 ?_
  refine z_bipush 32 (by decide) dX0_init_69 ?_
  obtain ⟨M14, h14, h⟩ := zbind h
  refine z_nL hC ac_long h14 dX0_init_71 ?_
  obtain ⟨M15, h15, h⟩ := zbind h
  refine z_pRa hC fp_X0_36 h15 dX0_init_73 ?_
  refine z_aload_n (x := x0) rfl dX0_init_76 ?_
  refine z_bipush 32 (by decide) dX0_init_77 ?_
  obtain ⟨M16, h16, h⟩ := zbind h
  refine z_nL hC ac_long h16 dX0_init_79 ?_
  obtain ⟨M17, h17, h⟩ := zbind h
  refine z_pRa hC fp_X0_40 h17 dX0_init_81 ?_
  refine z_aload_n (x := x0) rfl dX0_init_84 ?_
  refine z_iconst 0 (by decide) dX0_init_85 ?_
  obtain ⟨M18, h18, h⟩ := zbind h
  refine z_pI hC fp_X0_43 h18 dX0_init_86 ?_
  refine z_aload_n (x := x0) rfl dX0_init_89 ?_
  refine z_iconst 1 (by decide) dX0_init_90 ?_
  obtain ⟨M19, h19, h⟩ := zbind h
  refine z_pI hC fp_X0_46 h19 dX0_init_91 ?_
  refine z_aload_n (x := x0) rfl dX0_init_94 ?_
  refine z_ldc hC dX0_init_95 kc_X0_49 ?_
  obtain ⟨M20, h20, h⟩ := zbind h
  refine z_pI hC fp_X0_50 h20 dX0_init_97 ?_
  refine z_aload_n (x := x0) rfl dX0_init_100 ?_
  refine z_iconst 0 (by decide) dX0_init_101 ?_
  obtain ⟨M21, h21, h⟩ := zbind h
  refine z_pI hC fp_X0_53 h21 dX0_init_102 ?_
  obtain rfl := Option.some.inj h
  exact z_ret rfl dX0_init_105
def f_X2_dogAt_b22  (y0 : Option Nat) (M : zMe) : Option (Option Nat × zMe) :=
  some (y0, M)
set_option maxHeartbeats 4000000 in
set_option maxRecDepth 100000 in
theorem s_X2_dogAt_b22 {g : zG} (hC : zC g)  (y0 : Option Nat) (M : zMe) (q : (Option Nat × zMe)) (h : f_X2_dogAt_b22  y0 M = some q) : zW g mX2_dogAt 22 [.retAddr 0, .retAddr 0] [va_rf y0] M (some (va_rf q.1)) q.2 := by
  unfold f_X2_dogAt_b22 at h
  obtain rfl := Option.some.inj h
  exact z_aret (x := y0) rfl (Or.inl ⟨_, rfl⟩) dX2_dogAt_22
def f_X2_dogAt_b21   (M : zMe) : Option (Option Nat × zMe) :=
  f_X2_dogAt_b22 (none : Option Nat) M
set_option maxHeartbeats 4000000 in
set_option maxRecDepth 100000 in
theorem s_X2_dogAt_b21 {g : zG} (hC : zC g)   (M : zMe) (q : (Option Nat × zMe)) (h : f_X2_dogAt_b21   M = some q) : zW g mX2_dogAt 21 [.retAddr 0, .retAddr 0] [] M (some (va_rf q.1)) q.2 := by
  unfold f_X2_dogAt_b21 at h
  refine z_null dX2_dogAt_21 ?_
  exact s_X2_dogAt_b22 hC _ _ _ h
def f_X2_dogAt (x0 : Nat) (x1 : Int32) (M : zMe) : Option (Option Nat × zMe) :=
  if x1 < 0 then (
    f_X2_dogAt_b21 M)
  else (
    (zgI M x0 [2] 6).bind fun v1 =>
    if v1 ≤ x1 then (
      f_X2_dogAt_b21 M)
    else (
      (zgN M x0 [2] 7).bind fun a1 =>
      (zrR M a1 x1).bind fun o1 =>
      f_X2_dogAt_b22 o1 M))
set_option maxHeartbeats 4000000 in
set_option maxRecDepth 100000 in
theorem s_X2_dogAt {g : zG} (hC : zC g) {x0 : Nat} {x1 : Int32} {M : zMe} {q : (Option Nat × zMe)} (h : f_X2_dogAt x0 x1 M = some q) : zMet g yX2_dogAt mX2_dogAt [.ref x0, .int x1] M (some (va_rf q.1)) q.2 := by
  refine z_entry (by decide +kernel) rfl rfl (Nat.le_of_ble_eq_true rfl) ?_
  refine zeqL (L2 := [.ref x0, .int x1]) rfl ?_
  unfold f_X2_dogAt at h
  refine z_iload_n (x := x1) rfl dX2_dogAt_0 ?_
  refine z_if_lt (tgt := 21) dX2_dogAt_1 (by decide) (fun c1 => ?_) (fun c1 => ?_)
  · have h := zift h c1
    refine zweak [false, false] ?_
    exact s_X2_dogAt_b21 hC _ _ h
  · have h := zife h c1
    refine z_iload_n (x := x1) rfl dX2_dogAt_4 ?_
    refine z_aload_n (x := x0) rfl dX2_dogAt_5 ?_
    obtain ⟨v1, h1, h⟩ := zbind h
    refine z_gI hC fs_X2_30 h1 dX2_dogAt_6 ?_
    refine z_icmp_ge (tgt := 21) dX2_dogAt_9 (by decide) (fun c2 => ?_) (fun c2 => ?_)
    · have h := zift h c2
      refine zweak [false, false] ?_
      exact s_X2_dogAt_b21 hC _ _ h
    · have h := zife h c2
      refine z_aload_n (x := x0) rfl dX2_dogAt_12 ?_
      obtain ⟨a1, h2, h⟩ := zbind h
      refine z_gN hC fs_X2_35 h2 dX2_dogAt_13 ?_
      refine z_iload_n (x := x1) rfl dX2_dogAt_16 ?_
      obtain ⟨o1, h3, h⟩ := zbind h
      refine z_rR h3 dX2_dogAt_17 ?_
      refine z_goto (tgt := 22) dX2_dogAt_18 (by decide) ?_
      refine zweak [false, false] ?_
      exact s_X2_dogAt_b22 hC _ _ _ h
def f_X11_holds_b13  (y0 : Int32) (M : zMe) : Option (Int32 × zMe) :=
  if y0 = 0 ∨ y0 = 1 then some (y0, M) else none
set_option maxHeartbeats 4000000 in
set_option maxRecDepth 100000 in
theorem s_X11_holds_b13 {g : zG} (hC : zC g)  (y0 : Int32) (M : zMe) (q : (Int32 × zMe)) (h : f_X11_holds_b13  y0 M = some q) : zW g mX11_holds 13 [.retAddr 0, .retAddr 0] [.int y0] M (some (.int q.1)) q.2 := by
  unfold f_X11_holds_b13 at h
  obtain ⟨hz, h⟩ := zifs h
  obtain rfl := Option.some.inj h
  exact z_iret ⟨.boolean, rfl, zbo hz⟩ dX11_holds_13
def f_X11_holds (x0 : Int32) (x1 : Int32) (M : zMe) : Option (Int32 × zMe) :=
  if ((x0 >>> (x1 &&& 31)) &&& 1) = 0 then (
    f_X11_holds_b13 0 M)
  else (
    f_X11_holds_b13 1 M)
set_option maxHeartbeats 4000000 in
set_option maxRecDepth 100000 in
theorem s_X11_holds {g : zG} (hC : zC g) {x0 : Int32} {x1 : Int32} {M : zMe} {q : (Int32 × zMe)} (h : f_X11_holds x0 x1 M = some q) : zMet g yX11_holds mX11_holds [.int x0, .int x1] M (some (.int q.1)) q.2 := by
  refine z_entry (by decide +kernel) rfl rfl (Nat.le_of_ble_eq_true rfl) ?_
  refine zeqL (L2 := [.int x0, .int x1]) rfl ?_
  unfold f_X11_holds at h
  refine z_iload_n (x := x0) rfl dX11_holds_0 ?_
  refine z_iload_n (x := x1) rfl dX11_holds_1 ?_
  refine z_ishr dX11_holds_2 ?_
  refine z_iconst 1 (by decide) dX11_holds_3 ?_
  refine z_iand dX11_holds_4 ?_
  refine z_if_eq (tgt := 12) dX11_holds_5 (by decide) (fun c1 => ?_) (fun c1 => ?_)
  · have h := zift h c1
    refine z_iconst 0 (by decide) dX11_holds_12 ?_
    refine zweak [false, false] ?_
    exact s_X11_holds_b13 hC _ _ _ h
  · have h := zife h c1
    refine z_iconst 1 (by decide) dX11_holds_8 ?_
    refine z_goto (tgt := 13) dX11_holds_9 (by decide) ?_
    refine zweak [false, false] ?_
    exact s_X11_holds_b13 hC _ _ _ h
def f_X2_allPlaces (x0 : Nat) (M : zMe) : Option (Int32 × zMe) :=
  (zgI M x0 [2] 0).bind fun v1 =>
  some (((1 : Int32) <<< (v1 &&& 31)) - 1, M)
set_option maxHeartbeats 4000000 in
set_option maxRecDepth 100000 in
theorem s_X2_allPlaces {g : zG} (hC : zC g) {x0 : Nat} {M : zMe} {q : (Int32 × zMe)} (h : f_X2_allPlaces x0 M = some q) : zMet g yX2_allPlaces mX2_allPlaces [.ref x0] M (some (.int q.1)) q.2 := by
  refine z_entry (by decide +kernel) rfl rfl (Nat.le_of_ble_eq_true rfl) ?_
  refine zeqL (L2 := [.ref x0]) rfl ?_
  unfold f_X2_allPlaces at h
  refine z_iconst 1 (by decide) dX2_allPlaces_0 ?_
  refine z_aload_n (x := x0) rfl dX2_allPlaces_1 ?_
  obtain ⟨v1, h1, h⟩ := zbind h
  refine z_gI hC fs_X2_9 h1 dX2_allPlaces_2 ?_
  refine z_ishl dX2_allPlaces_5 ?_
  refine z_iconst 1 (by decide) dX2_allPlaces_6 ?_
  refine z_isub dX2_allPlaces_7 ?_
  obtain rfl := Option.some.inj h
  exact z_iret ⟨.int, rfl, rfl⟩ dX2_allPlaces_8
def f_X4_rowOf (x0 : Int32) (x1 : Int32) (M : zMe) : Option (Int32 × zMe) :=
  some (((x0 * 2) + x1) * 32, M)
set_option maxHeartbeats 4000000 in
set_option maxRecDepth 100000 in
theorem s_X4_rowOf {g : zG} (hC : zC g) {x0 : Int32} {x1 : Int32} {M : zMe} {q : (Int32 × zMe)} (h : f_X4_rowOf x0 x1 M = some q) : zMet g yX4_rowOf mX4_rowOf [.int x0, .int x1] M (some (.int q.1)) q.2 := by
  refine z_entry (by decide +kernel) rfl rfl (Nat.le_of_ble_eq_true rfl) ?_
  refine zeqL (L2 := [.int x0, .int x1]) rfl ?_
  unfold f_X4_rowOf at h
  refine z_iload_n (x := x0) rfl dX4_rowOf_0 ?_
  refine z_iconst 2 (by decide) dX4_rowOf_1 ?_
  refine z_imul dX4_rowOf_2 ?_
  refine z_iload_n (x := x1) rfl dX4_rowOf_3 ?_
  refine z_iadd dX4_rowOf_4 ?_
  refine z_bipush 32 (by decide) dX4_rowOf_5 ?_
  refine z_imul dX4_rowOf_7 ?_
  obtain rfl := Option.some.inj h
  exact z_iret ⟨.int, rfl, rfl⟩ dX4_rowOf_8
def f_X5_rowFor_b15  (y0 : Int32) (M : zMe) : Option (Int32 × zMe) :=
  some (y0, M)
set_option maxHeartbeats 4000000 in
set_option maxRecDepth 100000 in
theorem s_X5_rowFor_b15 {g : zG} (hC : zC g)  (y0 : Int32) (M : zMe) (q : (Int32 × zMe)) (h : f_X5_rowFor_b15  y0 M = some q) : zW g mX5_rowFor 15 [.retAddr 0, .retAddr 0, .retAddr 0] [.int y0] M (some (.int q.1)) q.2 := by
  unfold f_X5_rowFor_b15 at h
  obtain rfl := Option.some.inj h
  exact z_iret ⟨.int, rfl, rfl⟩ dX5_rowFor_15
def f_X5_rowFor (x0 : Nat) (x1 : Int32) (x2 : Int32) (M : zMe) : Option (Int32 × zMe) :=
  if x1 = 0 then (
    (zgI M x0 [5, 1, 9, 6, 3] 1).bind fun v1 =>
    f_X5_rowFor_b15 v1 M)
  else (
    (zgI M x0 [5, 1, 9, 6, 3] 2).bind fun v2 =>
    f_X5_rowFor_b15 v2 M)
set_option maxHeartbeats 4000000 in
set_option maxRecDepth 100000 in
theorem s_X5_rowFor {g : zG} (hC : zC g) {x0 : Nat} {x1 : Int32} {x2 : Int32} {M : zMe} {q : (Int32 × zMe)} (h : f_X5_rowFor x0 x1 x2 M = some q) : zMet g yX5_rowFor mX5_rowFor [.ref x0, .int x1, .int x2] M (some (.int q.1)) q.2 := by
  refine z_entry (by decide +kernel) rfl rfl (Nat.le_of_ble_eq_true rfl) ?_
  refine zeqL (L2 := [.ref x0, .int x1, .int x2]) rfl ?_
  unfold f_X5_rowFor at h
  refine z_iload_n (x := x1) rfl dX5_rowFor_0 ?_
  refine z_if_ne (tgt := 11) dX5_rowFor_1 (by decide) (fun c1 => ?_) (fun c1 => ?_)
  · have h := zife h c1
    refine z_aload_n (x := x0) rfl dX5_rowFor_11 ?_
    obtain ⟨v2, h2, h⟩ := zbind h
    refine z_gI hC fs_X5_16 h2 dX5_rowFor_12 ?_
    refine zweak [false, false, false] ?_
    exact s_X5_rowFor_b15 hC _ _ _ h
  · have h := zift h c1
    refine z_aload_n (x := x0) rfl dX5_rowFor_4 ?_
    obtain ⟨v1, h1, h⟩ := zbind h
    refine z_gI hC fs_X5_13 h1 dX5_rowFor_5 ?_
    refine z_goto (tgt := 15) dX5_rowFor_8 (by decide) ?_
    refine zweak [false, false, false] ?_
    exact s_X5_rowFor_b15 hC _ _ _ h
def f_X6_rowFor_b39  (y0 : Int32) (M : zMe) : Option (Int32 × zMe) :=
  some (y0, M)
set_option maxHeartbeats 4000000 in
set_option maxRecDepth 100000 in
theorem s_X6_rowFor_b39 {g : zG} (hC : zC g)  (y0 : Int32) (M : zMe) (q : (Int32 × zMe)) (h : f_X6_rowFor_b39  y0 M = some q) : zW g mX6_rowFor 39 [.retAddr 0, .retAddr 0, .retAddr 0] [.int y0] M (some (.int q.1)) q.2 := by
  unfold f_X6_rowFor_b39 at h
  obtain rfl := Option.some.inj h
  exact z_iret ⟨.int, rfl, rfl⟩ dX6_rowFor_39
def f_X6_rowFor_b23  (y0 : Int32) (M : zMe) : Option (Int32 × zMe) :=
  some (y0, M)
set_option maxHeartbeats 4000000 in
set_option maxRecDepth 100000 in
theorem s_X6_rowFor_b23 {g : zG} (hC : zC g)  (y0 : Int32) (M : zMe) (q : (Int32 × zMe)) (h : f_X6_rowFor_b23  y0 M = some q) : zW g mX6_rowFor 23 [.retAddr 0, .retAddr 0, .retAddr 0] [.int y0] M (some (.int q.1)) q.2 := by
  unfold f_X6_rowFor_b23 at h
  obtain rfl := Option.some.inj h
  exact z_iret ⟨.int, rfl, rfl⟩ dX6_rowFor_23
def f_X6_rowFor (x0 : Nat) (x1 : Int32) (x2 : Int32) (M : zMe) : Option (Int32 × zMe) :=
  (zgI M x0 [6, 3] 5).bind fun v1 =>
  if v1 ≤ x2 then (
    if x1 = 0 then (
      (zgI M x0 [6, 3] 3).bind fun v2 =>
      f_X6_rowFor_b39 v2 M)
    else (
      (zgI M x0 [6, 3] 4).bind fun v3 =>
      f_X6_rowFor_b39 v3 M))
  else (
    if x1 = 0 then (
      (zgI M x0 [6, 3] 1).bind fun v4 =>
      f_X6_rowFor_b23 v4 M)
    else (
      (zgI M x0 [6, 3] 2).bind fun v5 =>
      f_X6_rowFor_b23 v5 M))
set_option maxHeartbeats 4000000 in
set_option maxRecDepth 100000 in
theorem s_X6_rowFor {g : zG} (hC : zC g) {x0 : Nat} {x1 : Int32} {x2 : Int32} {M : zMe} {q : (Int32 × zMe)} (h : f_X6_rowFor x0 x1 x2 M = some q) : zMet g yX6_rowFor mX6_rowFor [.ref x0, .int x1, .int x2] M (some (.int q.1)) q.2 := by
  refine z_entry (by decide +kernel) rfl rfl (Nat.le_of_ble_eq_true rfl) ?_
  refine zeqL (L2 := [.ref x0, .int x1, .int x2]) rfl ?_
  unfold f_X6_rowFor at h
  refine z_iload_n (x := x2) rfl dX6_rowFor_0 ?_
  refine z_aload_n (x := x0) rfl dX6_rowFor_1 ?_
  obtain ⟨v1, h1, h⟩ := zbind h
  refine z_gI hC fs_X6_16 h1 dX6_rowFor_2 ?_
  refine z_icmp_ge (tgt := 24) dX6_rowFor_5 (by decide) (fun c1 => ?_) (fun c1 => ?_)
  · have h := zift h c1
    refine z_iload_n (x := x1) rfl dX6_rowFor_24 ?_
    refine z_if_ne (tgt := 35) dX6_rowFor_25 (by decide) (fun c2 => ?_) (fun c2 => ?_)
    · have h := zife h c2
      refine z_aload_n (x := x0) rfl dX6_rowFor_35 ?_
      obtain ⟨v3, h3, h⟩ := zbind h
      refine z_gI hC fs_X6_13 h3 dX6_rowFor_36 ?_
      refine zweak [false, false, false] ?_
      exact s_X6_rowFor_b39 hC _ _ _ h
    · have h := zift h c2
      refine z_aload_n (x := x0) rfl dX6_rowFor_28 ?_
      obtain ⟨v2, h2, h⟩ := zbind h
      refine z_gI hC fs_X6_7 h2 dX6_rowFor_29 ?_
      refine z_goto (tgt := 39) dX6_rowFor_32 (by decide) ?_
      refine zweak [false, false, false] ?_
      exact s_X6_rowFor_b39 hC _ _ _ h
  · have h := zife h c1
    refine z_iload_n (x := x1) rfl dX6_rowFor_8 ?_
    refine z_if_ne (tgt := 19) dX6_rowFor_9 (by decide) (fun c3 => ?_) (fun c3 => ?_)
    · have h := zife h c3
      refine z_aload_n (x := x0) rfl dX6_rowFor_19 ?_
      obtain ⟨v5, h5, h⟩ := zbind h
      refine z_gI hC fs_X6_22 h5 dX6_rowFor_20 ?_
      refine zweak [false, false, false] ?_
      exact s_X6_rowFor_b23 hC _ _ _ h
    · have h := zift h c3
      refine z_aload_n (x := x0) rfl dX6_rowFor_12 ?_
      obtain ⟨v4, h4, h⟩ := zbind h
      refine z_gI hC fs_X6_19 h4 dX6_rowFor_13 ?_
      refine z_goto (tgt := 23) dX6_rowFor_16 (by decide) ?_
      refine zweak [false, false, false] ?_
      exact s_X6_rowFor_b23 hC _ _ _ h
def fv_X5_rowFor (a : Nat) (x1 : Int32) (x2 : Int32) (M : zMe) : Option (Int32 × zMe) := match M.1 a with
  | some (.inr (ci, _)) =>
    if ci = 5 then f_X5_rowFor a x1 x2 M else if ci = 1 then f_X5_rowFor a x1 x2 M else if ci = 9 then f_X5_rowFor a x1 x2 M else if ci = 6 then f_X6_rowFor a x1 x2 M else if ci = 3 then f_X6_rowFor a x1 x2 M else none
  | _ => none
theorem fv_X5_rowFor_some {a : Nat} {x1 : Int32} {x2 : Int32} {M : zMe} {q : (Int32 × zMe)} (h : fv_X5_rowFor a x1 x2 M = some q) : (∃ fs, M.1 a = some (.inr (5, fs)) ∧ f_X5_rowFor a x1 x2 M = some q) ∨ (∃ fs, M.1 a = some (.inr (1, fs)) ∧ f_X5_rowFor a x1 x2 M = some q) ∨ (∃ fs, M.1 a = some (.inr (9, fs)) ∧ f_X5_rowFor a x1 x2 M = some q) ∨ (∃ fs, M.1 a = some (.inr (6, fs)) ∧ f_X6_rowFor a x1 x2 M = some q) ∨ (∃ fs, M.1 a = some (.inr (3, fs)) ∧ f_X6_rowFor a x1 x2 M = some q) := by
  unfold fv_X5_rowFor at h
  split at h
  next ci fs e =>
    by_cases c5 : ci = 5
    · exact Or.inl ⟨fs, by rw [e, c5], zift h c5⟩
    have h := zife h c5
    by_cases c1 : ci = 1
    · exact Or.inr (Or.inl ⟨fs, by rw [e, c1], zift h c1⟩)
    have h := zife h c1
    by_cases c9 : ci = 9
    · exact Or.inr (Or.inr (Or.inl ⟨fs, by rw [e, c9], zift h c9⟩))
    have h := zife h c9
    by_cases c6 : ci = 6
    · exact Or.inr (Or.inr (Or.inr (Or.inl ⟨fs, by rw [e, c6], zift h c6⟩)))
    have h := zife h c6
    by_cases c3 : ci = 3
    · exact Or.inr (Or.inr (Or.inr (Or.inr (⟨fs, by rw [e, c3], zift h c3⟩))))
    have h := zife h c3
    cases h
  next => cases h
theorem up_X5_23_1 : zUp RX5 23 RX1 "OneWhistle$Plain" ⟨"OneWhistle$Plain", "rowFor", "(II)I"⟩ yX5_rowFor := ⟨by decide +kernel, by decide +kernel, Or.inr ⟨by decide +kernel, _, _, _, cd_X5_rowFor.1⟩, by decide +kernel, by decide +kernel, ⟨by decide +kernel, by decide +kernel⟩, rfl⟩
theorem up_X5_23_9 : zUp RX5 23 RX9 "OneWhistle$Plain" ⟨"OneWhistle$Plain", "rowFor", "(II)I"⟩ yX5_rowFor := ⟨by decide +kernel, by decide +kernel, Or.inr ⟨by decide +kernel, _, _, _, cd_X5_rowFor.1⟩, by decide +kernel, by decide +kernel, ⟨by decide +kernel, by decide +kernel⟩, rfl⟩
theorem up_X5_23_6 : zUp RX5 23 RX6 "OneWhistle$Plain" ⟨"OneWhistle$Plain", "rowFor", "(II)I"⟩ yX6_rowFor := ⟨by decide +kernel, by decide +kernel, Or.inr ⟨by decide +kernel, _, _, _, cd_X5_rowFor.1⟩, by decide +kernel, by decide +kernel, ⟨by decide +kernel, by decide +kernel⟩, rfl⟩
theorem up_X5_23_3 : zUp RX5 23 RX3 "OneWhistle$Plain" ⟨"OneWhistle$Plain", "rowFor", "(II)I"⟩ yX6_rowFor := ⟨by decide +kernel, by decide +kernel, Or.inr ⟨by decide +kernel, _, _, _, cd_X5_rowFor.1⟩, by decide +kernel, by decide +kernel, ⟨by decide +kernel, by decide +kernel⟩, rfl⟩
theorem cv_X5_23 {g : zG} {t : zM} {pc : Nat} {L rest : List Value} {M M2 : zMe} {rv : Option Value} {a : Nat} {x1 : Int32} {x2 : Int32} {q : (Int32 × zMe)} (hC : zC g) (h : fv_X5_rowFor a x1 x2 M = some q) (hfit : t.1 = RX5 ∧ (mX5_rowFor.2.2.2.2.2.1 + 1 ≤ t.2.2.2.2.2.1 ∧ 8 + (mX5_rowFor.2.2.1 + 11) + mX5_rowFor.2.2.2.2.2.2 ≤ t.2.2.2.2.2.2) ∧ (mX6_rowFor.2.2.2.2.2.1 + 1 ≤ t.2.2.2.2.2.1 ∧ 8 + (mX6_rowFor.2.2.1 + 11) + mX6_rowFor.2.2.2.2.2.2 ≤ t.2.2.2.2.2.2)) (hr : (rest.map fun v => v.category).sum ≤ 8) (hd : decode t.2.1 pc = .ok (.invokevirtual 23, 3)) (kk : zW g t (pc + 3) L ((some (.int q.1)).toList ++ rest) q.2 rv M2) : zW g t pc L (([.int x1, .int x2] : List Value).reverse ++ .ref a :: rest) M rv M2 := by
  obtain ⟨ht, w_X5_rowFor, w_X6_rowFor⟩ := hfit
  rcases fv_X5_rowFor_some h with ⟨fs, hb, h⟩ | ⟨fs, hb, h⟩ | ⟨fs, hb, h⟩ | ⟨fs, hb, h⟩ | ⟨fs, hb, h⟩
  · exact z_callV hC zcl_5 hb (s_X5_rowFor hC h) (by rw [ht]; exact lk_X5_23) im_X5_rowFor se_X5_rowFor cd_X5_rowFor ⟨w_X5_rowFor.1, w_X5_rowFor.2, hr⟩ hd kk
  · exact z_callU hC zcl_1 hb (s_X5_rowFor hC h) (by rw [ht]; exact up_X5_23_1) cd_X5_rowFor ⟨w_X5_rowFor.1, w_X5_rowFor.2, hr⟩ hd kk
  · exact z_callU hC zcl_9 hb (s_X5_rowFor hC h) (by rw [ht]; exact up_X5_23_9) cd_X5_rowFor ⟨w_X5_rowFor.1, w_X5_rowFor.2, hr⟩ hd kk
  · exact z_callU hC zcl_6 hb (s_X6_rowFor hC h) (by rw [ht]; exact up_X5_23_6) cd_X6_rowFor ⟨w_X6_rowFor.1, w_X6_rowFor.2, hr⟩ hd kk
  · exact z_callU hC zcl_3 hb (s_X6_rowFor hC h) (by rw [ht]; exact up_X5_23_3) cd_X6_rowFor ⟨w_X6_rowFor.1, w_X6_rowFor.2, hr⟩ hd kk
def f_X5_byRows_b31  (y0 : Int32) (M : zMe) : Option (Int32 × zMe) :=
  some (y0, M)
set_option maxHeartbeats 4000000 in
set_option maxRecDepth 100000 in
theorem s_X5_byRows_b31 {g : zG} (hC : zC g)  (y0 : Int32) (M : zMe) (q : (Int32 × zMe)) (h : f_X5_byRows_b31  y0 M = some q) : zW g mX5_byRows 31 [.retAddr 0, .retAddr 0, .retAddr 0, .retAddr 0, .retAddr 0, .retAddr 0] [.int y0] M (some (.int q.1)) q.2 := by
  unfold f_X5_byRows_b31 at h
  obtain rfl := Option.some.inj h
  exact z_iret ⟨.int, rfl, rfl⟩ dX5_byRows_31
def f_X5_byRows (x0 : Nat) (x1 : Int32) (x2 : Int32) (x3 : Int32) (x4 : Int32) (M : zMe) : Option (Int32 × zMe) :=
  (fv_X5_rowFor x0 x2 x3 M).bind fun q1 =>
  zlet ((q1.1 >>> ((3 * x1) &&& 31)) &&& 7 : Int32) fun v1 =>
  (f_X11_holds x4 v1 q1.2).bind fun q2 =>
  if q2.1 = 0 then (
    f_X5_byRows_b31 v1 q2.2)
  else (
    f_X5_byRows_b31 x1 q2.2)
set_option maxHeartbeats 4000000 in
set_option maxRecDepth 100000 in
theorem s_X5_byRows {g : zG} (hC : zC g) {x0 : Nat} {x1 : Int32} {x2 : Int32} {x3 : Int32} {x4 : Int32} {M : zMe} {q : (Int32 × zMe)} (h : f_X5_byRows x0 x1 x2 x3 x4 M = some q) : zMet g yX5_byRows mX5_byRows [.ref x0, .int x1, .int x2, .int x3, .int x4] M (some (.int q.1)) q.2 := by
  refine z_entry (by decide +kernel) rfl rfl (Nat.le_of_ble_eq_true rfl) ?_
  refine zeqL (L2 := [.ref x0, .int x1, .int x2, .int x3, .int x4, .retAddr 0]) rfl ?_
  unfold f_X5_byRows at h
  refine z_aload_n (x := x0) rfl dX5_byRows_0 ?_
  refine z_iload_n (x := x2) rfl dX5_byRows_1 ?_
  refine z_iload_n (x := x3) rfl dX5_byRows_2 ?_
  obtain ⟨q1, h1, h⟩ := zbind h
  refine cv_X5_23 (rest := []) hC h1 ⟨rfl, ⟨by decide, by decide⟩, ⟨by decide, by decide⟩⟩ (Nat.le_of_ble_eq_true rfl) dX5_byRows_3 ?_
  refine zeqS (stk2 := [.int q1.1]) rfl ?_
  refine z_iconst 3 (by decide) dX5_byRows_6 ?_
  refine z_iload_n (x := x1) rfl dX5_byRows_7 ?_
  refine z_imul dX5_byRows_8 ?_
  refine z_ishr dX5_byRows_9 ?_
  refine z_bipush 7 (by decide) dX5_byRows_10 ?_
  refine z_iand dX5_byRows_12 ?_
  refine z_nameI (fun v1 hv => ?_)
  have h := zlet_use h hv
  clear hv
  refine z_istore dX5_byRows_13 (by decide) ?_
  refine zeqL (L2 := [.ref x0, .int x1, .int x2, .int x3, .int x4, .int v1]) rfl ?_
  refine z_iload (x := x4) rfl dX5_byRows_15 ?_
  refine z_iload (x := v1) rfl dX5_byRows_17 ?_
  obtain ⟨q2, h2, h⟩ := zbind h
  refine z_callSN (av := [.int x4, .int v1]) (rest := []) hC (s_X11_holds hC h2) ln_X5_27 st_X11_holds cd_X11_holds ⟨by decide, by decide, (Nat.le_of_ble_eq_true rfl)⟩ dX5_byRows_19 ?_
  refine zeqS (stk2 := [.int q2.1]) rfl ?_
  refine z_if_eq (tgt := 29) dX5_byRows_22 (by decide) (fun c1 => ?_) (fun c1 => ?_)
  · have h := zift h c1
    refine z_iload (x := v1) rfl dX5_byRows_29 ?_
    refine zweak [false, false, false, false, false, false] ?_
    exact s_X5_byRows_b31 hC _ _ _ h
  · have h := zife h c1
    refine z_iload_n (x := x1) rfl dX5_byRows_25 ?_
    refine z_goto (tgt := 31) dX5_byRows_26 (by decide) ?_
    refine zweak [false, false, false, false, false, false] ?_
    exact s_X5_byRows_b31 hC _ _ _ h
def fv_X5_byRows (a : Nat) (x1 : Int32) (x2 : Int32) (x3 : Int32) (x4 : Int32) (M : zMe) : Option (Int32 × zMe) := match M.1 a with
  | some (.inr (ci, _)) =>
    if ci = 5 then f_X5_byRows a x1 x2 x3 x4 M else if ci = 1 then f_X5_byRows a x1 x2 x3 x4 M else if ci = 9 then f_X5_byRows a x1 x2 x3 x4 M else if ci = 6 then f_X5_byRows a x1 x2 x3 x4 M else if ci = 3 then f_X5_byRows a x1 x2 x3 x4 M else none
  | _ => none
theorem fv_X5_byRows_some {a : Nat} {x1 : Int32} {x2 : Int32} {x3 : Int32} {x4 : Int32} {M : zMe} {q : (Int32 × zMe)} (h : fv_X5_byRows a x1 x2 x3 x4 M = some q) : (∃ fs, M.1 a = some (.inr (5, fs)) ∧ f_X5_byRows a x1 x2 x3 x4 M = some q) ∨ (∃ fs, M.1 a = some (.inr (1, fs)) ∧ f_X5_byRows a x1 x2 x3 x4 M = some q) ∨ (∃ fs, M.1 a = some (.inr (9, fs)) ∧ f_X5_byRows a x1 x2 x3 x4 M = some q) ∨ (∃ fs, M.1 a = some (.inr (6, fs)) ∧ f_X5_byRows a x1 x2 x3 x4 M = some q) ∨ (∃ fs, M.1 a = some (.inr (3, fs)) ∧ f_X5_byRows a x1 x2 x3 x4 M = some q) := by
  unfold fv_X5_byRows at h
  split at h
  next ci fs e =>
    by_cases c5 : ci = 5
    · exact Or.inl ⟨fs, by rw [e, c5], zift h c5⟩
    have h := zife h c5
    by_cases c1 : ci = 1
    · exact Or.inr (Or.inl ⟨fs, by rw [e, c1], zift h c1⟩)
    have h := zife h c1
    by_cases c9 : ci = 9
    · exact Or.inr (Or.inr (Or.inl ⟨fs, by rw [e, c9], zift h c9⟩))
    have h := zife h c9
    by_cases c6 : ci = 6
    · exact Or.inr (Or.inr (Or.inr (Or.inl ⟨fs, by rw [e, c6], zift h c6⟩)))
    have h := zife h c6
    by_cases c3 : ci = 3
    · exact Or.inr (Or.inr (Or.inr (Or.inr (⟨fs, by rw [e, c3], zift h c3⟩))))
    have h := zife h c3
    cases h
  next => cases h
theorem up_X5_19_1 : zUp RX5 19 RX1 "OneWhistle$Plain" ⟨"OneWhistle$Plain", "byRows", "(IIII)I"⟩ yX5_byRows := ⟨by decide +kernel, by decide +kernel, Or.inl (by decide +kernel), by decide +kernel, by decide +kernel, ⟨by decide +kernel, by decide +kernel⟩, rfl⟩
theorem up_X5_19_9 : zUp RX5 19 RX9 "OneWhistle$Plain" ⟨"OneWhistle$Plain", "byRows", "(IIII)I"⟩ yX5_byRows := ⟨by decide +kernel, by decide +kernel, Or.inl (by decide +kernel), by decide +kernel, by decide +kernel, ⟨by decide +kernel, by decide +kernel⟩, rfl⟩
theorem up_X5_19_6 : zUp RX5 19 RX6 "OneWhistle$Plain" ⟨"OneWhistle$Plain", "byRows", "(IIII)I"⟩ yX5_byRows := ⟨by decide +kernel, by decide +kernel, Or.inl (by decide +kernel), by decide +kernel, by decide +kernel, ⟨by decide +kernel, by decide +kernel⟩, rfl⟩
theorem up_X5_19_3 : zUp RX5 19 RX3 "OneWhistle$Plain" ⟨"OneWhistle$Plain", "byRows", "(IIII)I"⟩ yX5_byRows := ⟨by decide +kernel, by decide +kernel, Or.inl (by decide +kernel), by decide +kernel, by decide +kernel, ⟨by decide +kernel, by decide +kernel⟩, rfl⟩
theorem cv_X5_19 {g : zG} {t : zM} {pc : Nat} {L rest : List Value} {M M2 : zMe} {rv : Option Value} {a : Nat} {x1 : Int32} {x2 : Int32} {x3 : Int32} {x4 : Int32} {q : (Int32 × zMe)} (hC : zC g) (h : fv_X5_byRows a x1 x2 x3 x4 M = some q) (hfit : t.1 = RX5 ∧ (mX5_byRows.2.2.2.2.2.1 + 1 ≤ t.2.2.2.2.2.1 ∧ 8 + (mX5_byRows.2.2.1 + 11) + mX5_byRows.2.2.2.2.2.2 ≤ t.2.2.2.2.2.2)) (hr : (rest.map fun v => v.category).sum ≤ 8) (hd : decode t.2.1 pc = .ok (.invokevirtual 19, 3)) (kk : zW g t (pc + 3) L ((some (.int q.1)).toList ++ rest) q.2 rv M2) : zW g t pc L (([.int x1, .int x2, .int x3, .int x4] : List Value).reverse ++ .ref a :: rest) M rv M2 := by
  obtain ⟨ht, w_X5_byRows⟩ := hfit
  rcases fv_X5_byRows_some h with ⟨fs, hb, h⟩ | ⟨fs, hb, h⟩ | ⟨fs, hb, h⟩ | ⟨fs, hb, h⟩ | ⟨fs, hb, h⟩
  · exact z_callV hC zcl_5 hb (s_X5_byRows hC h) (by rw [ht]; exact lk_X5_19) im_X5_byRows se_X5_byRows cd_X5_byRows ⟨w_X5_byRows.1, w_X5_byRows.2, hr⟩ hd kk
  · exact z_callU hC zcl_1 hb (s_X5_byRows hC h) (by rw [ht]; exact up_X5_19_1) cd_X5_byRows ⟨w_X5_byRows.1, w_X5_byRows.2, hr⟩ hd kk
  · exact z_callU hC zcl_9 hb (s_X5_byRows hC h) (by rw [ht]; exact up_X5_19_9) cd_X5_byRows ⟨w_X5_byRows.1, w_X5_byRows.2, hr⟩ hd kk
  · exact z_callU hC zcl_6 hb (s_X5_byRows hC h) (by rw [ht]; exact up_X5_19_6) cd_X5_byRows ⟨w_X5_byRows.1, w_X5_byRows.2, hr⟩ hd kk
  · exact z_callU hC zcl_3 hb (s_X5_byRows hC h) (by rw [ht]; exact up_X5_19_3) cd_X5_byRows ⟨w_X5_byRows.1, w_X5_byRows.2, hr⟩ hd kk
def f_X5_next (x0 : Nat) (x1 : Int32) (x2 : Int32) (x3 : Int32) (x4 : Int32) (M : zMe) : Option (Int32 × zMe) :=
  (fv_X5_byRows x0 x1 x2 x3 x4 M).bind fun q1 =>
  some (q1.1, q1.2)
set_option maxHeartbeats 4000000 in
set_option maxRecDepth 100000 in
theorem s_X5_next {g : zG} (hC : zC g) {x0 : Nat} {x1 : Int32} {x2 : Int32} {x3 : Int32} {x4 : Int32} {M : zMe} {q : (Int32 × zMe)} (h : f_X5_next x0 x1 x2 x3 x4 M = some q) : zMet g yX5_next mX5_next [.ref x0, .int x1, .int x2, .int x3, .int x4] M (some (.int q.1)) q.2 := by
  refine z_entry (by decide +kernel) rfl rfl (Nat.le_of_ble_eq_true rfl) ?_
  refine zeqL (L2 := [.ref x0, .int x1, .int x2, .int x3, .int x4]) rfl ?_
  unfold f_X5_next at h
  refine z_aload_n (x := x0) rfl dX5_next_0 ?_
  refine z_iload_n (x := x1) rfl dX5_next_1 ?_
  refine z_iload_n (x := x2) rfl dX5_next_2 ?_
  refine z_iload_n (x := x3) rfl dX5_next_3 ?_
  refine z_iload (x := x4) rfl dX5_next_4 ?_
  obtain ⟨q1, h1, h⟩ := zbind h
  refine cv_X5_19 (rest := []) hC h1 ⟨rfl, ⟨by decide, by decide⟩⟩ (Nat.le_of_ble_eq_true rfl) dX5_next_6 ?_
  refine zeqS (stk2 := [.int q1.1]) rfl ?_
  obtain rfl := Option.some.inj h
  exact z_iret ⟨.int, rfl, rfl⟩ dX5_next_9
def fv_X1_byRows (a : Nat) (x1 : Int32) (x2 : Int32) (x3 : Int32) (x4 : Int32) (M : zMe) : Option (Int32 × zMe) := match M.1 a with
  | some (.inr (ci, _)) =>
    if ci = 1 then f_X5_byRows a x1 x2 x3 x4 M else if ci = 9 then f_X5_byRows a x1 x2 x3 x4 M else none
  | _ => none
theorem fv_X1_byRows_some {a : Nat} {x1 : Int32} {x2 : Int32} {x3 : Int32} {x4 : Int32} {M : zMe} {q : (Int32 × zMe)} (h : fv_X1_byRows a x1 x2 x3 x4 M = some q) : (∃ fs, M.1 a = some (.inr (1, fs)) ∧ f_X5_byRows a x1 x2 x3 x4 M = some q) ∨ (∃ fs, M.1 a = some (.inr (9, fs)) ∧ f_X5_byRows a x1 x2 x3 x4 M = some q) := by
  unfold fv_X1_byRows at h
  split at h
  next ci fs e =>
    by_cases c1 : ci = 1
    · exact Or.inl ⟨fs, by rw [e, c1], zift h c1⟩
    have h := zife h c1
    by_cases c9 : ci = 9
    · exact Or.inr (⟨fs, by rw [e, c9], zift h c9⟩)
    have h := zife h c9
    cases h
  next => cases h
theorem up_X1_7_1 : zUp RX1 7 RX1 "OneWhistle$Plain" ⟨"OneWhistle$Deaf", "byRows", "(IIII)I"⟩ yX5_byRows := ⟨by decide +kernel, by decide +kernel, Or.inl (by decide +kernel), by decide +kernel, by decide +kernel, ⟨by decide +kernel, by decide +kernel⟩, rfl⟩
theorem up_X1_7_9 : zUp RX1 7 RX9 "OneWhistle$Plain" ⟨"OneWhistle$Deaf", "byRows", "(IIII)I"⟩ yX5_byRows := ⟨by decide +kernel, by decide +kernel, Or.inl (by decide +kernel), by decide +kernel, by decide +kernel, ⟨by decide +kernel, by decide +kernel⟩, rfl⟩
theorem cv_X1_7 {g : zG} {t : zM} {pc : Nat} {L rest : List Value} {M M2 : zMe} {rv : Option Value} {a : Nat} {x1 : Int32} {x2 : Int32} {x3 : Int32} {x4 : Int32} {q : (Int32 × zMe)} (hC : zC g) (h : fv_X1_byRows a x1 x2 x3 x4 M = some q) (hfit : t.1 = RX1 ∧ (mX5_byRows.2.2.2.2.2.1 + 1 ≤ t.2.2.2.2.2.1 ∧ 8 + (mX5_byRows.2.2.1 + 11) + mX5_byRows.2.2.2.2.2.2 ≤ t.2.2.2.2.2.2)) (hr : (rest.map fun v => v.category).sum ≤ 8) (hd : decode t.2.1 pc = .ok (.invokevirtual 7, 3)) (kk : zW g t (pc + 3) L ((some (.int q.1)).toList ++ rest) q.2 rv M2) : zW g t pc L (([.int x1, .int x2, .int x3, .int x4] : List Value).reverse ++ .ref a :: rest) M rv M2 := by
  obtain ⟨ht, w_X5_byRows⟩ := hfit
  rcases fv_X1_byRows_some h with ⟨fs, hb, h⟩ | ⟨fs, hb, h⟩
  · exact z_callU hC zcl_1 hb (s_X5_byRows hC h) (by rw [ht]; exact up_X1_7_1) cd_X5_byRows ⟨w_X5_byRows.1, w_X5_byRows.2, hr⟩ hd kk
  · exact z_callU hC zcl_9 hb (s_X5_byRows hC h) (by rw [ht]; exact up_X1_7_9) cd_X5_byRows ⟨w_X5_byRows.1, w_X5_byRows.2, hr⟩ hd kk
def f_X1_next_b19  (y0 : Int32) (M : zMe) : Option (Int32 × zMe) :=
  some (y0, M)
set_option maxHeartbeats 4000000 in
set_option maxRecDepth 100000 in
theorem s_X1_next_b19 {g : zG} (hC : zC g)  (y0 : Int32) (M : zMe) (q : (Int32 × zMe)) (h : f_X1_next_b19  y0 M = some q) : zW g mX1_next 19 [.retAddr 0, .retAddr 0, .retAddr 0, .retAddr 0, .retAddr 0] [.int y0] M (some (.int q.1)) q.2 := by
  unfold f_X1_next_b19 at h
  obtain rfl := Option.some.inj h
  exact z_iret ⟨.int, rfl, rfl⟩ dX1_next_19
def f_X1_next (x0 : Nat) (x1 : Int32) (x2 : Int32) (x3 : Int32) (x4 : Int32) (M : zMe) : Option (Int32 × zMe) :=
  if (x3 &&& 1) = 0 then (
    (fv_X1_byRows x0 x1 x2 x3 x4 M).bind fun q1 =>
    f_X1_next_b19 q1.1 q1.2)
  else (
    f_X1_next_b19 x1 M)
set_option maxHeartbeats 4000000 in
set_option maxRecDepth 100000 in
theorem s_X1_next {g : zG} (hC : zC g) {x0 : Nat} {x1 : Int32} {x2 : Int32} {x3 : Int32} {x4 : Int32} {M : zMe} {q : (Int32 × zMe)} (h : f_X1_next x0 x1 x2 x3 x4 M = some q) : zMet g yX1_next mX1_next [.ref x0, .int x1, .int x2, .int x3, .int x4] M (some (.int q.1)) q.2 := by
  refine z_entry (by decide +kernel) rfl rfl (Nat.le_of_ble_eq_true rfl) ?_
  refine zeqL (L2 := [.ref x0, .int x1, .int x2, .int x3, .int x4]) rfl ?_
  unfold f_X1_next at h
  refine z_iload_n (x := x3) rfl dX1_next_0 ?_
  refine z_iconst 1 (by decide) dX1_next_1 ?_
  refine z_iand dX1_next_2 ?_
  refine z_if_eq (tgt := 10) dX1_next_3 (by decide) (fun c1 => ?_) (fun c1 => ?_)
  · have h := zift h c1
    refine z_aload_n (x := x0) rfl dX1_next_10 ?_
    refine z_iload_n (x := x1) rfl dX1_next_11 ?_
    refine z_iload_n (x := x2) rfl dX1_next_12 ?_
    refine z_iload_n (x := x3) rfl dX1_next_13 ?_
    refine z_iload (x := x4) rfl dX1_next_14 ?_
    obtain ⟨q1, h1, h⟩ := zbind h
    refine cv_X1_7 (rest := []) hC h1 ⟨rfl, ⟨by decide, by decide⟩⟩ (Nat.le_of_ble_eq_true rfl) dX1_next_16 ?_
    refine zeqS (stk2 := [.int q1.1]) rfl ?_
    refine zweak [false, false, false, false, false] ?_
    exact s_X1_next_b19 hC _ _ _ h
  · have h := zife h c1
    refine z_iload_n (x := x1) rfl dX1_next_6 ?_
    refine z_goto (tgt := 19) dX1_next_7 (by decide) ?_
    refine zweak [false, false, false, false, false] ?_
    exact s_X1_next_b19 hC _ _ _ h
theorem up_X9_7_9 : zUp RX9 7 RX9 "OneWhistle$Plain" ⟨"OneWhistle$Stubborn", "byRows", "(IIII)I"⟩ yX5_byRows := ⟨by decide +kernel, by decide +kernel, Or.inl (by decide +kernel), by decide +kernel, by decide +kernel, ⟨by decide +kernel, by decide +kernel⟩, rfl⟩
def f_X9_next_b19  (y0 : Int32) (M : zMe) : Option (Int32 × zMe) :=
  some (y0, M)
set_option maxHeartbeats 4000000 in
set_option maxRecDepth 100000 in
theorem s_X9_next_b19 {g : zG} (hC : zC g)  (y0 : Int32) (M : zMe) (q : (Int32 × zMe)) (h : f_X9_next_b19  y0 M = some q) : zW g mX9_next 19 [.retAddr 0, .retAddr 0, .retAddr 0, .retAddr 0, .retAddr 0] [.int y0] M (some (.int q.1)) q.2 := by
  unfold f_X9_next_b19 at h
  obtain rfl := Option.some.inj h
  exact z_iret ⟨.int, rfl, rfl⟩ dX9_next_19
def f_X9_next (x0 : Nat) (x1 : Int32) (x2 : Int32) (x3 : Int32) (x4 : Int32) (M : zMe) : Option (Int32 × zMe) :=
  if (x3 &&& 1) = 0 then (
    f_X9_next_b19 x1 M)
  else (
    (zob M x0 9).bind fun _ =>
    (f_X5_byRows x0 x1 x2 x3 x4 M).bind fun q1 =>
    f_X9_next_b19 q1.1 q1.2)
set_option maxHeartbeats 4000000 in
set_option maxRecDepth 100000 in
theorem s_X9_next {g : zG} (hC : zC g) {x0 : Nat} {x1 : Int32} {x2 : Int32} {x3 : Int32} {x4 : Int32} {M : zMe} {q : (Int32 × zMe)} (h : f_X9_next x0 x1 x2 x3 x4 M = some q) : zMet g yX9_next mX9_next [.ref x0, .int x1, .int x2, .int x3, .int x4] M (some (.int q.1)) q.2 := by
  refine z_entry (by decide +kernel) rfl rfl (Nat.le_of_ble_eq_true rfl) ?_
  refine zeqL (L2 := [.ref x0, .int x1, .int x2, .int x3, .int x4]) rfl ?_
  unfold f_X9_next at h
  refine z_iload_n (x := x3) rfl dX9_next_0 ?_
  refine z_iconst 1 (by decide) dX9_next_1 ?_
  refine z_iand dX9_next_2 ?_
  refine z_if_ne (tgt := 10) dX9_next_3 (by decide) (fun c1 => ?_) (fun c1 => ?_)
  · have h := zife h c1
    refine z_aload_n (x := x0) rfl dX9_next_10 ?_
    refine z_iload_n (x := x1) rfl dX9_next_11 ?_
    refine z_iload_n (x := x2) rfl dX9_next_12 ?_
    refine z_iload_n (x := x3) rfl dX9_next_13 ?_
    refine z_iload (x := x4) rfl dX9_next_14 ?_
    obtain ⟨_, hb, h⟩ := zbind h
    obtain ⟨fs, hb⟩ := zob_some hb
    obtain ⟨q1, h1, h⟩ := zbind h
    refine z_callU (av := [.int x1, .int x2, .int x3, .int x4]) (rest := []) hC zcl_9 hb (s_X5_byRows hC h1) up_X9_7_9 cd_X5_byRows ⟨by decide, by decide, (Nat.le_of_ble_eq_true rfl)⟩ dX9_next_16 ?_
    clear hb fs
    refine zeqS (stk2 := [.int q1.1]) rfl ?_
    refine zweak [false, false, false, false, false] ?_
    exact s_X9_next_b19 hC _ _ _ h
  · have h := zift h c1
    refine z_iload_n (x := x1) rfl dX9_next_6 ?_
    refine z_goto (tgt := 19) dX9_next_7 (by decide) ?_
    refine zweak [false, false, false, false, false] ?_
    exact s_X9_next_b19 hC _ _ _ h
theorem up_X3_7_3 : zUp RX3 7 RX3 "OneWhistle$Plain" ⟨"OneWhistle$Keen", "byRows", "(IIII)I"⟩ yX5_byRows := ⟨by decide +kernel, by decide +kernel, Or.inl (by decide +kernel), by decide +kernel, by decide +kernel, ⟨by decide +kernel, by decide +kernel⟩, rfl⟩
def f_X3_next_b34  (y0 : Int32) (M : zMe) : Option (Int32 × zMe) :=
  some (y0, M)
set_option maxHeartbeats 4000000 in
set_option maxRecDepth 100000 in
theorem s_X3_next_b34 {g : zG} (hC : zC g)  (y0 : Int32) (M : zMe) (q : (Int32 × zMe)) (h : f_X3_next_b34  y0 M = some q) : zW g mX3_next 34 [.retAddr 0, .retAddr 0, .retAddr 0, .retAddr 0, .retAddr 0, .retAddr 0] [.int y0] M (some (.int q.1)) q.2 := by
  unfold f_X3_next_b34 at h
  obtain rfl := Option.some.inj h
  exact z_iret ⟨.int, rfl, rfl⟩ dX3_next_34
def f_X3_next (x0 : Nat) (x1 : Int32) (x2 : Int32) (x3 : Int32) (x4 : Int32) (M : zMe) : Option (Int32 × zMe) :=
  (zob M x0 3).bind fun _ =>
  (f_X5_byRows x0 x1 x2 x3 x4 M).bind fun q1 =>
  (zgI q1.2 x0 [3] 5).bind fun v1 =>
  if v1 ≤ x3 then (
    (zob q1.2 x0 3).bind fun _ =>
    (f_X5_byRows x0 q1.1 x2 x3 x4 q1.2).bind fun q2 =>
    f_X3_next_b34 q2.1 q2.2)
  else (
    f_X3_next_b34 q1.1 q1.2)
set_option maxHeartbeats 4000000 in
set_option maxRecDepth 100000 in
theorem s_X3_next {g : zG} (hC : zC g) {x0 : Nat} {x1 : Int32} {x2 : Int32} {x3 : Int32} {x4 : Int32} {M : zMe} {q : (Int32 × zMe)} (h : f_X3_next x0 x1 x2 x3 x4 M = some q) : zMet g yX3_next mX3_next [.ref x0, .int x1, .int x2, .int x3, .int x4] M (some (.int q.1)) q.2 := by
  refine z_entry (by decide +kernel) rfl rfl (Nat.le_of_ble_eq_true rfl) ?_
  refine zeqL (L2 := [.ref x0, .int x1, .int x2, .int x3, .int x4, .retAddr 0]) rfl ?_
  unfold f_X3_next at h
  refine z_aload_n (x := x0) rfl dX3_next_0 ?_
  refine z_iload_n (x := x1) rfl dX3_next_1 ?_
  refine z_iload_n (x := x2) rfl dX3_next_2 ?_
  refine z_iload_n (x := x3) rfl dX3_next_3 ?_
  refine z_iload (x := x4) rfl dX3_next_4 ?_
  obtain ⟨_, hb, h⟩ := zbind h
  obtain ⟨fs, hb⟩ := zob_some hb
  obtain ⟨q1, h1, h⟩ := zbind h
  refine z_callU (av := [.int x1, .int x2, .int x3, .int x4]) (rest := []) hC zcl_3 hb (s_X5_byRows hC h1) up_X3_7_3 cd_X5_byRows ⟨by decide, by decide, (Nat.le_of_ble_eq_true rfl)⟩ dX3_next_6 ?_
  clear hb fs
  refine zeqS (stk2 := [.int q1.1]) rfl ?_
  refine z_istore dX3_next_9 (by decide) ?_
  refine zeqL (L2 := [.ref x0, .int x1, .int x2, .int x3, .int x4, .int q1.1]) rfl ?_
  refine z_iload_n (x := x3) rfl dX3_next_11 ?_
  refine z_aload_n (x := x0) rfl dX3_next_12 ?_
  obtain ⟨v1, h2, h⟩ := zbind h
  refine z_gI hC fs_X3_13 h2 dX3_next_13 ?_
  refine z_icmp_ge (tgt := 24) dX3_next_16 (by decide) (fun c1 => ?_) (fun c1 => ?_)
  · have h := zift h c1
    refine z_aload_n (x := x0) rfl dX3_next_24 ?_
    refine z_iload (x := q1.1) rfl dX3_next_25 ?_
    refine z_iload_n (x := x2) rfl dX3_next_27 ?_
    refine z_iload_n (x := x3) rfl dX3_next_28 ?_
    refine z_iload (x := x4) rfl dX3_next_29 ?_
    obtain ⟨_, hb, h⟩ := zbind h
    obtain ⟨fs, hb⟩ := zob_some hb
    obtain ⟨q2, h3, h⟩ := zbind h
    refine z_callU (av := [.int q1.1, .int x2, .int x3, .int x4]) (rest := []) hC zcl_3 hb (s_X5_byRows hC h3) up_X3_7_3 cd_X5_byRows ⟨by decide, by decide, (Nat.le_of_ble_eq_true rfl)⟩ dX3_next_31 ?_
    clear hb fs
    refine zeqS (stk2 := [.int q2.1]) rfl ?_
    refine zweak [false, false, false, false, false, false] ?_
    exact s_X3_next_b34 hC _ _ _ h
  · have h := zife h c1
    refine z_iload (x := q1.1) rfl dX3_next_19 ?_
    refine z_goto (tgt := 34) dX3_next_21 (by decide) ?_
    refine zweak [false, false, false, false, false, false] ?_
    exact s_X3_next_b34 hC _ _ _ h
def f_X4_joinSets_b2  : Nat → Nat → Int32 → Int32 → zMe → Option zMe
  | 0, _, _, _, _ => none
  | n + 1, x0, x1, x2, M =>
    (zgI M x0 [4] 3).bind fun v1 =>
    if v1 ≤ x2 then (
      some M)
    else (
      zlet (x2 &&& (-x2) : Int32) fun v2 =>
      (zgN M x0 [4] 0).bind fun a1 =>
      (zgN M x0 [4] 0).bind fun a2 =>
      (zrI M a2 (x1 + v2)).bind fun v3 =>
      (zgN M x0 [4] 0).bind fun a3 =>
      (zrI M a3 (x1 + (x2 ^^^ v2))).bind fun v4 =>
      (zwI M a1 (x1 + x2) (v3 ||| v4)).bind fun M1 =>
      zlet (x2 + 1) fun v5 =>
      f_X4_joinSets_b2 n x0 x1 v5 M1)
set_option maxHeartbeats 4000000 in
set_option maxRecDepth 100000 in
theorem s_X4_joinSets_b2 {g : zG} (hC : zC g)  : ∀ (n : Nat) (x0 : Nat) (x1 : Int32) (x2 : Int32) (M : zMe) (q : zMe), f_X4_joinSets_b2  n x0 x1 x2 M = some q → zW g mX4_joinSets 2 [.ref x0, .int x1, .int x2, .retAddr 0] [] M none q := by
  intro n
  induction n with
  | zero => intro x0 x1 x2 M q h; cases h
  | succ n ih =>
    intro x0 x1 x2 M q h
    rw [f_X4_joinSets_b2] at h
    refine z_iload_n (x := x2) rfl dX4_joinSets_2 ?_
    refine z_aload_n (x := x0) rfl dX4_joinSets_3 ?_
    obtain ⟨v1, h1, h⟩ := zbind h
    refine z_gI hC fs_X4_21 h1 dX4_joinSets_4 ?_
    refine z_icmp_ge (tgt := 48) dX4_joinSets_7 (by decide) (fun c1 => ?_) (fun c1 => ?_)
    · have h := zift h c1
      obtain rfl := Option.some.inj h
      exact z_ret rfl dX4_joinSets_48
    · have h := zife h c1
      refine z_iload_n (x := x2) rfl dX4_joinSets_10 ?_
      refine z_iload_n (x := x2) rfl dX4_joinSets_11 ?_
      refine z_ineg dX4_joinSets_12 ?_
      refine z_iand dX4_joinSets_13 ?_
      refine z_nameI (fun v2 hv => ?_)
      have h := zlet_use h hv
      clear hv
      refine z_istore_n dX4_joinSets_14 (by decide) ?_
      refine zeqL (L2 := [.ref x0, .int x1, .int x2, .int v2]) rfl ?_
      refine z_aload_n (x := x0) rfl dX4_joinSets_15 ?_
      obtain ⟨a1, h2, h⟩ := zbind h
      refine z_gN hC fs_X4_9 h2 dX4_joinSets_16 ?_
      refine z_iload_n (x := x1) rfl dX4_joinSets_19 ?_
      refine z_iload_n (x := x2) rfl dX4_joinSets_20 ?_
      refine z_iadd dX4_joinSets_21 ?_
      refine z_aload_n (x := x0) rfl dX4_joinSets_22 ?_
      obtain ⟨a2, h3, h⟩ := zbind h
      refine z_gN hC fs_X4_9 h3 dX4_joinSets_23 ?_
      refine z_iload_n (x := x1) rfl dX4_joinSets_26 ?_
      refine z_iload_n (x := v2) rfl dX4_joinSets_27 ?_
      refine z_iadd dX4_joinSets_28 ?_
      obtain ⟨v3, h4, h⟩ := zbind h
      refine z_rI h4 dX4_joinSets_29 ?_
      refine z_aload_n (x := x0) rfl dX4_joinSets_30 ?_
      obtain ⟨a3, h5, h⟩ := zbind h
      refine z_gN hC fs_X4_9 h5 dX4_joinSets_31 ?_
      refine z_iload_n (x := x1) rfl dX4_joinSets_34 ?_
      refine z_iload_n (x := x2) rfl dX4_joinSets_35 ?_
      refine z_iload_n (x := v2) rfl dX4_joinSets_36 ?_
      refine z_ixor dX4_joinSets_37 ?_
      refine z_iadd dX4_joinSets_38 ?_
      obtain ⟨v4, h6, h⟩ := zbind h
      refine z_rI h6 dX4_joinSets_39 ?_
      refine z_ior dX4_joinSets_40 ?_
      obtain ⟨M1, h7, h⟩ := zbind h
      refine z_wI h7 dX4_joinSets_41 ?_
      obtain ⟨v5, hv⟩ : ∃ z : Int32, z = x2 + 1 := ⟨_, rfl⟩
      have h := zlet_use h hv
      refine z_iinc (v := v5) dX4_joinSets_42 (x := x2) rfl (by rw [hv]; rfl) ?_
      clear hv
      refine zeqL (L2 := [.ref x0, .int x1, .int v5, .int v2]) rfl ?_
      refine z_goto (tgt := 2) dX4_joinSets_45 (by decide) ?_
      refine zweak [true, true, true, false] ?_
      exact ih _ _ _ _ _ h
def f_X4_joinSets (x0 : Nat) (x1 : Int32) (M : zMe) : Option zMe :=
  f_X4_joinSets_b2 zfu x0 x1 1 M
set_option maxHeartbeats 4000000 in
set_option maxRecDepth 100000 in
theorem s_X4_joinSets {g : zG} (hC : zC g) {x0 : Nat} {x1 : Int32} {M : zMe} {q : zMe} (h : f_X4_joinSets x0 x1 M = some q) : zMet g yX4_joinSets mX4_joinSets [.ref x0, .int x1] M none q := by
  refine z_entry (by decide +kernel) rfl rfl (Nat.le_of_ble_eq_true rfl) ?_
  refine zeqL (L2 := [.ref x0, .int x1, .retAddr 0, .retAddr 0]) rfl ?_
  unfold f_X4_joinSets at h
  refine z_iconst 1 (by decide) dX4_joinSets_0 ?_
  refine z_istore_n dX4_joinSets_1 (by decide) ?_
  refine zeqL (L2 := [.ref x0, .int x1, .int 1, .retAddr 0]) rfl ?_
  exact s_X4_joinSets_b2 hC _ _ _ _ _ _ h
def fv_X5_next (a : Nat) (x1 : Int32) (x2 : Int32) (x3 : Int32) (x4 : Int32) (M : zMe) : Option (Int32 × zMe) := match M.1 a with
  | some (.inr (ci, _)) =>
    if ci = 5 then f_X5_next a x1 x2 x3 x4 M else if ci = 1 then f_X1_next a x1 x2 x3 x4 M else if ci = 9 then f_X9_next a x1 x2 x3 x4 M else if ci = 6 then f_X5_next a x1 x2 x3 x4 M else if ci = 3 then f_X3_next a x1 x2 x3 x4 M else none
  | _ => none
theorem fv_X5_next_some {a : Nat} {x1 : Int32} {x2 : Int32} {x3 : Int32} {x4 : Int32} {M : zMe} {q : (Int32 × zMe)} (h : fv_X5_next a x1 x2 x3 x4 M = some q) : (∃ fs, M.1 a = some (.inr (5, fs)) ∧ f_X5_next a x1 x2 x3 x4 M = some q) ∨ (∃ fs, M.1 a = some (.inr (1, fs)) ∧ f_X1_next a x1 x2 x3 x4 M = some q) ∨ (∃ fs, M.1 a = some (.inr (9, fs)) ∧ f_X9_next a x1 x2 x3 x4 M = some q) ∨ (∃ fs, M.1 a = some (.inr (6, fs)) ∧ f_X5_next a x1 x2 x3 x4 M = some q) ∨ (∃ fs, M.1 a = some (.inr (3, fs)) ∧ f_X3_next a x1 x2 x3 x4 M = some q) := by
  unfold fv_X5_next at h
  split at h
  next ci fs e =>
    by_cases c5 : ci = 5
    · exact Or.inl ⟨fs, by rw [e, c5], zift h c5⟩
    have h := zife h c5
    by_cases c1 : ci = 1
    · exact Or.inr (Or.inl ⟨fs, by rw [e, c1], zift h c1⟩)
    have h := zife h c1
    by_cases c9 : ci = 9
    · exact Or.inr (Or.inr (Or.inl ⟨fs, by rw [e, c9], zift h c9⟩))
    have h := zife h c9
    by_cases c6 : ci = 6
    · exact Or.inr (Or.inr (Or.inr (Or.inl ⟨fs, by rw [e, c6], zift h c6⟩)))
    have h := zife h c6
    by_cases c3 : ci = 3
    · exact Or.inr (Or.inr (Or.inr (Or.inr (⟨fs, by rw [e, c3], zift h c3⟩))))
    have h := zife h c3
    cases h
  next => cases h
theorem up_X4_34_1 : zUp RX4 34 RX1 "OneWhistle$Plain" ⟨"OneWhistle$Plain", "next", "(IIII)I"⟩ yX1_next := ⟨by decide +kernel, by decide +kernel, Or.inr ⟨by decide +kernel, _, _, _, cd_X5_next.1⟩, by decide +kernel, by decide +kernel, ⟨by decide +kernel, by decide +kernel⟩, rfl⟩
theorem up_X4_34_9 : zUp RX4 34 RX9 "OneWhistle$Plain" ⟨"OneWhistle$Plain", "next", "(IIII)I"⟩ yX9_next := ⟨by decide +kernel, by decide +kernel, Or.inr ⟨by decide +kernel, _, _, _, cd_X5_next.1⟩, by decide +kernel, by decide +kernel, ⟨by decide +kernel, by decide +kernel⟩, rfl⟩
theorem up_X4_34_6 : zUp RX4 34 RX6 "OneWhistle$Plain" ⟨"OneWhistle$Plain", "next", "(IIII)I"⟩ yX5_next := ⟨by decide +kernel, by decide +kernel, Or.inr ⟨by decide +kernel, _, _, _, cd_X5_next.1⟩, by decide +kernel, by decide +kernel, ⟨by decide +kernel, by decide +kernel⟩, rfl⟩
theorem up_X4_34_3 : zUp RX4 34 RX3 "OneWhistle$Plain" ⟨"OneWhistle$Plain", "next", "(IIII)I"⟩ yX3_next := ⟨by decide +kernel, by decide +kernel, Or.inr ⟨by decide +kernel, _, _, _, cd_X5_next.1⟩, by decide +kernel, by decide +kernel, ⟨by decide +kernel, by decide +kernel⟩, rfl⟩
theorem cv_X4_34 {g : zG} {t : zM} {pc : Nat} {L rest : List Value} {M M2 : zMe} {rv : Option Value} {a : Nat} {x1 : Int32} {x2 : Int32} {x3 : Int32} {x4 : Int32} {q : (Int32 × zMe)} (hC : zC g) (h : fv_X5_next a x1 x2 x3 x4 M = some q) (hfit : t.1 = RX4 ∧ (mX5_next.2.2.2.2.2.1 + 1 ≤ t.2.2.2.2.2.1 ∧ 8 + (mX5_next.2.2.1 + 11) + mX5_next.2.2.2.2.2.2 ≤ t.2.2.2.2.2.2) ∧ (mX1_next.2.2.2.2.2.1 + 1 ≤ t.2.2.2.2.2.1 ∧ 8 + (mX1_next.2.2.1 + 11) + mX1_next.2.2.2.2.2.2 ≤ t.2.2.2.2.2.2) ∧ (mX9_next.2.2.2.2.2.1 + 1 ≤ t.2.2.2.2.2.1 ∧ 8 + (mX9_next.2.2.1 + 11) + mX9_next.2.2.2.2.2.2 ≤ t.2.2.2.2.2.2) ∧ (mX3_next.2.2.2.2.2.1 + 1 ≤ t.2.2.2.2.2.1 ∧ 8 + (mX3_next.2.2.1 + 11) + mX3_next.2.2.2.2.2.2 ≤ t.2.2.2.2.2.2)) (hr : (rest.map fun v => v.category).sum ≤ 8) (hd : decode t.2.1 pc = .ok (.invokevirtual 34, 3)) (kk : zW g t (pc + 3) L ((some (.int q.1)).toList ++ rest) q.2 rv M2) : zW g t pc L (([.int x1, .int x2, .int x3, .int x4] : List Value).reverse ++ .ref a :: rest) M rv M2 := by
  obtain ⟨ht, w_X5_next, w_X1_next, w_X9_next, w_X3_next⟩ := hfit
  rcases fv_X5_next_some h with ⟨fs, hb, h⟩ | ⟨fs, hb, h⟩ | ⟨fs, hb, h⟩ | ⟨fs, hb, h⟩ | ⟨fs, hb, h⟩
  · exact z_callV hC zcl_5 hb (s_X5_next hC h) (by rw [ht]; exact lk_X4_34) im_X5_next se_X5_next cd_X5_next ⟨w_X5_next.1, w_X5_next.2, hr⟩ hd kk
  · exact z_callU hC zcl_1 hb (s_X1_next hC h) (by rw [ht]; exact up_X4_34_1) cd_X1_next ⟨w_X1_next.1, w_X1_next.2, hr⟩ hd kk
  · exact z_callU hC zcl_9 hb (s_X9_next hC h) (by rw [ht]; exact up_X4_34_9) cd_X9_next ⟨w_X9_next.1, w_X9_next.2, hr⟩ hd kk
  · exact z_callU hC zcl_6 hb (s_X5_next hC h) (by rw [ht]; exact up_X4_34_6) cd_X5_next ⟨w_X5_next.1, w_X5_next.2, hr⟩ hd kk
  · exact z_callU hC zcl_3 hb (s_X3_next hC h) (by rw [ht]; exact up_X4_34_3) cd_X3_next ⟨w_X3_next.1, w_X3_next.2, hr⟩ hd kk
theorem up_X5_33_1 : zUp RX5 33 RX1 "OneWhistle$Plain" ⟨"OneWhistle$Plain", "next", "(IIII)I"⟩ yX1_next := ⟨by decide +kernel, by decide +kernel, Or.inr ⟨by decide +kernel, _, _, _, cd_X5_next.1⟩, by decide +kernel, by decide +kernel, ⟨by decide +kernel, by decide +kernel⟩, rfl⟩
theorem up_X5_33_9 : zUp RX5 33 RX9 "OneWhistle$Plain" ⟨"OneWhistle$Plain", "next", "(IIII)I"⟩ yX9_next := ⟨by decide +kernel, by decide +kernel, Or.inr ⟨by decide +kernel, _, _, _, cd_X5_next.1⟩, by decide +kernel, by decide +kernel, ⟨by decide +kernel, by decide +kernel⟩, rfl⟩
theorem up_X5_33_6 : zUp RX5 33 RX6 "OneWhistle$Plain" ⟨"OneWhistle$Plain", "next", "(IIII)I"⟩ yX5_next := ⟨by decide +kernel, by decide +kernel, Or.inr ⟨by decide +kernel, _, _, _, cd_X5_next.1⟩, by decide +kernel, by decide +kernel, ⟨by decide +kernel, by decide +kernel⟩, rfl⟩
theorem up_X5_33_3 : zUp RX5 33 RX3 "OneWhistle$Plain" ⟨"OneWhistle$Plain", "next", "(IIII)I"⟩ yX3_next := ⟨by decide +kernel, by decide +kernel, Or.inr ⟨by decide +kernel, _, _, _, cd_X5_next.1⟩, by decide +kernel, by decide +kernel, ⟨by decide +kernel, by decide +kernel⟩, rfl⟩
theorem cv_X5_33 {g : zG} {t : zM} {pc : Nat} {L rest : List Value} {M M2 : zMe} {rv : Option Value} {a : Nat} {x1 : Int32} {x2 : Int32} {x3 : Int32} {x4 : Int32} {q : (Int32 × zMe)} (hC : zC g) (h : fv_X5_next a x1 x2 x3 x4 M = some q) (hfit : t.1 = RX5 ∧ (mX5_next.2.2.2.2.2.1 + 1 ≤ t.2.2.2.2.2.1 ∧ 8 + (mX5_next.2.2.1 + 11) + mX5_next.2.2.2.2.2.2 ≤ t.2.2.2.2.2.2) ∧ (mX1_next.2.2.2.2.2.1 + 1 ≤ t.2.2.2.2.2.1 ∧ 8 + (mX1_next.2.2.1 + 11) + mX1_next.2.2.2.2.2.2 ≤ t.2.2.2.2.2.2) ∧ (mX9_next.2.2.2.2.2.1 + 1 ≤ t.2.2.2.2.2.1 ∧ 8 + (mX9_next.2.2.1 + 11) + mX9_next.2.2.2.2.2.2 ≤ t.2.2.2.2.2.2) ∧ (mX3_next.2.2.2.2.2.1 + 1 ≤ t.2.2.2.2.2.1 ∧ 8 + (mX3_next.2.2.1 + 11) + mX3_next.2.2.2.2.2.2 ≤ t.2.2.2.2.2.2)) (hr : (rest.map fun v => v.category).sum ≤ 8) (hd : decode t.2.1 pc = .ok (.invokevirtual 33, 3)) (kk : zW g t (pc + 3) L ((some (.int q.1)).toList ++ rest) q.2 rv M2) : zW g t pc L (([.int x1, .int x2, .int x3, .int x4] : List Value).reverse ++ .ref a :: rest) M rv M2 := by
  obtain ⟨ht, w_X5_next, w_X1_next, w_X9_next, w_X3_next⟩ := hfit
  rcases fv_X5_next_some h with ⟨fs, hb, h⟩ | ⟨fs, hb, h⟩ | ⟨fs, hb, h⟩ | ⟨fs, hb, h⟩ | ⟨fs, hb, h⟩
  · exact z_callV hC zcl_5 hb (s_X5_next hC h) (by rw [ht]; exact lk_X5_33) im_X5_next se_X5_next cd_X5_next ⟨w_X5_next.1, w_X5_next.2, hr⟩ hd kk
  · exact z_callU hC zcl_1 hb (s_X1_next hC h) (by rw [ht]; exact up_X5_33_1) cd_X1_next ⟨w_X1_next.1, w_X1_next.2, hr⟩ hd kk
  · exact z_callU hC zcl_9 hb (s_X9_next hC h) (by rw [ht]; exact up_X5_33_9) cd_X9_next ⟨w_X9_next.1, w_X9_next.2, hr⟩ hd kk
  · exact z_callU hC zcl_6 hb (s_X5_next hC h) (by rw [ht]; exact up_X5_33_6) cd_X5_next ⟨w_X5_next.1, w_X5_next.2, hr⟩ hd kk
  · exact z_callU hC zcl_3 hb (s_X3_next hC h) (by rw [ht]; exact up_X5_33_3) cd_X3_next ⟨w_X3_next.1, w_X3_next.2, hr⟩ hd kk
theorem up_X11_162_1 : zUp RX11 162 RX1 "OneWhistle$Plain" ⟨"OneWhistle$Plain", "next", "(IIII)I"⟩ yX1_next := ⟨by decide +kernel, by decide +kernel, Or.inr ⟨by decide +kernel, _, _, _, cd_X5_next.1⟩, by decide +kernel, by decide +kernel, ⟨by decide +kernel, by decide +kernel⟩, rfl⟩
theorem up_X11_162_9 : zUp RX11 162 RX9 "OneWhistle$Plain" ⟨"OneWhistle$Plain", "next", "(IIII)I"⟩ yX9_next := ⟨by decide +kernel, by decide +kernel, Or.inr ⟨by decide +kernel, _, _, _, cd_X5_next.1⟩, by decide +kernel, by decide +kernel, ⟨by decide +kernel, by decide +kernel⟩, rfl⟩
theorem up_X11_162_6 : zUp RX11 162 RX6 "OneWhistle$Plain" ⟨"OneWhistle$Plain", "next", "(IIII)I"⟩ yX5_next := ⟨by decide +kernel, by decide +kernel, Or.inr ⟨by decide +kernel, _, _, _, cd_X5_next.1⟩, by decide +kernel, by decide +kernel, ⟨by decide +kernel, by decide +kernel⟩, rfl⟩
theorem up_X11_162_3 : zUp RX11 162 RX3 "OneWhistle$Plain" ⟨"OneWhistle$Plain", "next", "(IIII)I"⟩ yX3_next := ⟨by decide +kernel, by decide +kernel, Or.inr ⟨by decide +kernel, _, _, _, cd_X5_next.1⟩, by decide +kernel, by decide +kernel, ⟨by decide +kernel, by decide +kernel⟩, rfl⟩
theorem cv_X11_162 {g : zG} {t : zM} {pc : Nat} {L rest : List Value} {M M2 : zMe} {rv : Option Value} {a : Nat} {x1 : Int32} {x2 : Int32} {x3 : Int32} {x4 : Int32} {q : (Int32 × zMe)} (hC : zC g) (h : fv_X5_next a x1 x2 x3 x4 M = some q) (hfit : t.1 = RX11 ∧ (mX5_next.2.2.2.2.2.1 + 1 ≤ t.2.2.2.2.2.1 ∧ 8 + (mX5_next.2.2.1 + 11) + mX5_next.2.2.2.2.2.2 ≤ t.2.2.2.2.2.2) ∧ (mX1_next.2.2.2.2.2.1 + 1 ≤ t.2.2.2.2.2.1 ∧ 8 + (mX1_next.2.2.1 + 11) + mX1_next.2.2.2.2.2.2 ≤ t.2.2.2.2.2.2) ∧ (mX9_next.2.2.2.2.2.1 + 1 ≤ t.2.2.2.2.2.1 ∧ 8 + (mX9_next.2.2.1 + 11) + mX9_next.2.2.2.2.2.2 ≤ t.2.2.2.2.2.2) ∧ (mX3_next.2.2.2.2.2.1 + 1 ≤ t.2.2.2.2.2.1 ∧ 8 + (mX3_next.2.2.1 + 11) + mX3_next.2.2.2.2.2.2 ≤ t.2.2.2.2.2.2)) (hr : (rest.map fun v => v.category).sum ≤ 8) (hd : decode t.2.1 pc = .ok (.invokevirtual 162, 3)) (kk : zW g t (pc + 3) L ((some (.int q.1)).toList ++ rest) q.2 rv M2) : zW g t pc L (([.int x1, .int x2, .int x3, .int x4] : List Value).reverse ++ .ref a :: rest) M rv M2 := by
  obtain ⟨ht, w_X5_next, w_X1_next, w_X9_next, w_X3_next⟩ := hfit
  rcases fv_X5_next_some h with ⟨fs, hb, h⟩ | ⟨fs, hb, h⟩ | ⟨fs, hb, h⟩ | ⟨fs, hb, h⟩ | ⟨fs, hb, h⟩
  · exact z_callV hC zcl_5 hb (s_X5_next hC h) (by rw [ht]; exact lk_X11_162) im_X5_next se_X5_next cd_X5_next ⟨w_X5_next.1, w_X5_next.2, hr⟩ hd kk
  · exact z_callU hC zcl_1 hb (s_X1_next hC h) (by rw [ht]; exact up_X11_162_1) cd_X1_next ⟨w_X1_next.1, w_X1_next.2, hr⟩ hd kk
  · exact z_callU hC zcl_9 hb (s_X9_next hC h) (by rw [ht]; exact up_X11_162_9) cd_X9_next ⟨w_X9_next.1, w_X9_next.2, hr⟩ hd kk
  · exact z_callU hC zcl_6 hb (s_X5_next hC h) (by rw [ht]; exact up_X11_162_6) cd_X5_next ⟨w_X5_next.1, w_X5_next.2, hr⟩ hd kk
  · exact z_callU hC zcl_3 hb (s_X3_next hC h) (by rw [ht]; exact up_X11_162_3) cd_X3_next ⟨w_X3_next.1, w_X3_next.2, hr⟩ hd kk
def f_X4_learn_b85 (k15 : Nat → Nat → Int32 → Int32 → Int32 → zMe → Option zMe) (k24 : Nat → Nat → Int32 → Int32 → Int32 → Int32 → zMe → Option zMe) (x0 : Nat) (x1 : Nat) (x2 : Int32) (x3 : Int32) (x4 : Int32) (x5 : Int32) (x6 : Int32) (M : zMe) : Option zMe :=
  (zob M x0 4).bind fun _ =>
  (f_X4_joinSets x0 x6 M).bind fun q1 =>
  zlet (x5 + 1) fun v1 =>
  k24 x0 x1 x2 x3 x4 v1 q1
set_option maxHeartbeats 4000000 in
set_option maxRecDepth 100000 in
theorem s_X4_learn_b85 {g : zG} (hC : zC g) {k15 : Nat → Nat → Int32 → Int32 → Int32 → zMe → Option zMe} {k24 : Nat → Nat → Int32 → Int32 → Int32 → Int32 → zMe → Option zMe} (hk15 : ∀ (x0 : Nat) (x1 : Nat) (x2 : Int32) (x3 : Int32) (x4 : Int32) (M : zMe) (q : zMe), k15 x0 x1 x2 x3 x4 M = some q → zW g mX4_learn 15 [.ref x0, .ref x1, .int x2, .int x3, .int x4, .retAddr 0, .retAddr 0, .retAddr 0] [] M none q) (hk24 : ∀ (x0 : Nat) (x1 : Nat) (x2 : Int32) (x3 : Int32) (x4 : Int32) (x5 : Int32) (M : zMe) (q : zMe), k24 x0 x1 x2 x3 x4 x5 M = some q → zW g mX4_learn 24 [.ref x0, .ref x1, .int x2, .int x3, .int x4, .int x5, .retAddr 0, .retAddr 0] [] M none q) (x0 : Nat) (x1 : Nat) (x2 : Int32) (x3 : Int32) (x4 : Int32) (x5 : Int32) (x6 : Int32) (M : zMe) (q : zMe) (h : f_X4_learn_b85 k15 k24 x0 x1 x2 x3 x4 x5 x6 M = some q) : zW g mX4_learn 85 [.ref x0, .ref x1, .int x2, .int x3, .int x4, .int x5, .int x6, .retAddr 0] [] M none q := by
  unfold f_X4_learn_b85 at h
  refine z_aload_n (x := x0) rfl dX4_learn_85 ?_
  refine z_iload (x := x6) rfl dX4_learn_86 ?_
  obtain ⟨_, hb, h⟩ := zbind h
  obtain ⟨fs, hb⟩ := zob_some hb
  obtain ⟨q1, h1, h⟩ := zbind h
  refine z_callV (av := [.int x6]) (rest := []) hC zcl_4 hb (s_X4_joinSets hC h1) lk_X4_40 im_X4_joinSets se_X4_joinSets cd_X4_joinSets ⟨by decide, by decide, (Nat.le_of_ble_eq_true rfl)⟩ dX4_learn_88 ?_
  clear hb fs
  refine zeqS (stk2 := []) rfl ?_
  obtain ⟨v1, hv⟩ : ∃ z : Int32, z = x5 + 1 := ⟨_, rfl⟩
  have h := zlet_use h hv
  refine z_iinc (v := v1) dX4_learn_91 (x := x5) rfl (by rw [hv]; rfl) ?_
  clear hv
  refine zeqL (L2 := [.ref x0, .ref x1, .int x2, .int x3, .int x4, .int v1, .int x6, .retAddr 0]) rfl ?_
  refine z_goto (tgt := 24) dX4_learn_94 (by decide) ?_
  refine zweak [true, true, true, true, true, true, false, false] ?_
  exact hk24 _ _ _ _ _ _ _ _ h
def f_X4_learn_b42 (k15 : Nat → Nat → Int32 → Int32 → Int32 → zMe → Option zMe) (k24 : Nat → Nat → Int32 → Int32 → Int32 → Int32 → zMe → Option zMe) : Nat → Nat → Nat → Int32 → Int32 → Int32 → Int32 → Int32 → Int32 → zMe → Option zMe
  | 0, _, _, _, _, _, _, _, _, _ => none
  | n + 1, x0, x1, x2, x3, x4, x5, x6, x7, M =>
    if x2 ≤ x7 then (
      f_X4_learn_b85 k15 k24 x0 x1 x2 x3 x4 x5 x6 M)
    else (
      if 5 ≤ x7 then (
        f_X4_learn_b85 k15 k24 x0 x1 x2 x3 x4 x5 x6 M)
      else (
        (zgN M x0 [4] 0).bind fun a1 =>
        (fv_X5_next x1 x7 x5 x4 x3 M).bind fun q1 =>
        (zwI q1.2 a1 (x6 + ((1 : Int32) <<< (x7 &&& 31))) ((1 : Int32) <<< (q1.1 &&& 31))).bind fun M1 =>
        zlet (x7 + 1) fun v1 =>
        f_X4_learn_b42 k15 k24 n x0 x1 x2 x3 x4 x5 x6 v1 M1))
set_option maxHeartbeats 4000000 in
set_option maxRecDepth 100000 in
theorem s_X4_learn_b42 {g : zG} (hC : zC g) {k15 : Nat → Nat → Int32 → Int32 → Int32 → zMe → Option zMe} {k24 : Nat → Nat → Int32 → Int32 → Int32 → Int32 → zMe → Option zMe} (hk15 : ∀ (x0 : Nat) (x1 : Nat) (x2 : Int32) (x3 : Int32) (x4 : Int32) (M : zMe) (q : zMe), k15 x0 x1 x2 x3 x4 M = some q → zW g mX4_learn 15 [.ref x0, .ref x1, .int x2, .int x3, .int x4, .retAddr 0, .retAddr 0, .retAddr 0] [] M none q) (hk24 : ∀ (x0 : Nat) (x1 : Nat) (x2 : Int32) (x3 : Int32) (x4 : Int32) (x5 : Int32) (M : zMe) (q : zMe), k24 x0 x1 x2 x3 x4 x5 M = some q → zW g mX4_learn 24 [.ref x0, .ref x1, .int x2, .int x3, .int x4, .int x5, .retAddr 0, .retAddr 0] [] M none q) : ∀ (n : Nat) (x0 : Nat) (x1 : Nat) (x2 : Int32) (x3 : Int32) (x4 : Int32) (x5 : Int32) (x6 : Int32) (x7 : Int32) (M : zMe) (q : zMe), f_X4_learn_b42 k15 k24 n x0 x1 x2 x3 x4 x5 x6 x7 M = some q → zW g mX4_learn 42 [.ref x0, .ref x1, .int x2, .int x3, .int x4, .int x5, .int x6, .int x7] [] M none q := by
  intro n
  induction n with
  | zero => intro x0 x1 x2 x3 x4 x5 x6 x7 M q h; cases h
  | succ n ih =>
    intro x0 x1 x2 x3 x4 x5 x6 x7 M q h
    rw [f_X4_learn_b42] at h
    refine z_iload (x := x7) rfl dX4_learn_42 ?_
    refine z_iload_n (x := x2) rfl dX4_learn_44 ?_
    refine z_icmp_ge (tgt := 85) dX4_learn_45 (by decide) (fun c1 => ?_) (fun c1 => ?_)
    · have h := zift h c1
      refine zweak [true, true, true, true, true, true, true, false] ?_
      exact s_X4_learn_b85 hC hk15 hk24 _ _ _ _ _ _ _ _ _ h
    · have h := zife h c1
      refine z_iload (x := x7) rfl dX4_learn_48 ?_
      refine z_iconst 5 (by decide) dX4_learn_50 ?_
      refine z_icmp_ge (tgt := 85) dX4_learn_51 (by decide) (fun c2 => ?_) (fun c2 => ?_)
      · have h := zift h c2
        refine zweak [true, true, true, true, true, true, true, false] ?_
        exact s_X4_learn_b85 hC hk15 hk24 _ _ _ _ _ _ _ _ _ h
      · have h := zife h c2
        refine z_aload_n (x := x0) rfl dX4_learn_54 ?_
        obtain ⟨a1, h1, h⟩ := zbind h
        refine z_gN hC fs_X4_9 h1 dX4_learn_55 ?_
        refine z_iload (x := x6) rfl dX4_learn_58 ?_
        refine z_iconst 1 (by decide) dX4_learn_60 ?_
        refine z_iload (x := x7) rfl dX4_learn_61 ?_
        refine z_ishl dX4_learn_63 ?_
        refine z_iadd dX4_learn_64 ?_
        refine z_iconst 1 (by decide) dX4_learn_65 ?_
        refine z_aload_n (x := x1) rfl dX4_learn_66 ?_
        refine z_iload (x := x7) rfl dX4_learn_67 ?_
        refine z_iload (x := x5) rfl dX4_learn_69 ?_
        refine z_iload (x := x4) rfl dX4_learn_71 ?_
        refine z_iload_n (x := x3) rfl dX4_learn_73 ?_
        obtain ⟨q1, h2, h⟩ := zbind h
        refine cv_X4_34 (rest := [.int 1, .int (x6 + ((1 : Int32) <<< (x7 &&& 31))), .ref a1]) hC h2 ⟨rfl, ⟨by decide, by decide⟩, ⟨by decide, by decide⟩, ⟨by decide, by decide⟩, ⟨by decide, by decide⟩⟩ (Nat.le_of_ble_eq_true rfl) dX4_learn_74 ?_
        refine zeqS (stk2 := [.int q1.1, .int 1, .int (x6 + ((1 : Int32) <<< (x7 &&& 31))), .ref a1]) rfl ?_
        refine z_ishl dX4_learn_77 ?_
        obtain ⟨M1, h3, h⟩ := zbind h
        refine z_wI h3 dX4_learn_78 ?_
        obtain ⟨v1, hv⟩ : ∃ z : Int32, z = x7 + 1 := ⟨_, rfl⟩
        have h := zlet_use h hv
        refine z_iinc (v := v1) dX4_learn_79 (x := x7) rfl (by rw [hv]; rfl) ?_
        clear hv
        refine zeqL (L2 := [.ref x0, .ref x1, .int x2, .int x3, .int x4, .int x5, .int x6, .int v1]) rfl ?_
        refine z_goto (tgt := 42) dX4_learn_82 (by decide) ?_
        exact ih _ _ _ _ _ _ _ _ _ _ h
def f_X4_learn_b24 (k15 : Nat → Nat → Int32 → Int32 → Int32 → zMe → Option zMe) : Nat → Nat → Nat → Int32 → Int32 → Int32 → Int32 → zMe → Option zMe
  | 0, _, _, _, _, _, _, _ => none
  | n + 1, x0, x1, x2, x3, x4, x5, M =>
    if 2 ≤ x5 then (
      zlet (x4 + 1) fun v1 =>
      k15 x0 x1 x2 x3 v1 M)
    else (
      (f_X4_rowOf x4 x5 M).bind fun q1 =>
      f_X4_learn_b42 k15 (f_X4_learn_b24 k15 n) zfu x0 x1 x2 x3 x4 x5 q1.1 0 q1.2)
set_option maxHeartbeats 4000000 in
set_option maxRecDepth 100000 in
theorem s_X4_learn_b24 {g : zG} (hC : zC g) {k15 : Nat → Nat → Int32 → Int32 → Int32 → zMe → Option zMe} (hk15 : ∀ (x0 : Nat) (x1 : Nat) (x2 : Int32) (x3 : Int32) (x4 : Int32) (M : zMe) (q : zMe), k15 x0 x1 x2 x3 x4 M = some q → zW g mX4_learn 15 [.ref x0, .ref x1, .int x2, .int x3, .int x4, .retAddr 0, .retAddr 0, .retAddr 0] [] M none q) : ∀ (n : Nat) (x0 : Nat) (x1 : Nat) (x2 : Int32) (x3 : Int32) (x4 : Int32) (x5 : Int32) (M : zMe) (q : zMe), f_X4_learn_b24 k15 n x0 x1 x2 x3 x4 x5 M = some q → zW g mX4_learn 24 [.ref x0, .ref x1, .int x2, .int x3, .int x4, .int x5, .retAddr 0, .retAddr 0] [] M none q := by
  intro n
  induction n with
  | zero => intro x0 x1 x2 x3 x4 x5 M q h; cases h
  | succ n ih =>
    intro x0 x1 x2 x3 x4 x5 M q h
    rw [f_X4_learn_b24] at h
    refine z_iload (x := x5) rfl dX4_learn_24 ?_
    refine z_iconst 2 (by decide) dX4_learn_26 ?_
    refine z_icmp_ge (tgt := 97) dX4_learn_27 (by decide) (fun c1 => ?_) (fun c1 => ?_)
    · have h := zift h c1
      obtain ⟨v1, hv⟩ : ∃ z : Int32, z = x4 + 1 := ⟨_, rfl⟩
      have h := zlet_use h hv
      refine z_iinc (v := v1) dX4_learn_97 (x := x4) rfl (by rw [hv]; rfl) ?_
      clear hv
      refine zeqL (L2 := [.ref x0, .ref x1, .int x2, .int x3, .int v1, .int x5, .retAddr 0, .retAddr 0]) rfl ?_
      refine z_goto (tgt := 15) dX4_learn_100 (by decide) ?_
      refine zweak [true, true, true, true, true, false, false, false] ?_
      exact hk15 _ _ _ _ _ _ _ h
    · have h := zife h c1
      refine z_iload (x := x4) rfl dX4_learn_30 ?_
      refine z_iload (x := x5) rfl dX4_learn_32 ?_
      obtain ⟨q1, h1, h⟩ := zbind h
      refine z_callS (av := [.int x4, .int x5]) (rest := []) hC (s_X4_rowOf hC h1) lk_X4_31 st_X4_rowOf cd_X4_rowOf ⟨by decide, by decide, (Nat.le_of_ble_eq_true rfl)⟩ dX4_learn_34 ?_
      refine zeqS (stk2 := [.int q1.1]) rfl ?_
      refine z_istore dX4_learn_37 (by decide) ?_
      refine zeqL (L2 := [.ref x0, .ref x1, .int x2, .int x3, .int x4, .int x5, .int q1.1, .retAddr 0]) rfl ?_
      refine z_iconst 0 (by decide) dX4_learn_39 ?_
      refine z_istore dX4_learn_40 (by decide) ?_
      refine zeqL (L2 := [.ref x0, .ref x1, .int x2, .int x3, .int x4, .int x5, .int q1.1, .int 0]) rfl ?_
      exact s_X4_learn_b42 hC hk15 ih _ _ _ _ _ _ _ _ _ _ _ h
def f_X4_learn_b15  : Nat → Nat → Nat → Int32 → Int32 → Int32 → zMe → Option zMe
  | 0, _, _, _, _, _, _ => none
  | n + 1, x0, x1, x2, x3, x4, M =>
    if 5 ≤ x4 then (
      some M)
    else (
      f_X4_learn_b24 (f_X4_learn_b15 n) zfu x0 x1 x2 x3 x4 0 M)
set_option maxHeartbeats 4000000 in
set_option maxRecDepth 100000 in
theorem s_X4_learn_b15 {g : zG} (hC : zC g)  : ∀ (n : Nat) (x0 : Nat) (x1 : Nat) (x2 : Int32) (x3 : Int32) (x4 : Int32) (M : zMe) (q : zMe), f_X4_learn_b15  n x0 x1 x2 x3 x4 M = some q → zW g mX4_learn 15 [.ref x0, .ref x1, .int x2, .int x3, .int x4, .retAddr 0, .retAddr 0, .retAddr 0] [] M none q := by
  intro n
  induction n with
  | zero => intro x0 x1 x2 x3 x4 M q h; cases h
  | succ n ih =>
    intro x0 x1 x2 x3 x4 M q h
    rw [f_X4_learn_b15] at h
    refine z_iload (x := x4) rfl dX4_learn_15 ?_
    refine z_iconst 5 (by decide) dX4_learn_17 ?_
    refine z_icmp_ge (tgt := 103) dX4_learn_18 (by decide) (fun c1 => ?_) (fun c1 => ?_)
    · have h := zift h c1
      obtain rfl := Option.some.inj h
      exact z_ret rfl dX4_learn_103
    · have h := zife h c1
      refine z_iconst 0 (by decide) dX4_learn_21 ?_
      refine z_istore dX4_learn_22 (by decide) ?_
      refine zeqL (L2 := [.ref x0, .ref x1, .int x2, .int x3, .int x4, .int 0, .retAddr 0, .retAddr 0]) rfl ?_
      exact s_X4_learn_b24 hC ih _ _ _ _ _ _ _ _ _ h
def f_X4_learn (x0 : Nat) (x1 : Nat) (x2 : Int32) (x3 : Int32) (M : zMe) : Option zMe :=
  zlet (if (32 : Int32) < ((1 : Int32) <<< (x2 &&& 31)) then 32 else (1 : Int32) <<< (x2 &&& 31) : Int32) fun v1 =>
  (zpI M x0 [4] 3 v1).bind fun M1 =>
  f_X4_learn_b15 zfu x0 x1 x2 x3 0 M1
set_option maxHeartbeats 4000000 in
set_option maxRecDepth 100000 in
theorem s_X4_learn {g : zG} (hC : zC g) {x0 : Nat} {x1 : Nat} {x2 : Int32} {x3 : Int32} {M : zMe} {q : zMe} (h : f_X4_learn x0 x1 x2 x3 M = some q) : zMet g yX4_learn mX4_learn [.ref x0, .ref x1, .int x2, .int x3] M none q := by
  refine z_entry (by decide +kernel) rfl rfl (Nat.le_of_ble_eq_true rfl) ?_
  refine zeqL (L2 := [.ref x0, .ref x1, .int x2, .int x3, .retAddr 0, .retAddr 0, .retAddr 0, .retAddr 0]) rfl ?_
  unfold f_X4_learn at h
  refine z_aload_n (x := x0) rfl dX4_learn_0 ?_
  refine z_iconst 1 (by decide) dX4_learn_1 ?_
  refine z_iload_n (x := x2) rfl dX4_learn_2 ?_
  refine z_ishl dX4_learn_3 ?_
  refine z_bipush 32 (by decide) dX4_learn_4 ?_
  refine z_mmin hC lk_X4_25 (by decide) (Nat.le_of_ble_eq_true rfl) dX4_learn_6 ?_
  refine z_nameI (fun v1 hv => ?_)
  have h := zlet_use h hv
  clear hv
  obtain ⟨M1, h1, h⟩ := zbind h
  refine z_pI hC fp_X4_21 h1 dX4_learn_9 ?_
  refine z_iconst 0 (by decide) dX4_learn_12 ?_
  refine z_istore dX4_learn_13 (by decide) ?_
  refine zeqL (L2 := [.ref x0, .ref x1, .int x2, .int x3, .int 0, .retAddr 0, .retAddr 0, .retAddr 0]) rfl ?_
  exact s_X4_learn_b15 hC _ _ _ _ _ _ _ _ h
def f_X11_phaseOf_b14  (y0 : Int32) (M : zMe) : Option (Int32 × zMe) :=
  some (y0, M)
set_option maxHeartbeats 4000000 in
set_option maxRecDepth 100000 in
theorem s_X11_phaseOf_b14 {g : zG} (hC : zC g)  (y0 : Int32) (M : zMe) (q : (Int32 × zMe)) (h : f_X11_phaseOf_b14  y0 M = some q) : zW g mX11_phaseOf 14 [.retAddr 0] [.int y0] M (some (.int q.1)) q.2 := by
  unfold f_X11_phaseOf_b14 at h
  obtain rfl := Option.some.inj h
  exact z_iret ⟨.int, rfl, rfl⟩ dX11_phaseOf_14
def f_X11_phaseOf (x0 : Int32) (M : zMe) : Option (Int32 × zMe) :=
  if 3 ≤ x0 then (
    f_X11_phaseOf_b14 (4 - (x0 &&& 1)) M)
  else (
    f_X11_phaseOf_b14 x0 M)
set_option maxHeartbeats 4000000 in
set_option maxRecDepth 100000 in
theorem s_X11_phaseOf {g : zG} (hC : zC g) {x0 : Int32} {M : zMe} {q : (Int32 × zMe)} (h : f_X11_phaseOf x0 M = some q) : zMet g yX11_phaseOf mX11_phaseOf [.int x0] M (some (.int q.1)) q.2 := by
  refine z_entry (by decide +kernel) rfl rfl (Nat.le_of_ble_eq_true rfl) ?_
  refine zeqL (L2 := [.int x0]) rfl ?_
  unfold f_X11_phaseOf at h
  refine z_iload_n (x := x0) rfl dX11_phaseOf_0 ?_
  refine z_iconst 3 (by decide) dX11_phaseOf_1 ?_
  refine z_icmp_ge (tgt := 9) dX11_phaseOf_2 (by decide) (fun c1 => ?_) (fun c1 => ?_)
  · have h := zift h c1
    refine z_iconst 4 (by decide) dX11_phaseOf_9 ?_
    refine z_iload_n (x := x0) rfl dX11_phaseOf_10 ?_
    refine z_iconst 1 (by decide) dX11_phaseOf_11 ?_
    refine z_iand dX11_phaseOf_12 ?_
    refine z_isub dX11_phaseOf_13 ?_
    refine zweak [false] ?_
    exact s_X11_phaseOf_b14 hC _ _ _ h
  · have h := zife h c1
    refine z_iload_n (x := x0) rfl dX11_phaseOf_5 ?_
    refine z_goto (tgt := 14) dX11_phaseOf_6 (by decide) ?_
    refine zweak [false] ?_
    exact s_X11_phaseOf_b14 hC _ _ _ h
def f_X4_findEnds_b104 (k42 : Nat → Int32 → Int32 → zMe → Option zMe) (k82 : Nat → Int32 → Int32 → Int32 → Int32 → Int32 → Int32 → Int32 → zMe → Option zMe) (x0 : Nat) (x1 : Int32) (x3 : Int32) (x4 : Int32) (x5 : Int32) (x6 : Int32) (x7 : Int32) (x8 : Int32) (y0 : Int32) (M : zMe) : Option zMe :=
  (zgN M x0 [4] 1).bind fun a1 =>
  (zgN M x0 [4] 1).bind fun a2 =>
  (zgN M x0 [4] 0).bind fun a3 =>
  (zrI M a3 (x4 + x8)).bind fun v1 =>
  (zrI M a2 (x7 + v1)).bind fun v2 =>
  (zgN M x0 [4] 1).bind fun a4 =>
  (zgN M x0 [4] 0).bind fun a5 =>
  (zrI M a5 (x5 + x8)).bind fun v3 =>
  (zrI M a4 (x7 + v3)).bind fun v4 =>
  (zwI M a1 (x6 + x8) ((y0 ||| v2) ||| v4)).bind fun M1 =>
  zlet (x8 + 1) fun v5 =>
  k82 x0 x1 x3 x4 x5 x6 x7 v5 M1
set_option maxHeartbeats 4000000 in
set_option maxRecDepth 100000 in
theorem s_X4_findEnds_b104 {g : zG} (hC : zC g) {k42 : Nat → Int32 → Int32 → zMe → Option zMe} {k82 : Nat → Int32 → Int32 → Int32 → Int32 → Int32 → Int32 → Int32 → zMe → Option zMe} (hk42 : ∀ (x0 : Nat) (x1 : Int32) (x3 : Int32) (M : zMe) (q : zMe), k42 x0 x1 x3 M = some q → zW g mX4_findEnds 42 [.ref x0, .int x1, .retAddr 0, .int x3, .retAddr 0, .retAddr 0, .retAddr 0, .retAddr 0, .retAddr 0, .retAddr 0] [] M none q) (hk82 : ∀ (x0 : Nat) (x1 : Int32) (x3 : Int32) (x4 : Int32) (x5 : Int32) (x6 : Int32) (x7 : Int32) (x8 : Int32) (M : zMe) (q : zMe), k82 x0 x1 x3 x4 x5 x6 x7 x8 M = some q → zW g mX4_findEnds 82 [.ref x0, .int x1, .retAddr 0, .int x3, .int x4, .int x5, .int x6, .int x7, .int x8, .retAddr 0] [] M none q) (x0 : Nat) (x1 : Int32) (x3 : Int32) (x4 : Int32) (x5 : Int32) (x6 : Int32) (x7 : Int32) (x8 : Int32) (y0 : Int32) (M : zMe) (q : zMe) (h : f_X4_findEnds_b104 k42 k82 x0 x1 x3 x4 x5 x6 x7 x8 y0 M = some q) : zW g mX4_findEnds 104 [.ref x0, .int x1, .retAddr 0, .int x3, .int x4, .int x5, .int x6, .int x7, .int x8, .retAddr 0] [.int y0] M none q := by
  unfold f_X4_findEnds_b104 at h
  refine z_istore dX4_findEnds_104 (by decide) ?_
  refine zeqL (L2 := [.ref x0, .int x1, .retAddr 0, .int x3, .int x4, .int x5, .int x6, .int x7, .int x8, .int y0]) rfl ?_
  refine z_aload_n (x := x0) rfl dX4_findEnds_106 ?_
  obtain ⟨a1, h1, h⟩ := zbind h
  refine z_gN hC fs_X4_15 h1 dX4_findEnds_107 ?_
  refine z_iload (x := x6) rfl dX4_findEnds_110 ?_
  refine z_iload (x := x8) rfl dX4_findEnds_112 ?_
  refine z_iadd dX4_findEnds_114 ?_
  refine z_iload (x := y0) rfl dX4_findEnds_115 ?_
  refine z_aload_n (x := x0) rfl dX4_findEnds_117 ?_
  obtain ⟨a2, h2, h⟩ := zbind h
  refine z_gN hC fs_X4_15 h2 dX4_findEnds_118 ?_
  refine z_iload (x := x7) rfl dX4_findEnds_121 ?_
  refine z_aload_n (x := x0) rfl dX4_findEnds_123 ?_
  obtain ⟨a3, h3, h⟩ := zbind h
  refine z_gN hC fs_X4_9 h3 dX4_findEnds_124 ?_
  refine z_iload (x := x4) rfl dX4_findEnds_127 ?_
  refine z_iload (x := x8) rfl dX4_findEnds_129 ?_
  refine z_iadd dX4_findEnds_131 ?_
  obtain ⟨v1, h4, h⟩ := zbind h
  refine z_rI h4 dX4_findEnds_132 ?_
  refine z_iadd dX4_findEnds_133 ?_
  obtain ⟨v2, h5, h⟩ := zbind h
  refine z_rI h5 dX4_findEnds_134 ?_
  refine z_ior dX4_findEnds_135 ?_
  refine z_aload_n (x := x0) rfl dX4_findEnds_136 ?_
  obtain ⟨a4, h6, h⟩ := zbind h
  refine z_gN hC fs_X4_15 h6 dX4_findEnds_137 ?_
  refine z_iload (x := x7) rfl dX4_findEnds_140 ?_
  refine z_aload_n (x := x0) rfl dX4_findEnds_142 ?_
  obtain ⟨a5, h7, h⟩ := zbind h
  refine z_gN hC fs_X4_9 h7 dX4_findEnds_143 ?_
  refine z_iload (x := x5) rfl dX4_findEnds_146 ?_
  refine z_iload (x := x8) rfl dX4_findEnds_148 ?_
  refine z_iadd dX4_findEnds_150 ?_
  obtain ⟨v3, h8, h⟩ := zbind h
  refine z_rI h8 dX4_findEnds_151 ?_
  refine z_iadd dX4_findEnds_152 ?_
  obtain ⟨v4, h9, h⟩ := zbind h
  refine z_rI h9 dX4_findEnds_153 ?_
  refine z_ior dX4_findEnds_154 ?_
  obtain ⟨M1, h10, h⟩ := zbind h
  refine z_wI h10 dX4_findEnds_155 ?_
  obtain ⟨v5, hv⟩ : ∃ z : Int32, z = x8 + 1 := ⟨_, rfl⟩
  have h := zlet_use h hv
  refine z_iinc (v := v5) dX4_findEnds_156 (x := x8) rfl (by rw [hv]; rfl) ?_
  clear hv
  refine zeqL (L2 := [.ref x0, .int x1, .retAddr 0, .int x3, .int x4, .int x5, .int x6, .int x7, .int v5, .int y0]) rfl ?_
  refine z_goto (tgt := 82) dX4_findEnds_159 (by decide) ?_
  refine zweak [true, true, false, true, true, true, true, true, true, false] ?_
  exact hk82 _ _ _ _ _ _ _ _ _ _ h
def f_X4_findEnds_b82 (k42 : Nat → Int32 → Int32 → zMe → Option zMe) : Nat → Nat → Int32 → Int32 → Int32 → Int32 → Int32 → Int32 → Int32 → zMe → Option zMe
  | 0, _, _, _, _, _, _, _, _, _ => none
  | n + 1, x0, x1, x3, x4, x5, x6, x7, x8, M =>
    (zgI M x0 [4] 3).bind fun v1 =>
    if v1 ≤ x8 then (
      zlet (x3 + (-1)) fun v2 =>
      k42 x0 x1 v2 M)
    else (
      if x8 = x1 then (
        f_X4_findEnds_b104 k42 (f_X4_findEnds_b82 k42 n) x0 x1 x3 x4 x5 x6 x7 x8 ((1 : Int32) <<< (x3 &&& 31)) M)
      else (
        f_X4_findEnds_b104 k42 (f_X4_findEnds_b82 k42 n) x0 x1 x3 x4 x5 x6 x7 x8 0 M))
set_option maxHeartbeats 4000000 in
set_option maxRecDepth 100000 in
theorem s_X4_findEnds_b82 {g : zG} (hC : zC g) {k42 : Nat → Int32 → Int32 → zMe → Option zMe} (hk42 : ∀ (x0 : Nat) (x1 : Int32) (x3 : Int32) (M : zMe) (q : zMe), k42 x0 x1 x3 M = some q → zW g mX4_findEnds 42 [.ref x0, .int x1, .retAddr 0, .int x3, .retAddr 0, .retAddr 0, .retAddr 0, .retAddr 0, .retAddr 0, .retAddr 0] [] M none q) : ∀ (n : Nat) (x0 : Nat) (x1 : Int32) (x3 : Int32) (x4 : Int32) (x5 : Int32) (x6 : Int32) (x7 : Int32) (x8 : Int32) (M : zMe) (q : zMe), f_X4_findEnds_b82 k42 n x0 x1 x3 x4 x5 x6 x7 x8 M = some q → zW g mX4_findEnds 82 [.ref x0, .int x1, .retAddr 0, .int x3, .int x4, .int x5, .int x6, .int x7, .int x8, .retAddr 0] [] M none q := by
  intro n
  induction n with
  | zero => intro x0 x1 x3 x4 x5 x6 x7 x8 M q h; cases h
  | succ n ih =>
    intro x0 x1 x3 x4 x5 x6 x7 x8 M q h
    rw [f_X4_findEnds_b82] at h
    refine z_iload (x := x8) rfl dX4_findEnds_82 ?_
    refine z_aload_n (x := x0) rfl dX4_findEnds_84 ?_
    obtain ⟨v1, h1, h⟩ := zbind h
    refine z_gI hC fs_X4_21 h1 dX4_findEnds_85 ?_
    refine z_icmp_ge (tgt := 162) dX4_findEnds_88 (by decide) (fun c1 => ?_) (fun c1 => ?_)
    · have h := zift h c1
      obtain ⟨v2, hv⟩ : ∃ z : Int32, z = x3 + (-1) := ⟨_, rfl⟩
      have h := zlet_use h hv
      refine z_iinc (v := v2) dX4_findEnds_162 (x := x3) rfl (by rw [hv]; rfl) ?_
      clear hv
      refine zeqL (L2 := [.ref x0, .int x1, .retAddr 0, .int v2, .int x4, .int x5, .int x6, .int x7, .int x8, .retAddr 0]) rfl ?_
      refine z_goto (tgt := 42) dX4_findEnds_165 (by decide) ?_
      refine zweak [true, true, false, true, false, false, false, false, false, false] ?_
      exact hk42 _ _ _ _ _ h
    · have h := zife h c1
      refine z_iload (x := x8) rfl dX4_findEnds_91 ?_
      refine z_iload_n (x := x1) rfl dX4_findEnds_93 ?_
      refine z_icmp_ne (tgt := 103) dX4_findEnds_94 (by decide) (fun c2 => ?_) (fun c2 => ?_)
      · have h := zife h c2
        refine z_iconst 0 (by decide) dX4_findEnds_103 ?_
        exact s_X4_findEnds_b104 hC hk42 ih _ _ _ _ _ _ _ _ _ _ _ h
      · have h := zift h c2
        refine z_iconst 1 (by decide) dX4_findEnds_97 ?_
        refine z_iload_n (x := x3) rfl dX4_findEnds_98 ?_
        refine z_ishl dX4_findEnds_99 ?_
        refine z_goto (tgt := 104) dX4_findEnds_100 (by decide) ?_
        exact s_X4_findEnds_b104 hC hk42 ih _ _ _ _ _ _ _ _ _ _ _ h
def f_X4_findEnds_b42  : Nat → Nat → Int32 → Int32 → zMe → Option zMe
  | 0, _, _, _, _ => none
  | n + 1, x0, x1, x3, M =>
    if x3 < 0 then (
      some M)
    else (
      (f_X11_phaseOf x3 M).bind fun q1 =>
      (f_X4_rowOf q1.1 0 q1.2).bind fun q2 =>
      (f_X11_phaseOf x3 q2.2).bind fun q3 =>
      (f_X4_rowOf q3.1 1 q3.2).bind fun q4 =>
      zlet (x3 * 32 : Int32) fun v1 =>
      zlet (v1 + 32 : Int32) fun v2 =>
      f_X4_findEnds_b82 (f_X4_findEnds_b42 n) zfu x0 x1 x3 q2.1 q4.1 v1 v2 1 q4.2)
set_option maxHeartbeats 4000000 in
set_option maxRecDepth 100000 in
theorem s_X4_findEnds_b42 {g : zG} (hC : zC g)  : ∀ (n : Nat) (x0 : Nat) (x1 : Int32) (x3 : Int32) (M : zMe) (q : zMe), f_X4_findEnds_b42  n x0 x1 x3 M = some q → zW g mX4_findEnds 42 [.ref x0, .int x1, .retAddr 0, .int x3, .retAddr 0, .retAddr 0, .retAddr 0, .retAddr 0, .retAddr 0, .retAddr 0] [] M none q := by
  intro n
  induction n with
  | zero => intro x0 x1 x3 M q h; cases h
  | succ n ih =>
    intro x0 x1 x3 M q h
    rw [f_X4_findEnds_b42] at h
    refine z_iload_n (x := x3) rfl dX4_findEnds_42 ?_
    refine z_if_lt (tgt := 168) dX4_findEnds_43 (by decide) (fun c1 => ?_) (fun c1 => ?_)
    · have h := zift h c1
      obtain rfl := Option.some.inj h
      exact z_ret rfl dX4_findEnds_168
    · have h := zife h c1
      refine z_iload_n (x := x3) rfl dX4_findEnds_46 ?_
      obtain ⟨q1, h1, h⟩ := zbind h
      refine z_callSN (av := [.int x3]) (rest := []) hC (s_X11_phaseOf hC h1) ln_X4_44 st_X11_phaseOf cd_X11_phaseOf ⟨by decide, by decide, (Nat.le_of_ble_eq_true rfl)⟩ dX4_findEnds_47 ?_
      refine zeqS (stk2 := [.int q1.1]) rfl ?_
      refine z_iconst 0 (by decide) dX4_findEnds_50 ?_
      obtain ⟨q2, h2, h⟩ := zbind h
      refine z_callS (av := [.int q1.1, .int 0]) (rest := []) hC (s_X4_rowOf hC h2) lk_X4_31 st_X4_rowOf cd_X4_rowOf ⟨by decide, by decide, (Nat.le_of_ble_eq_true rfl)⟩ dX4_findEnds_51 ?_
      refine zeqS (stk2 := [.int q2.1]) rfl ?_
      refine z_istore dX4_findEnds_54 (by decide) ?_
      refine zeqL (L2 := [.ref x0, .int x1, .retAddr 0, .int x3, .int q2.1, .retAddr 0, .retAddr 0, .retAddr 0, .retAddr 0, .retAddr 0]) rfl ?_
      refine z_iload_n (x := x3) rfl dX4_findEnds_56 ?_
      obtain ⟨q3, h3, h⟩ := zbind h
      refine z_callSN (av := [.int x3]) (rest := []) hC (s_X11_phaseOf hC h3) ln_X4_44 st_X11_phaseOf cd_X11_phaseOf ⟨by decide, by decide, (Nat.le_of_ble_eq_true rfl)⟩ dX4_findEnds_57 ?_
      refine zeqS (stk2 := [.int q3.1]) rfl ?_
      refine z_iconst 1 (by decide) dX4_findEnds_60 ?_
      obtain ⟨q4, h4, h⟩ := zbind h
      refine z_callS (av := [.int q3.1, .int 1]) (rest := []) hC (s_X4_rowOf hC h4) lk_X4_31 st_X4_rowOf cd_X4_rowOf ⟨by decide, by decide, (Nat.le_of_ble_eq_true rfl)⟩ dX4_findEnds_61 ?_
      refine zeqS (stk2 := [.int q4.1]) rfl ?_
      refine z_istore dX4_findEnds_64 (by decide) ?_
      refine zeqL (L2 := [.ref x0, .int x1, .retAddr 0, .int x3, .int q2.1, .int q4.1, .retAddr 0, .retAddr 0, .retAddr 0, .retAddr 0]) rfl ?_
      refine z_iload_n (x := x3) rfl dX4_findEnds_66 ?_
      refine z_bipush 32 (by decide) dX4_findEnds_67 ?_
      refine z_imul dX4_findEnds_69 ?_
      refine z_nameI (fun v1 hv => ?_)
      have h := zlet_use h hv
      clear hv
      refine z_istore dX4_findEnds_70 (by decide) ?_
      refine zeqL (L2 := [.ref x0, .int x1, .retAddr 0, .int x3, .int q2.1, .int q4.1, .int v1, .retAddr 0, .retAddr 0, .retAddr 0]) rfl ?_
      refine z_iload (x := v1) rfl dX4_findEnds_72 ?_
      refine z_bipush 32 (by decide) dX4_findEnds_74 ?_
      refine z_iadd dX4_findEnds_76 ?_
      refine z_nameI (fun v2 hv => ?_)
      have h := zlet_use h hv
      clear hv
      refine z_istore dX4_findEnds_77 (by decide) ?_
      refine zeqL (L2 := [.ref x0, .int x1, .retAddr 0, .int x3, .int q2.1, .int q4.1, .int v1, .int v2, .retAddr 0, .retAddr 0]) rfl ?_
      refine z_iconst 1 (by decide) dX4_findEnds_79 ?_
      refine z_istore dX4_findEnds_80 (by decide) ?_
      refine zeqL (L2 := [.ref x0, .int x1, .retAddr 0, .int x3, .int q2.1, .int q4.1, .int v1, .int v2, .int 1, .retAddr 0]) rfl ?_
      exact s_X4_findEnds_b82 hC ih _ _ _ _ _ _ _ _ _ _ _ h
def f_X4_findEnds_b32 (k6 : Nat → Int32 → Int32 → Int32 → zMe → Option zMe) (x0 : Nat) (x1 : Int32) (x2 : Int32) (x3 : Int32) (y0 : Int32) (y1 : Int32) (y2 : Nat) (M : zMe) : Option zMe :=
  (zwI M y2 y1 y0).bind fun M1 =>
  zlet (x3 + 1) fun v1 =>
  k6 x0 x1 x2 v1 M1
set_option maxHeartbeats 4000000 in
set_option maxRecDepth 100000 in
theorem s_X4_findEnds_b32 {g : zG} (hC : zC g) {k6 : Nat → Int32 → Int32 → Int32 → zMe → Option zMe} (hk6 : ∀ (x0 : Nat) (x1 : Int32) (x2 : Int32) (x3 : Int32) (M : zMe) (q : zMe), k6 x0 x1 x2 x3 M = some q → zW g mX4_findEnds 6 [.ref x0, .int x1, .int x2, .int x3, .retAddr 0, .retAddr 0, .retAddr 0, .retAddr 0, .retAddr 0, .retAddr 0] [] M none q) (x0 : Nat) (x1 : Int32) (x2 : Int32) (x3 : Int32) (y0 : Int32) (y1 : Int32) (y2 : Nat) (M : zMe) (q : zMe) (h : f_X4_findEnds_b32 k6 x0 x1 x2 x3 y0 y1 y2 M = some q) : zW g mX4_findEnds 32 [.ref x0, .int x1, .int x2, .int x3, .retAddr 0, .retAddr 0, .retAddr 0, .retAddr 0, .retAddr 0, .retAddr 0] [.int y0, .int y1, .ref y2] M none q := by
  unfold f_X4_findEnds_b32 at h
  obtain ⟨M1, h1, h⟩ := zbind h
  refine z_wI h1 dX4_findEnds_32 ?_
  obtain ⟨v1, hv⟩ : ∃ z : Int32, z = x3 + 1 := ⟨_, rfl⟩
  have h := zlet_use h hv
  refine z_iinc (v := v1) dX4_findEnds_33 (x := x3) rfl (by rw [hv]; rfl) ?_
  clear hv
  refine zeqL (L2 := [.ref x0, .int x1, .int x2, .int v1, .retAddr 0, .retAddr 0, .retAddr 0, .retAddr 0, .retAddr 0, .retAddr 0]) rfl ?_
  refine z_goto (tgt := 6) dX4_findEnds_36 (by decide) ?_
  exact hk6 _ _ _ _ _ _ h
def f_X4_findEnds_b6  : Nat → Nat → Int32 → Int32 → Int32 → zMe → Option zMe
  | 0, _, _, _, _, _ => none
  | n + 1, x0, x1, x2, x3, M =>
    (zgI M x0 [4] 3).bind fun v1 =>
    if v1 ≤ x3 then (
      f_X4_findEnds_b42 zfu x0 x1 19 M)
    else (
      (zgN M x0 [4] 1).bind fun a1 =>
      if x3 = x1 then (
        f_X4_findEnds_b32 (f_X4_findEnds_b6 n) x0 x1 x2 x3 1048576 (x2 + x3) a1 M)
      else (
        f_X4_findEnds_b32 (f_X4_findEnds_b6 n) x0 x1 x2 x3 0 (x2 + x3) a1 M))
set_option maxHeartbeats 4000000 in
set_option maxRecDepth 100000 in
theorem s_X4_findEnds_b6 {g : zG} (hC : zC g)  : ∀ (n : Nat) (x0 : Nat) (x1 : Int32) (x2 : Int32) (x3 : Int32) (M : zMe) (q : zMe), f_X4_findEnds_b6  n x0 x1 x2 x3 M = some q → zW g mX4_findEnds 6 [.ref x0, .int x1, .int x2, .int x3, .retAddr 0, .retAddr 0, .retAddr 0, .retAddr 0, .retAddr 0, .retAddr 0] [] M none q := by
  intro n
  induction n with
  | zero => intro x0 x1 x2 x3 M q h; cases h
  | succ n ih =>
    intro x0 x1 x2 x3 M q h
    rw [f_X4_findEnds_b6] at h
    refine z_iload_n (x := x3) rfl dX4_findEnds_6 ?_
    refine z_aload_n (x := x0) rfl dX4_findEnds_7 ?_
    obtain ⟨v1, h1, h⟩ := zbind h
    refine z_gI hC fs_X4_21 h1 dX4_findEnds_8 ?_
    refine z_icmp_ge (tgt := 39) dX4_findEnds_11 (by decide) (fun c1 => ?_) (fun c1 => ?_)
    · have h := zift h c1
      refine z_bipush 19 (by decide) dX4_findEnds_39 ?_
      refine z_istore_n dX4_findEnds_41 (by decide) ?_
      refine zeqL (L2 := [.ref x0, .int x1, .int x2, .int 19, .retAddr 0, .retAddr 0, .retAddr 0, .retAddr 0, .retAddr 0, .retAddr 0]) rfl ?_
      refine zweak [true, true, false, true, false, false, false, false, false, false] ?_
      exact s_X4_findEnds_b42 hC _ _ _ _ _ _ h
    · have h := zife h c1
      refine z_aload_n (x := x0) rfl dX4_findEnds_14 ?_
      obtain ⟨a1, h2, h⟩ := zbind h
      refine z_gN hC fs_X4_15 h2 dX4_findEnds_15 ?_
      refine z_iload_n (x := x2) rfl dX4_findEnds_18 ?_
      refine z_iload_n (x := x3) rfl dX4_findEnds_19 ?_
      refine z_iadd dX4_findEnds_20 ?_
      refine z_iload_n (x := x3) rfl dX4_findEnds_21 ?_
      refine z_iload_n (x := x1) rfl dX4_findEnds_22 ?_
      refine z_icmp_ne (tgt := 31) dX4_findEnds_23 (by decide) (fun c2 => ?_) (fun c2 => ?_)
      · have h := zife h c2
        refine z_iconst 0 (by decide) dX4_findEnds_31 ?_
        exact s_X4_findEnds_b32 hC ih _ _ _ _ _ _ _ _ _ h
      · have h := zift h c2
        refine z_ldc hC dX4_findEnds_26 kc_X4_48 ?_
        refine z_goto (tgt := 32) dX4_findEnds_28 (by decide) ?_
        exact s_X4_findEnds_b32 hC ih _ _ _ _ _ _ _ _ _ h
def f_X4_findEnds (x0 : Nat) (x1 : Int32) (M : zMe) : Option zMe :=
  f_X4_findEnds_b6 zfu x0 x1 640 1 M
set_option maxHeartbeats 4000000 in
set_option maxRecDepth 100000 in
theorem s_X4_findEnds {g : zG} (hC : zC g) {x0 : Nat} {x1 : Int32} {M : zMe} {q : zMe} (h : f_X4_findEnds x0 x1 M = some q) : zMet g yX4_findEnds mX4_findEnds [.ref x0, .int x1] M none q := by
  refine z_entry (by decide +kernel) rfl rfl (Nat.le_of_ble_eq_true rfl) ?_
  refine zeqL (L2 := [.ref x0, .int x1, .retAddr 0, .retAddr 0, .retAddr 0, .retAddr 0, .retAddr 0, .retAddr 0, .retAddr 0, .retAddr 0]) rfl ?_
  unfold f_X4_findEnds at h
  refine z_sipush 640 (by decide) dX4_findEnds_0 ?_
  refine z_istore_n dX4_findEnds_3 (by decide) ?_
  refine zeqL (L2 := [.ref x0, .int x1, .int 640, .retAddr 0, .retAddr 0, .retAddr 0, .retAddr 0, .retAddr 0, .retAddr 0, .retAddr 0]) rfl ?_
  refine z_iconst 1 (by decide) dX4_findEnds_4 ?_
  refine z_istore_n dX4_findEnds_5 (by decide) ?_
  refine zeqL (L2 := [.ref x0, .int x1, .int 640, .int 1, .retAddr 0, .retAddr 0, .retAddr 0, .retAddr 0, .retAddr 0, .retAddr 0]) rfl ?_
  exact s_X4_findEnds_b6 hC _ _ _ _ _ _ _ h
def f_X5_heedsOdd (x0 : Nat) (M : zMe) : Option (Int32 × zMe) :=
  some (0, M)
set_option maxHeartbeats 4000000 in
set_option maxRecDepth 100000 in
theorem s_X5_heedsOdd {g : zG} (hC : zC g) {x0 : Nat} {M : zMe} {q : (Int32 × zMe)} (h : f_X5_heedsOdd x0 M = some q) : zMet g yX5_heedsOdd mX5_heedsOdd [.ref x0] M (some (.int q.1)) q.2 := by
  refine z_entry (by decide +kernel) rfl rfl (Nat.le_of_ble_eq_true rfl) ?_
  refine zeqL (L2 := [.ref x0]) rfl ?_
  unfold f_X5_heedsOdd at h
  refine z_iconst 0 (by decide) dX5_heedsOdd_0 ?_
  obtain rfl := Option.some.inj h
  exact z_iret ⟨.boolean, rfl, rfl⟩ dX5_heedsOdd_1
def f_X1_heedsOdd (x0 : Nat) (M : zMe) : Option (Int32 × zMe) :=
  some (1, M)
set_option maxHeartbeats 4000000 in
set_option maxRecDepth 100000 in
theorem s_X1_heedsOdd {g : zG} (hC : zC g) {x0 : Nat} {M : zMe} {q : (Int32 × zMe)} (h : f_X1_heedsOdd x0 M = some q) : zMet g yX1_heedsOdd mX1_heedsOdd [.ref x0] M (some (.int q.1)) q.2 := by
  refine z_entry (by decide +kernel) rfl rfl (Nat.le_of_ble_eq_true rfl) ?_
  refine zeqL (L2 := [.ref x0]) rfl ?_
  unfold f_X1_heedsOdd at h
  refine z_iconst 1 (by decide) dX1_heedsOdd_0 ?_
  obtain rfl := Option.some.inj h
  exact z_iret ⟨.boolean, rfl, rfl⟩ dX1_heedsOdd_1
def fv_X5_heedsOdd (a : Nat) (M : zMe) : Option (Int32 × zMe) := match M.1 a with
  | some (.inr (ci, _)) =>
    if ci = 5 then f_X5_heedsOdd a  M else if ci = 1 then f_X1_heedsOdd a  M else if ci = 9 then f_X1_heedsOdd a  M else if ci = 6 then f_X5_heedsOdd a  M else if ci = 3 then f_X5_heedsOdd a  M else none
  | _ => none
theorem fv_X5_heedsOdd_some {a : Nat}  {M : zMe} {q : (Int32 × zMe)} (h : fv_X5_heedsOdd a  M = some q) : (∃ fs, M.1 a = some (.inr (5, fs)) ∧ f_X5_heedsOdd a  M = some q) ∨ (∃ fs, M.1 a = some (.inr (1, fs)) ∧ f_X1_heedsOdd a  M = some q) ∨ (∃ fs, M.1 a = some (.inr (9, fs)) ∧ f_X1_heedsOdd a  M = some q) ∨ (∃ fs, M.1 a = some (.inr (6, fs)) ∧ f_X5_heedsOdd a  M = some q) ∨ (∃ fs, M.1 a = some (.inr (3, fs)) ∧ f_X5_heedsOdd a  M = some q) := by
  unfold fv_X5_heedsOdd at h
  split at h
  next ci fs e =>
    by_cases c5 : ci = 5
    · exact Or.inl ⟨fs, by rw [e, c5], zift h c5⟩
    have h := zife h c5
    by_cases c1 : ci = 1
    · exact Or.inr (Or.inl ⟨fs, by rw [e, c1], zift h c1⟩)
    have h := zife h c1
    by_cases c9 : ci = 9
    · exact Or.inr (Or.inr (Or.inl ⟨fs, by rw [e, c9], zift h c9⟩))
    have h := zife h c9
    by_cases c6 : ci = 6
    · exact Or.inr (Or.inr (Or.inr (Or.inl ⟨fs, by rw [e, c6], zift h c6⟩)))
    have h := zife h c6
    by_cases c3 : ci = 3
    · exact Or.inr (Or.inr (Or.inr (Or.inr (⟨fs, by rw [e, c3], zift h c3⟩))))
    have h := zife h c3
    cases h
  next => cases h
theorem up_X0_88_1 : zUp RX0 88 RX1 "OneWhistle$Plain" ⟨"OneWhistle$Plain", "heedsOdd", "()Z"⟩ yX1_heedsOdd := ⟨by decide +kernel, by decide +kernel, Or.inr ⟨by decide +kernel, _, _, _, cd_X5_heedsOdd.1⟩, by decide +kernel, by decide +kernel, ⟨by decide +kernel, by decide +kernel⟩, rfl⟩
theorem up_X0_88_9 : zUp RX0 88 RX9 "OneWhistle$Plain" ⟨"OneWhistle$Plain", "heedsOdd", "()Z"⟩ yX1_heedsOdd := ⟨by decide +kernel, by decide +kernel, Or.inr ⟨by decide +kernel, _, _, _, cd_X5_heedsOdd.1⟩, by decide +kernel, by decide +kernel, ⟨by decide +kernel, by decide +kernel⟩, rfl⟩
theorem up_X0_88_6 : zUp RX0 88 RX6 "OneWhistle$Plain" ⟨"OneWhistle$Plain", "heedsOdd", "()Z"⟩ yX5_heedsOdd := ⟨by decide +kernel, by decide +kernel, Or.inr ⟨by decide +kernel, _, _, _, cd_X5_heedsOdd.1⟩, by decide +kernel, by decide +kernel, ⟨by decide +kernel, by decide +kernel⟩, rfl⟩
theorem up_X0_88_3 : zUp RX0 88 RX3 "OneWhistle$Plain" ⟨"OneWhistle$Plain", "heedsOdd", "()Z"⟩ yX5_heedsOdd := ⟨by decide +kernel, by decide +kernel, Or.inr ⟨by decide +kernel, _, _, _, cd_X5_heedsOdd.1⟩, by decide +kernel, by decide +kernel, ⟨by decide +kernel, by decide +kernel⟩, rfl⟩
theorem cv_X0_88 {g : zG} {t : zM} {pc : Nat} {L rest : List Value} {M M2 : zMe} {rv : Option Value} {a : Nat}  {q : (Int32 × zMe)} (hC : zC g) (h : fv_X5_heedsOdd a  M = some q) (hfit : t.1 = RX0 ∧ (mX5_heedsOdd.2.2.2.2.2.1 + 1 ≤ t.2.2.2.2.2.1 ∧ 8 + (mX5_heedsOdd.2.2.1 + 11) + mX5_heedsOdd.2.2.2.2.2.2 ≤ t.2.2.2.2.2.2) ∧ (mX1_heedsOdd.2.2.2.2.2.1 + 1 ≤ t.2.2.2.2.2.1 ∧ 8 + (mX1_heedsOdd.2.2.1 + 11) + mX1_heedsOdd.2.2.2.2.2.2 ≤ t.2.2.2.2.2.2)) (hr : (rest.map fun v => v.category).sum ≤ 8) (hd : decode t.2.1 pc = .ok (.invokevirtual 88, 3)) (kk : zW g t (pc + 3) L ((some (.int q.1)).toList ++ rest) q.2 rv M2) : zW g t pc L (([] : List Value).reverse ++ .ref a :: rest) M rv M2 := by
  obtain ⟨ht, w_X5_heedsOdd, w_X1_heedsOdd⟩ := hfit
  rcases fv_X5_heedsOdd_some h with ⟨fs, hb, h⟩ | ⟨fs, hb, h⟩ | ⟨fs, hb, h⟩ | ⟨fs, hb, h⟩ | ⟨fs, hb, h⟩
  · exact z_callV hC zcl_5 hb (s_X5_heedsOdd hC h) (by rw [ht]; exact lk_X0_88) im_X5_heedsOdd se_X5_heedsOdd cd_X5_heedsOdd ⟨w_X5_heedsOdd.1, w_X5_heedsOdd.2, hr⟩ hd kk
  · exact z_callU hC zcl_1 hb (s_X1_heedsOdd hC h) (by rw [ht]; exact up_X0_88_1) cd_X1_heedsOdd ⟨w_X1_heedsOdd.1, w_X1_heedsOdd.2, hr⟩ hd kk
  · exact z_callU hC zcl_9 hb (s_X1_heedsOdd hC h) (by rw [ht]; exact up_X0_88_9) cd_X1_heedsOdd ⟨w_X1_heedsOdd.1, w_X1_heedsOdd.2, hr⟩ hd kk
  · exact z_callU hC zcl_6 hb (s_X5_heedsOdd hC h) (by rw [ht]; exact up_X0_88_6) cd_X5_heedsOdd ⟨w_X5_heedsOdd.1, w_X5_heedsOdd.2, hr⟩ hd kk
  · exact z_callU hC zcl_3 hb (s_X5_heedsOdd hC h) (by rw [ht]; exact up_X0_88_3) cd_X5_heedsOdd ⟨w_X5_heedsOdd.1, w_X5_heedsOdd.2, hr⟩ hd kk
def f_X0_addLane (x0 : Nat) (x1 : Nat) (x2 : Nat) (x3 : Int32) (x4 : Int32) (x5 : Int32) (M : zMe) : Option zMe :=
  (zgI M x0 [0] 2).bind fun v1 =>
  if v1 < 3 then (
    (zgN M x0 [0] 0).bind fun a1 =>
    (zgI M x0 [0] 2).bind fun v2 =>
    (zrR M a1 v2).bind fun o1 =>
    (zgI M x2 [2] 0).bind fun v3 =>
    zcase o1 none fun a2 =>
    (zob M a2 4).bind fun _ =>
    (f_X4_learn a2 x1 v3 x3 M).bind fun q1 =>
    (zob q1 a2 4).bind fun _ =>
    (f_X4_findEnds a2 x5 q1).bind fun q2 =>
    (zgI q2 x0 [0] 3).bind fun v4 =>
    (zgI q2 x0 [0] 2).bind fun v5 =>
    (zpI q2 x0 [0] 3 (v4 ||| (x4 <<< ((5 * v5) &&& 31)))).bind fun M1 =>
    (zgI M1 x0 [0] 4).bind fun v6 =>
    (fv_X5_heedsOdd x1 M1).bind fun q3 =>
    (zpZ q3.2 x0 [0] 4 (v6 ||| q3.1)).bind fun M2 =>
    (zgI M2 x0 [0] 2).bind fun v7 =>
    (zpI M2 x0 [0] 2 (v7 + 1)).bind fun M3 =>
    some M3)
  else (
    some M)
set_option maxHeartbeats 4000000 in
set_option maxRecDepth 100000 in
theorem s_X0_addLane {g : zG} (hC : zC g) {x0 : Nat} {x1 : Nat} {x2 : Nat} {x3 : Int32} {x4 : Int32} {x5 : Int32} {M : zMe} {q : zMe} (h : f_X0_addLane x0 x1 x2 x3 x4 x5 M = some q) : zMet g yX0_addLane mX0_addLane [.ref x0, .ref x1, .ref x2, .int x3, .int x4, .int x5] M none q := by
  refine z_entry (by decide +kernel) rfl rfl (Nat.le_of_ble_eq_true rfl) ?_
  refine zeqL (L2 := [.ref x0, .ref x1, .ref x2, .int x3, .int x4, .int x5, .retAddr 0]) rfl ?_
  unfold f_X0_addLane at h
  refine z_aload_n (x := x0) rfl dX0_addLane_0 ?_
  obtain ⟨v1, h1, h⟩ := zbind h
  refine z_gI hC fs_X0_25 h1 dX0_addLane_1 ?_
  refine z_iconst 3 (by decide) dX0_addLane_4 ?_
  refine z_icmp_lt (tgt := 9) dX0_addLane_5 (by decide) (fun c1 => ?_) (fun c1 => ?_)
  · have h := zift h c1
    refine z_aload_n (x := x0) rfl dX0_addLane_9 ?_
    obtain ⟨a1, h2, h⟩ := zbind h
    refine z_gN hC fs_X0_12 h2 dX0_addLane_10 ?_
    refine z_aload_n (x := x0) rfl dX0_addLane_13 ?_
    obtain ⟨v2, h3, h⟩ := zbind h
    refine z_gI hC fs_X0_25 h3 dX0_addLane_14 ?_
    obtain ⟨o1, h4, h⟩ := zbind h
    refine z_rR h4 dX0_addLane_17 ?_
    refine z_astoreO dX0_addLane_18 (by decide) ?_
    refine zeqL (L2 := [.ref x0, .ref x1, .ref x2, .int x3, .int x4, .int x5, va_rf o1]) rfl ?_
    refine z_aloadO (x := o1) rfl dX0_addLane_20 ?_
    refine z_aload_n (x := x1) rfl dX0_addLane_22 ?_
    refine z_aload_n (x := x2) rfl dX0_addLane_23 ?_
    obtain ⟨v3, h5, h⟩ := zbind h
    refine z_gI hC fs_X0_77 h5 dX0_addLane_24 ?_
    refine z_iload_n (x := x3) rfl dX0_addLane_27 ?_
    obtain ⟨a2, hx, h⟩ := zopt h
    rw [hx]
    clear hx
    obtain ⟨_, hb, h⟩ := zbind h
    obtain ⟨fs, hb⟩ := zob_some hb
    obtain ⟨q1, h6, h⟩ := zbind h
    refine z_callV (av := [.ref x1, .int v3, .int x3]) (rest := []) hC zcl_4 hb (s_X4_learn hC h6) lk_X0_80 im_X4_learn se_X4_learn cd_X4_learn ⟨by decide, by decide, (Nat.le_of_ble_eq_true rfl)⟩ dX0_addLane_28 ?_
    clear hb fs
    refine zeqS (stk2 := []) rfl ?_
    refine z_aload (x := a2) rfl dX0_addLane_31 ?_
    refine z_iload (x := x5) rfl dX0_addLane_33 ?_
    obtain ⟨_, hb, h⟩ := zbind h
    obtain ⟨fs, hb⟩ := zob_some hb
    obtain ⟨q2, h7, h⟩ := zbind h
    refine z_callV (av := [.int x5]) (rest := []) hC zcl_4 hb (s_X4_findEnds hC h7) lk_X0_84 im_X4_findEnds se_X4_findEnds cd_X4_findEnds ⟨by decide, by decide, (Nat.le_of_ble_eq_true rfl)⟩ dX0_addLane_35 ?_
    clear hb fs
    refine zeqS (stk2 := []) rfl ?_
    refine z_aload_n (x := x0) rfl dX0_addLane_38 ?_
    refine z_dup rfl dX0_addLane_39 ?_
    obtain ⟨v4, h8, h⟩ := zbind h
    refine z_gI hC fs_X0_29 h8 dX0_addLane_40 ?_
    refine z_iload (x := x4) rfl dX0_addLane_43 ?_
    refine z_iconst 5 (by decide) dX0_addLane_45 ?_
    refine z_aload_n (x := x0) rfl dX0_addLane_46 ?_
    obtain ⟨v5, h9, h⟩ := zbind h
    refine z_gI hC fs_X0_25 h9 dX0_addLane_47 ?_
    refine z_imul dX0_addLane_50 ?_
    refine z_ishl dX0_addLane_51 ?_
    refine z_ior dX0_addLane_52 ?_
    obtain ⟨M1, h10, h⟩ := zbind h
    refine z_pI hC fp_X0_29 h10 dX0_addLane_53 ?_
    refine z_aload_n (x := x0) rfl dX0_addLane_56 ?_
    refine z_dup rfl dX0_addLane_57 ?_
    obtain ⟨v6, h11, h⟩ := zbind h
    refine z_gI hC fs_X0_32 h11 dX0_addLane_58 ?_
    refine z_aload_n (x := x1) rfl dX0_addLane_61 ?_
    obtain ⟨q3, h12, h⟩ := zbind h
    refine cv_X0_88 (rest := [.int v6, .ref x0]) hC h12 ⟨rfl, ⟨by decide, by decide⟩, ⟨by decide, by decide⟩⟩ (Nat.le_of_ble_eq_true rfl) dX0_addLane_62 ?_
    refine zeqS (stk2 := [.int q3.1, .int v6, .ref x0]) rfl ?_
    refine z_ior dX0_addLane_65 ?_
    obtain ⟨M2, h13, h⟩ := zbind h
    refine z_pZ hC fp_X0_32 h13 dX0_addLane_66 ?_
    refine z_aload_n (x := x0) rfl dX0_addLane_69 ?_
    refine z_dup rfl dX0_addLane_70 ?_
    obtain ⟨v7, h14, h⟩ := zbind h
    refine z_gI hC fs_X0_25 h14 dX0_addLane_71 ?_
    refine z_iconst 1 (by decide) dX0_addLane_74 ?_
    refine z_iadd dX0_addLane_75 ?_
    obtain ⟨M3, h15, h⟩ := zbind h
    refine z_pI hC fp_X0_25 h15 dX0_addLane_76 ?_
    obtain rfl := Option.some.inj h
    exact z_ret rfl dX0_addLane_79
  · have h := zife h c1
    obtain rfl := Option.some.inj h
    exact z_ret rfl dX0_addLane_8
def f_X0_follow_b64 (k18 : Nat → Nat → Int32 → Int32 → Int32 → zMe → Option zMe) (x0 : Nat) (x1 : Nat) (x2 : Int32) (x3 : Int32) (x4 : Int32) (M : zMe) : Option zMe :=
  zlet (x4 + 1) fun v1 =>
  k18 x0 x1 x2 x3 v1 M
set_option maxHeartbeats 4000000 in
set_option maxRecDepth 100000 in
theorem s_X0_follow_b64 {g : zG} (hC : zC g) {k18 : Nat → Nat → Int32 → Int32 → Int32 → zMe → Option zMe} (hk18 : ∀ (x0 : Nat) (x1 : Nat) (x2 : Int32) (x3 : Int32) (x4 : Int32) (M : zMe) (q : zMe), k18 x0 x1 x2 x3 x4 M = some q → zW g mX0_follow 18 [.ref x0, .ref x1, .int x2, .int x3, .int x4, .retAddr 0] [] M none q) (x0 : Nat) (x1 : Nat) (x2 : Int32) (x3 : Int32) (x4 : Int32) (M : zMe) (q : zMe) (h : f_X0_follow_b64 k18 x0 x1 x2 x3 x4 M = some q) : zW g mX0_follow 64 [.ref x0, .ref x1, .int x2, .int x3, .int x4, .retAddr 0] [] M none q := by
  unfold f_X0_follow_b64 at h
  obtain ⟨v1, hv⟩ : ∃ z : Int32, z = x4 + 1 := ⟨_, rfl⟩
  have h := zlet_use h hv
  refine z_iinc (v := v1) dX0_follow_64 (x := x4) rfl (by rw [hv]; rfl) ?_
  clear hv
  refine zeqL (L2 := [.ref x0, .ref x1, .int x2, .int x3, .int v1, .retAddr 0]) rfl ?_
  refine z_goto (tgt := 18) dX0_follow_67 (by decide) ?_
  exact hk18 _ _ _ _ _ _ _ h
def f_X0_follow_b18  : Nat → Nat → Nat → Int32 → Int32 → Int32 → zMe → Option zMe
  | 0, _, _, _, _, _, _ => none
  | n + 1, x0, x1, x2, x3, x4, M =>
    if 3 ≤ x4 then (
      some M)
    else (
      (zob M x1 2).bind fun _ =>
      (f_X2_dogAt x1 x4 M).bind fun q1 =>
      zcase q1.1 (
        f_X0_follow_b64 (f_X0_follow_b18 n) x0 x1 x2 x3 x4 q1.2) (fun a1 =>
        (f_X11_holds x2 x4 q1.2).bind fun q2 =>
        if q2.1 = 0 then (
          f_X0_follow_b64 (f_X0_follow_b18 n) x0 x1 x2 x3 x4 q2.2)
        else (
          (zob q2.2 x1 2).bind fun _ =>
          (f_X2_allPlaces x1 q2.2).bind fun q3 =>
          (zgI q3.2 x1 [2] 2).bind fun v1 =>
          (zob q3.2 x0 0).bind fun _ =>
          (f_X0_addLane x0 a1 x1 x3 q3.1 ((1 : Int32) <<< (v1 &&& 31)) q3.2).bind fun q4 =>
          f_X0_follow_b64 (f_X0_follow_b18 n) x0 x1 x2 x3 x4 q4)))
set_option maxHeartbeats 4000000 in
set_option maxRecDepth 100000 in
theorem s_X0_follow_b18 {g : zG} (hC : zC g)  : ∀ (n : Nat) (x0 : Nat) (x1 : Nat) (x2 : Int32) (x3 : Int32) (x4 : Int32) (M : zMe) (q : zMe), f_X0_follow_b18  n x0 x1 x2 x3 x4 M = some q → zW g mX0_follow 18 [.ref x0, .ref x1, .int x2, .int x3, .int x4, .retAddr 0] [] M none q := by
  intro n
  induction n with
  | zero => intro x0 x1 x2 x3 x4 M q h; cases h
  | succ n ih =>
    intro x0 x1 x2 x3 x4 M q h
    rw [f_X0_follow_b18] at h
    refine z_iload (x := x4) rfl dX0_follow_18 ?_
    refine z_iconst 3 (by decide) dX0_follow_20 ?_
    refine z_icmp_ge (tgt := 70) dX0_follow_21 (by decide) (fun c1 => ?_) (fun c1 => ?_)
    · have h := zift h c1
      obtain rfl := Option.some.inj h
      exact z_ret rfl dX0_follow_70
    · have h := zife h c1
      refine z_aload_n (x := x1) rfl dX0_follow_24 ?_
      refine z_iload (x := x4) rfl dX0_follow_25 ?_
      obtain ⟨_, hb, h⟩ := zbind h
      obtain ⟨fs, hb⟩ := zob_some hb
      obtain ⟨q1, h1, h⟩ := zbind h
      refine z_callV (av := [.int x4]) (rest := []) hC zcl_2 hb (s_X2_dogAt hC h1) lk_X0_56 im_X2_dogAt se_X2_dogAt cd_X2_dogAt ⟨by decide, by decide, (Nat.le_of_ble_eq_true rfl)⟩ dX0_follow_27 ?_
      clear hb fs
      refine zeqS (stk2 := [va_rf q1.1]) rfl ?_
      refine z_astoreO dX0_follow_30 (by decide) ?_
      refine zeqL (L2 := [.ref x0, .ref x1, .int x2, .int x3, .int x4, va_rf q1.1]) rfl ?_
      refine z_aloadO (x := q1.1) rfl dX0_follow_32 ?_
      obtain hx1 | ⟨a1, hx1⟩ := zon q1.1
      · have h := zcaseN h hx1
        rw [hx1]
        refine z_ifnullN (tgt := 64) dX0_follow_34 (by decide) ?_
        refine zweak [true, true, true, true, true, false] ?_
        exact s_X0_follow_b64 hC ih _ _ _ _ _ _ _ h
      · have h := zcaseS h hx1
        rw [hx1]
        refine z_ifnull dX0_follow_34 ?_
        refine z_iload_n (x := x2) rfl dX0_follow_37 ?_
        refine z_iload (x := x4) rfl dX0_follow_38 ?_
        obtain ⟨q2, h2, h⟩ := zbind h
        refine z_callSN (av := [.int x2, .int x4]) (rest := []) hC (s_X11_holds hC h2) ln_X0_62 st_X11_holds cd_X11_holds ⟨by decide, by decide, (Nat.le_of_ble_eq_true rfl)⟩ dX0_follow_40 ?_
        refine zeqS (stk2 := [.int q2.1]) rfl ?_
        refine z_if_eq (tgt := 64) dX0_follow_43 (by decide) (fun c2 => ?_) (fun c2 => ?_)
        · have h := zift h c2
          refine zweak [true, true, true, true, true, false] ?_
          exact s_X0_follow_b64 hC ih _ _ _ _ _ _ _ h
        · have h := zife h c2
          refine z_aload_n (x := x0) rfl dX0_follow_46 ?_
          refine z_aload (x := a1) rfl dX0_follow_47 ?_
          refine z_aload_n (x := x1) rfl dX0_follow_49 ?_
          refine z_iload_n (x := x3) rfl dX0_follow_50 ?_
          refine z_aload_n (x := x1) rfl dX0_follow_51 ?_
          obtain ⟨_, hb, h⟩ := zbind h
          obtain ⟨fs, hb⟩ := zob_some hb
          obtain ⟨q3, h3, h⟩ := zbind h
          refine z_callV (av := []) (rest := [.int x3, .ref x1, .ref a1, .ref x0]) hC zcl_2 hb (s_X2_allPlaces hC h3) lk_X0_66 im_X2_allPlaces se_X2_allPlaces cd_X2_allPlaces ⟨by decide, by decide, (Nat.le_of_ble_eq_true rfl)⟩ dX0_follow_52 ?_
          clear hb fs
          refine zeqS (stk2 := [.int q3.1, .int x3, .ref x1, .ref a1, .ref x0]) rfl ?_
          refine z_iconst 1 (by decide) dX0_follow_55 ?_
          refine z_aload_n (x := x1) rfl dX0_follow_56 ?_
          obtain ⟨v1, h4, h⟩ := zbind h
          refine z_gI hC fs_X0_70 h4 dX0_follow_57 ?_
          refine z_ishl dX0_follow_60 ?_
          obtain ⟨_, hb, h⟩ := zbind h
          obtain ⟨fs, hb⟩ := zob_some hb
          obtain ⟨q4, h5, h⟩ := zbind h
          refine z_callV (av := [.ref a1, .ref x1, .int x3, .int q3.1, .int ((1 : Int32) <<< (v1 &&& 31))]) (rest := []) hC zcl_0 hb (s_X0_addLane hC h5) lk_X0_73 im_X0_addLane se_X0_addLane cd_X0_addLane ⟨by decide, by decide, (Nat.le_of_ble_eq_true rfl)⟩ dX0_follow_61 ?_
          clear hb fs
          refine zeqS (stk2 := []) rfl ?_
          refine zweak [true, true, true, true, true, false] ?_
          exact s_X0_follow_b64 hC ih _ _ _ _ _ _ _ h
def f_X0_follow (x0 : Nat) (x1 : Nat) (x2 : Int32) (x3 : Int32) (M : zMe) : Option zMe :=
  (zpI M x0 [0] 2 0).bind fun M1 =>
  (zpI M1 x0 [0] 3 0).bind fun M2 =>
  (zpZ M2 x0 [0] 4 0).bind fun M3 =>
  f_X0_follow_b18 zfu x0 x1 x2 x3 0 M3
set_option maxHeartbeats 4000000 in
set_option maxRecDepth 100000 in
theorem s_X0_follow {g : zG} (hC : zC g) {x0 : Nat} {x1 : Nat} {x2 : Int32} {x3 : Int32} {M : zMe} {q : zMe} (h : f_X0_follow x0 x1 x2 x3 M = some q) : zMet g yX0_follow mX0_follow [.ref x0, .ref x1, .int x2, .int x3] M none q := by
  refine z_entry (by decide +kernel) rfl rfl (Nat.le_of_ble_eq_true rfl) ?_
  refine zeqL (L2 := [.ref x0, .ref x1, .int x2, .int x3, .retAddr 0, .retAddr 0]) rfl ?_
  unfold f_X0_follow at h
  refine z_aload_n (x := x0) rfl dX0_follow_0 ?_
  refine z_iconst 0 (by decide) dX0_follow_1 ?_
  obtain ⟨M1, h1, h⟩ := zbind h
  refine z_pI hC fp_X0_25 h1 dX0_follow_2 ?_
  refine z_aload_n (x := x0) rfl dX0_follow_5 ?_
  refine z_iconst 0 (by decide) dX0_follow_6 ?_
  obtain ⟨M2, h2, h⟩ := zbind h
  refine z_pI hC fp_X0_29 h2 dX0_follow_7 ?_
  refine z_aload_n (x := x0) rfl dX0_follow_10 ?_
  refine z_iconst 0 (by decide) dX0_follow_11 ?_
  obtain ⟨M3, h3, h⟩ := zbind h
  refine z_pZ hC fp_X0_32 h3 dX0_follow_12 ?_
  refine z_iconst 0 (by decide) dX0_follow_15 ?_
  refine z_istore dX0_follow_16 (by decide) ?_
  refine zeqL (L2 := [.ref x0, .ref x1, .int x2, .int x3, .int 0, .retAddr 0]) rfl ?_
  exact s_X0_follow_b18 hC _ _ _ _ _ _ _ _ h
def f_X8_forget (x0 : Nat) (M : zMe) : Option zMe :=
  (zgL M x0 [8] 2).bind fun v1 =>
  (zpL M x0 [8] 2 (v1 + (1 : Int64))).bind fun M1 =>
  (zpI M1 x0 [8] 1 0).bind fun M2 =>
  some M2
set_option maxHeartbeats 4000000 in
set_option maxRecDepth 100000 in
theorem s_X8_forget {g : zG} (hC : zC g) {x0 : Nat} {M : zMe} {q : zMe} (h : f_X8_forget x0 M = some q) : zMet g yX8_forget mX8_forget [.ref x0] M none q := by
  refine z_entry (by decide +kernel) rfl rfl (Nat.le_of_ble_eq_true rfl) ?_
  refine zeqL (L2 := [.ref x0]) rfl ?_
  unfold f_X8_forget at h
  refine z_aload_n (x := x0) rfl dX8_forget_0 ?_
  refine z_dup rfl dX8_forget_1 ?_
  obtain ⟨v1, h1, h⟩ := zbind h
  refine z_gL hC fs_X8_17 h1 dX8_forget_2 ?_
  refine z_lconst (1 : Int64) (by decide) dX8_forget_5 ?_
  refine z_ladd dX8_forget_6 ?_
  obtain ⟨M1, h2, h⟩ := zbind h
  refine z_pL hC fp_X8_17 h2 dX8_forget_7 ?_
  refine z_aload_n (x := x0) rfl dX8_forget_10 ?_
  refine z_iconst 0 (by decide) dX8_forget_11 ?_
  obtain ⟨M2, h3, h⟩ := zbind h
  refine z_pI hC fp_X8_13 h3 dX8_forget_12 ?_
  obtain rfl := Option.some.inj h
  exact z_ret rfl dX8_forget_15
def f_X4_endsFrom_b30  (y0 : Int32) (M : zMe) : Option (Int32 × zMe) :=
  some (y0, M)
set_option maxHeartbeats 4000000 in
set_option maxRecDepth 100000 in
theorem s_X4_endsFrom_b30 {g : zG} (hC : zC g)  (y0 : Int32) (M : zMe) (q : (Int32 × zMe)) (h : f_X4_endsFrom_b30  y0 M = some q) : zW g mX4_endsFrom 30 [.retAddr 0, .retAddr 0, .retAddr 0, .retAddr 0] [.int y0] M (some (.int q.1)) q.2 := by
  unfold f_X4_endsFrom_b30 at h
  obtain rfl := Option.some.inj h
  exact z_iret ⟨.int, rfl, rfl⟩ dX4_endsFrom_30
def f_X4_endsFrom_b29   (M : zMe) : Option (Int32 × zMe) :=
  f_X4_endsFrom_b30 0 M
set_option maxHeartbeats 4000000 in
set_option maxRecDepth 100000 in
theorem s_X4_endsFrom_b29 {g : zG} (hC : zC g)   (M : zMe) (q : (Int32 × zMe)) (h : f_X4_endsFrom_b29   M = some q) : zW g mX4_endsFrom 29 [.retAddr 0, .retAddr 0, .retAddr 0, .retAddr 0] [] M (some (.int q.1)) q.2 := by
  unfold f_X4_endsFrom_b29 at h
  refine z_iconst 0 (by decide) dX4_endsFrom_29 ?_
  exact s_X4_endsFrom_b30 hC _ _ _ h
def f_X4_endsFrom (x0 : Nat) (x1 : Int32) (x2 : Int32) (M : zMe) : Option (Int32 × zMe) :=
  zlet ((x1 * 32) + x2 : Int32) fun v1 =>
  if v1 < 0 then (
    f_X4_endsFrom_b29 M)
  else (
    (zgN M x0 [4] 1).bind fun a1 =>
    (zln M a1).bind fun v2 =>
    if v2 ≤ v1 then (
      f_X4_endsFrom_b29 M)
    else (
      (zgN M x0 [4] 1).bind fun a2 =>
      (zrI M a2 v1).bind fun v3 =>
      f_X4_endsFrom_b30 v3 M))
set_option maxHeartbeats 4000000 in
set_option maxRecDepth 100000 in
theorem s_X4_endsFrom {g : zG} (hC : zC g) {x0 : Nat} {x1 : Int32} {x2 : Int32} {M : zMe} {q : (Int32 × zMe)} (h : f_X4_endsFrom x0 x1 x2 M = some q) : zMet g yX4_endsFrom mX4_endsFrom [.ref x0, .int x1, .int x2] M (some (.int q.1)) q.2 := by
  refine z_entry (by decide +kernel) rfl rfl (Nat.le_of_ble_eq_true rfl) ?_
  refine zeqL (L2 := [.ref x0, .int x1, .int x2, .retAddr 0]) rfl ?_
  unfold f_X4_endsFrom at h
  refine z_iload_n (x := x1) rfl dX4_endsFrom_0 ?_
  refine z_bipush 32 (by decide) dX4_endsFrom_1 ?_
  refine z_imul dX4_endsFrom_3 ?_
  refine z_iload_n (x := x2) rfl dX4_endsFrom_4 ?_
  refine z_iadd dX4_endsFrom_5 ?_
  refine z_nameI (fun v1 hv => ?_)
  have h := zlet_use h hv
  clear hv
  refine z_istore_n dX4_endsFrom_6 (by decide) ?_
  refine zeqL (L2 := [.ref x0, .int x1, .int x2, .int v1]) rfl ?_
  refine z_iload_n (x := v1) rfl dX4_endsFrom_7 ?_
  refine z_if_lt (tgt := 29) dX4_endsFrom_8 (by decide) (fun c1 => ?_) (fun c1 => ?_)
  · have h := zift h c1
    refine zweak [false, false, false, false] ?_
    exact s_X4_endsFrom_b29 hC _ _ h
  · have h := zife h c1
    refine z_iload_n (x := v1) rfl dX4_endsFrom_11 ?_
    refine z_aload_n (x := x0) rfl dX4_endsFrom_12 ?_
    obtain ⟨a1, h1, h⟩ := zbind h
    refine z_gN hC fs_X4_15 h1 dX4_endsFrom_13 ?_
    obtain ⟨v2, h2, h⟩ := zbind h
    refine z_ln h2 dX4_endsFrom_16 ?_
    refine z_icmp_ge (tgt := 29) dX4_endsFrom_17 (by decide) (fun c2 => ?_) (fun c2 => ?_)
    · have h := zift h c2
      refine zweak [false, false, false, false] ?_
      exact s_X4_endsFrom_b29 hC _ _ h
    · have h := zife h c2
      refine z_aload_n (x := x0) rfl dX4_endsFrom_20 ?_
      obtain ⟨a2, h3, h⟩ := zbind h
      refine z_gN hC fs_X4_15 h3 dX4_endsFrom_21 ?_
      refine z_iload_n (x := v1) rfl dX4_endsFrom_24 ?_
      obtain ⟨v3, h4, h⟩ := zbind h
      refine z_rI h4 dX4_endsFrom_25 ?_
      refine z_goto (tgt := 30) dX4_endsFrom_26 (by decide) ?_
      refine zweak [false, false, false, false] ?_
      exact s_X4_endsFrom_b30 hC _ _ _ h
def f_J6_bitCount_0f7a4 (x0 : Int32) (M : zMe) : Option (Int32 × zMe) :=
  zlet (x0 - (((x0.toUInt32 >>> ((1 : Int32).toUInt32 &&& Int32.toUInt32 31)).toInt32) &&& 1431655765) : Int32) fun v1 =>
  zlet ((v1 &&& 858993459) + (((v1.toUInt32 >>> ((2 : Int32).toUInt32 &&& Int32.toUInt32 31)).toInt32) &&& 858993459) : Int32) fun v2 =>
  zlet ((v2 + ((v2.toUInt32 >>> ((4 : Int32).toUInt32 &&& Int32.toUInt32 31)).toInt32)) &&& 252645135 : Int32) fun v3 =>
  zlet (v3 + ((v3.toUInt32 >>> ((8 : Int32).toUInt32 &&& Int32.toUInt32 31)).toInt32) : Int32) fun v4 =>
  zlet (v4 + ((v4.toUInt32 >>> ((16 : Int32).toUInt32 &&& Int32.toUInt32 31)).toInt32) : Int32) fun v5 =>
  some (v5 &&& 63, M)
set_option maxHeartbeats 4000000 in
set_option maxRecDepth 100000 in
theorem s_J6_bitCount_0f7a4 {g : zG} (hC : zC g) {x0 : Int32} {M : zMe} {q : (Int32 × zMe)} (h : f_J6_bitCount_0f7a4 x0 M = some q) : zMet g yJ6_bitCount_0f7a4 mJ6_bitCount_0f7a4 [.int x0] M (some (.int q.1)) q.2 := by
  refine z_entry (by decide +kernel) rfl rfl (Nat.le_of_ble_eq_true rfl) ?_
  refine zeqL (L2 := [.int x0]) rfl ?_
  unfold f_J6_bitCount_0f7a4 at h
  refine z_iload_n (x := x0) rfl dJ6_bitCount_0f7a4_0 ?_
  refine z_iload_n (x := x0) rfl dJ6_bitCount_0f7a4_1 ?_
  refine z_iconst 1 (by decide) dJ6_bitCount_0f7a4_2 ?_
  refine z_iushr dJ6_bitCount_0f7a4_3 ?_
  refine z_ldc_w hC dJ6_bitCount_0f7a4_4 kc_J6_265 ?_
  refine z_iand dJ6_bitCount_0f7a4_7 ?_
  refine z_isub dJ6_bitCount_0f7a4_8 ?_
  refine z_nameI (fun v1 hv => ?_)
  have h := zlet_use h hv
  clear hv
  refine z_istore_n dJ6_bitCount_0f7a4_9 (by decide) ?_
  refine zeqL (L2 := [.int v1]) rfl ?_
  refine z_iload_n (x := v1) rfl dJ6_bitCount_0f7a4_10 ?_
  refine z_ldc_w hC dJ6_bitCount_0f7a4_11 kc_J6_266 ?_
  refine z_iand dJ6_bitCount_0f7a4_14 ?_
  refine z_iload_n (x := v1) rfl dJ6_bitCount_0f7a4_15 ?_
  refine z_iconst 2 (by decide) dJ6_bitCount_0f7a4_16 ?_
  refine z_iushr dJ6_bitCount_0f7a4_17 ?_
  refine z_ldc_w hC dJ6_bitCount_0f7a4_18 kc_J6_266 ?_
  refine z_iand dJ6_bitCount_0f7a4_21 ?_
  refine z_iadd dJ6_bitCount_0f7a4_22 ?_
  refine z_nameI (fun v2 hv => ?_)
  have h := zlet_use h hv
  clear hv
  refine z_istore_n dJ6_bitCount_0f7a4_23 (by decide) ?_
  refine zeqL (L2 := [.int v2]) rfl ?_
  refine z_iload_n (x := v2) rfl dJ6_bitCount_0f7a4_24 ?_
  refine z_iload_n (x := v2) rfl dJ6_bitCount_0f7a4_25 ?_
  refine z_iconst 4 (by decide) dJ6_bitCount_0f7a4_26 ?_
  refine z_iushr dJ6_bitCount_0f7a4_27 ?_
  refine z_iadd dJ6_bitCount_0f7a4_28 ?_
  refine z_ldc_w hC dJ6_bitCount_0f7a4_29 kc_J6_267 ?_
  refine z_iand dJ6_bitCount_0f7a4_32 ?_
  refine z_nameI (fun v3 hv => ?_)
  have h := zlet_use h hv
  clear hv
  refine z_istore_n dJ6_bitCount_0f7a4_33 (by decide) ?_
  refine zeqL (L2 := [.int v3]) rfl ?_
  refine z_iload_n (x := v3) rfl dJ6_bitCount_0f7a4_34 ?_
  refine z_iload_n (x := v3) rfl dJ6_bitCount_0f7a4_35 ?_
  refine z_bipush 8 (by decide) dJ6_bitCount_0f7a4_36 ?_
  refine z_iushr dJ6_bitCount_0f7a4_38 ?_
  refine z_iadd dJ6_bitCount_0f7a4_39 ?_
  refine z_nameI (fun v4 hv => ?_)
  have h := zlet_use h hv
  clear hv
  refine z_istore_n dJ6_bitCount_0f7a4_40 (by decide) ?_
  refine zeqL (L2 := [.int v4]) rfl ?_
  refine z_iload_n (x := v4) rfl dJ6_bitCount_0f7a4_41 ?_
  refine z_iload_n (x := v4) rfl dJ6_bitCount_0f7a4_42 ?_
  refine z_bipush 16 (by decide) dJ6_bitCount_0f7a4_43 ?_
  refine z_iushr dJ6_bitCount_0f7a4_45 ?_
  refine z_iadd dJ6_bitCount_0f7a4_46 ?_
  refine z_nameI (fun v5 hv => ?_)
  have h := zlet_use h hv
  clear hv
  refine z_istore_n dJ6_bitCount_0f7a4_47 (by decide) ?_
  refine zeqL (L2 := [.int v5]) rfl ?_
  refine z_iload_n (x := v5) rfl dJ6_bitCount_0f7a4_48 ?_
  refine z_bipush 63 (by decide) dJ6_bitCount_0f7a4_49 ?_
  refine z_iand dJ6_bitCount_0f7a4_51 ?_
  obtain rfl := Option.some.inj h
  exact z_iret ⟨.int, rfl, rfl⟩ dJ6_bitCount_0f7a4_52
def f_X11_lowestBitIndex (x0 : Int32) (M : zMe) : Option (Int32 × zMe) :=
  (f_J6_bitCount_0f7a4 ((x0 &&& (-x0)) - 1) M).bind fun q1 =>
  some (q1.1, q1.2)
set_option maxHeartbeats 4000000 in
set_option maxRecDepth 100000 in
theorem s_X11_lowestBitIndex {g : zG} (hC : zC g) {x0 : Int32} {M : zMe} {q : (Int32 × zMe)} (h : f_X11_lowestBitIndex x0 M = some q) : zMet g yX11_lowestBitIndex mX11_lowestBitIndex [.int x0] M (some (.int q.1)) q.2 := by
  refine z_entry (by decide +kernel) rfl rfl (Nat.le_of_ble_eq_true rfl) ?_
  refine zeqL (L2 := [.int x0]) rfl ?_
  unfold f_X11_lowestBitIndex at h
  refine z_iload_n (x := x0) rfl dX11_lowestBitIndex_0 ?_
  refine z_iload_n (x := x0) rfl dX11_lowestBitIndex_1 ?_
  refine z_ineg dX11_lowestBitIndex_2 ?_
  refine z_iand dX11_lowestBitIndex_3 ?_
  refine z_iconst 1 (by decide) dX11_lowestBitIndex_4 ?_
  refine z_isub dX11_lowestBitIndex_5 ?_
  obtain ⟨q1, h1, h⟩ := zbind h
  refine z_callS (av := [.int ((x0 &&& (-x0)) - 1)]) (rest := []) hC (s_J6_bitCount_0f7a4 hC h1) lk_X11_203 st_J6_bitCount_0f7a4 cd_J6_bitCount_0f7a4 ⟨by decide, by decide, (Nat.le_of_ble_eq_true rfl)⟩ dX11_lowestBitIndex_6 ?_
  refine zeqS (stk2 := [.int q1.1]) rfl ?_
  obtain rfl := Option.some.inj h
  exact z_iret ⟨.int, rfl, rfl⟩ dX11_lowestBitIndex_9
def f_X0_keyOf_b17  (y0 : Int32) (y1 : Int32) (M : zMe) : Option (Int32 × zMe) :=
  some (y1 + y0, M)
set_option maxHeartbeats 4000000 in
set_option maxRecDepth 100000 in
theorem s_X0_keyOf_b17 {g : zG} (hC : zC g)  (y0 : Int32) (y1 : Int32) (M : zMe) (q : (Int32 × zMe)) (h : f_X0_keyOf_b17  y0 y1 M = some q) : zW g mX0_keyOf 17 [.retAddr 0, .retAddr 0, .retAddr 0] [.int y0, .int y1] M (some (.int q.1)) q.2 := by
  unfold f_X0_keyOf_b17 at h
  refine z_iadd dX0_keyOf_17 ?_
  obtain rfl := Option.some.inj h
  exact z_iret ⟨.int, rfl, rfl⟩ dX0_keyOf_18
def f_X0_keyOf (x0 : Nat) (x1 : Int32) (x2 : Int32) (M : zMe) : Option (Int32 × zMe) :=
  (zgI M x0 [0] 4).bind fun v1 =>
  if v1 = 0 then (
    f_X0_keyOf_b17 0 (2 * x2) M)
  else (
    f_X0_keyOf_b17 (x1 &&& 1) (2 * x2) M)
set_option maxHeartbeats 4000000 in
set_option maxRecDepth 100000 in
theorem s_X0_keyOf {g : zG} (hC : zC g) {x0 : Nat} {x1 : Int32} {x2 : Int32} {M : zMe} {q : (Int32 × zMe)} (h : f_X0_keyOf x0 x1 x2 M = some q) : zMet g yX0_keyOf mX0_keyOf [.ref x0, .int x1, .int x2] M (some (.int q.1)) q.2 := by
  refine z_entry (by decide +kernel) rfl rfl (Nat.le_of_ble_eq_true rfl) ?_
  refine zeqL (L2 := [.ref x0, .int x1, .int x2]) rfl ?_
  unfold f_X0_keyOf at h
  refine z_iconst 2 (by decide) dX0_keyOf_0 ?_
  refine z_iload_n (x := x2) rfl dX0_keyOf_1 ?_
  refine z_imul dX0_keyOf_2 ?_
  refine z_aload_n (x := x0) rfl dX0_keyOf_3 ?_
  obtain ⟨v1, h1, h⟩ := zbind h
  refine z_gI hC fs_X0_32 h1 dX0_keyOf_4 ?_
  refine z_if_eq (tgt := 16) dX0_keyOf_7 (by decide) (fun c1 => ?_) (fun c1 => ?_)
  · have h := zift h c1
    refine z_iconst 0 (by decide) dX0_keyOf_16 ?_
    refine zweak [false, false, false] ?_
    exact s_X0_keyOf_b17 hC _ _ _ _ h
  · have h := zife h c1
    refine z_iload_n (x := x1) rfl dX0_keyOf_10 ?_
    refine z_iconst 1 (by decide) dX0_keyOf_11 ?_
    refine z_iand dX0_keyOf_12 ?_
    refine z_goto (tgt := 17) dX0_keyOf_13 (by decide) ?_
    refine zweak [false, false, false] ?_
    exact s_X0_keyOf_b17 hC _ _ _ _ h
def f_X8_isOurs_b17  (y0 : Int32) (M : zMe) : Option (Int32 × zMe) :=
  if y0 = 0 ∨ y0 = 1 then some (y0, M) else none
set_option maxHeartbeats 4000000 in
set_option maxRecDepth 100000 in
theorem s_X8_isOurs_b17 {g : zG} (hC : zC g)  (y0 : Int32) (M : zMe) (q : (Int32 × zMe)) (h : f_X8_isOurs_b17  y0 M = some q) : zW g mX8_isOurs 17 [.retAddr 0, .retAddr 0, .retAddr 0] [.int y0] M (some (.int q.1)) q.2 := by
  unfold f_X8_isOurs_b17 at h
  obtain ⟨hz, h⟩ := zifs h
  obtain rfl := Option.some.inj h
  exact z_iret ⟨.boolean, rfl, zbo hz⟩ dX8_isOurs_17
def f_X8_isOurs (x0 : Nat) (x1 : Int64) (M : zMe) : Option (Int32 × zMe) :=
  (zgL M x0 [8] 2).bind fun v1 =>
  if (lg_cmp (x1 >>> ((24 : Int32).toInt64 &&& 63)) v1) = 0 then (
    f_X8_isOurs_b17 1 M)
  else (
    f_X8_isOurs_b17 0 M)
set_option maxHeartbeats 4000000 in
set_option maxRecDepth 100000 in
theorem s_X8_isOurs {g : zG} (hC : zC g) {x0 : Nat} {x1 : Int64} {M : zMe} {q : (Int32 × zMe)} (h : f_X8_isOurs x0 x1 M = some q) : zMet g yX8_isOurs mX8_isOurs [.ref x0, .long x1] M (some (.int q.1)) q.2 := by
  refine z_entry (by decide +kernel) rfl rfl (Nat.le_of_ble_eq_true rfl) ?_
  refine zeqL (L2 := [.ref x0, .long x1, .retAddr 0]) rfl ?_
  unfold f_X8_isOurs at h
  refine z_lload_n (x := x1) rfl dX8_isOurs_0 ?_
  refine z_bipush 24 (by decide) dX8_isOurs_1 ?_
  refine z_lshr dX8_isOurs_3 ?_
  refine z_aload_n (x := x0) rfl dX8_isOurs_4 ?_
  obtain ⟨v1, h1, h⟩ := zbind h
  refine z_gL hC fs_X8_17 h1 dX8_isOurs_5 ?_
  refine z_lcmp dX8_isOurs_8 ?_
  refine z_if_ne (tgt := 16) dX8_isOurs_9 (by decide) (fun c1 => ?_) (fun c1 => ?_)
  · have h := zife h c1
    refine z_iconst 0 (by decide) dX8_isOurs_16 ?_
    refine zweak [false, false, false] ?_
    exact s_X8_isOurs_b17 hC _ _ _ h
  · have h := zift h c1
    refine z_iconst 1 (by decide) dX8_isOurs_12 ?_
    refine z_goto (tgt := 17) dX8_isOurs_13 (by decide) ?_
    refine zweak [false, false, false] ?_
    exact s_X8_isOurs_b17 hC _ _ _ h
def f_X8_keyOf (x0 : Int64) (M : zMe) : Option (Int32 × zMe) :=
  some (((x0 >>> ((8 : Int32).toInt64 &&& 63)).toInt32) &&& 65535, M)
set_option maxHeartbeats 4000000 in
set_option maxRecDepth 100000 in
theorem s_X8_keyOf {g : zG} (hC : zC g) {x0 : Int64} {M : zMe} {q : (Int32 × zMe)} (h : f_X8_keyOf x0 M = some q) : zMet g yX8_keyOf mX8_keyOf [.long x0] M (some (.int q.1)) q.2 := by
  refine z_entry (by decide +kernel) rfl rfl (Nat.le_of_ble_eq_true rfl) ?_
  refine zeqL (L2 := [.long x0, .retAddr 0]) rfl ?_
  unfold f_X8_keyOf at h
  refine z_lload_n (x := x0) rfl dX8_keyOf_0 ?_
  refine z_bipush 8 (by decide) dX8_keyOf_1 ?_
  refine z_lshr dX8_keyOf_3 ?_
  refine z_l2i dX8_keyOf_4 ?_
  refine z_ldc hC dX8_keyOf_5 kc_X8_37 ?_
  refine z_iand dX8_keyOf_7 ?_
  obtain rfl := Option.some.inj h
  exact z_iret ⟨.int, rfl, rfl⟩ dX8_keyOf_8
def f_X8_slotFor_b64  (x3 : Int32) (M : zMe) : Option (Int32 × zMe) :=
  some (x3, M)
set_option maxHeartbeats 4000000 in
set_option maxRecDepth 100000 in
theorem s_X8_slotFor_b64 {g : zG} (hC : zC g)  (x3 : Int32) (M : zMe) (q : (Int32 × zMe)) (h : f_X8_slotFor_b64  x3 M = some q) : zW g mX8_slotFor 64 [.retAddr 0, .retAddr 0, .retAddr 0, .int x3, .retAddr 0] [] M (some (.int q.1)) q.2 := by
  unfold f_X8_slotFor_b64 at h
  refine z_iload_n (x := x3) rfl dX8_slotFor_64 ?_
  obtain rfl := Option.some.inj h
  exact z_iret ⟨.int, rfl, rfl⟩ dX8_slotFor_65
def f_X8_slotFor_b20  : Nat → Nat → Int32 → Int32 → Int32 → Int32 → zMe → Option (Int32 × zMe)
  | 0, _, _, _, _, _, _ => none
  | n + 1, x0, x1, x2, x3, x4, M =>
    if x2 ≤ x4 then (
      f_X8_slotFor_b64 x3 M)
    else (
      (zgN M x0 [8] 0).bind fun a1 =>
      (zrL M a1 x3).bind fun v1 =>
      (zob M x0 8).bind fun _ =>
      (f_X8_isOurs x0 v1 M).bind fun q1 =>
      if q1.1 = 0 then (
        f_X8_slotFor_b64 x3 q1.2)
      else (
        (zgN q1.2 x0 [8] 0).bind fun a2 =>
        (zrL q1.2 a2 x3).bind fun v2 =>
        (f_X8_keyOf v2 q1.2).bind fun q2 =>
        if q2.1 = x1 then (
          f_X8_slotFor_b64 x3 q2.2)
        else (
          zlet ((x3 + 1) &&& x2 : Int32) fun v3 =>
          zlet (x4 + 1) fun v4 =>
          f_X8_slotFor_b20 n x0 x1 x2 v3 v4 q2.2)))
set_option maxHeartbeats 4000000 in
set_option maxRecDepth 100000 in
theorem s_X8_slotFor_b20 {g : zG} (hC : zC g)  : ∀ (n : Nat) (x0 : Nat) (x1 : Int32) (x2 : Int32) (x3 : Int32) (x4 : Int32) (M : zMe) (q : (Int32 × zMe)), f_X8_slotFor_b20  n x0 x1 x2 x3 x4 M = some q → zW g mX8_slotFor 20 [.ref x0, .int x1, .int x2, .int x3, .int x4] [] M (some (.int q.1)) q.2 := by
  intro n
  induction n with
  | zero => intro x0 x1 x2 x3 x4 M q h; cases h
  | succ n ih =>
    intro x0 x1 x2 x3 x4 M q h
    rw [f_X8_slotFor_b20] at h
    refine z_iload (x := x4) rfl dX8_slotFor_20 ?_
    refine z_iload_n (x := x2) rfl dX8_slotFor_22 ?_
    refine z_icmp_ge (tgt := 64) dX8_slotFor_23 (by decide) (fun c1 => ?_) (fun c1 => ?_)
    · have h := zift h c1
      refine zweak [false, false, false, true, false] ?_
      exact s_X8_slotFor_b64 hC _ _ _ h
    · have h := zife h c1
      refine z_aload_n (x := x0) rfl dX8_slotFor_26 ?_
      refine z_aload_n (x := x0) rfl dX8_slotFor_27 ?_
      obtain ⟨a1, h1, h⟩ := zbind h
      refine z_gN hC fs_X8_9 h1 dX8_slotFor_28 ?_
      refine z_iload_n (x := x3) rfl dX8_slotFor_31 ?_
      obtain ⟨v1, h2, h⟩ := zbind h
      refine z_rL h2 dX8_slotFor_32 ?_
      obtain ⟨_, hb, h⟩ := zbind h
      obtain ⟨fs, hb⟩ := zob_some hb
      obtain ⟨q1, h3, h⟩ := zbind h
      refine z_callV (av := [.long v1]) (rest := []) hC zcl_8 hb (s_X8_isOurs hC h3) lk_X8_25 im_X8_isOurs se_X8_isOurs cd_X8_isOurs ⟨by decide, by decide, (Nat.le_of_ble_eq_true rfl)⟩ dX8_slotFor_33 ?_
      clear hb fs
      refine zeqS (stk2 := [.int q1.1]) rfl ?_
      refine z_if_eq (tgt := 64) dX8_slotFor_36 (by decide) (fun c2 => ?_) (fun c2 => ?_)
      · have h := zift h c2
        refine zweak [false, false, false, true, false] ?_
        exact s_X8_slotFor_b64 hC _ _ _ h
      · have h := zife h c2
        refine z_aload_n (x := x0) rfl dX8_slotFor_39 ?_
        obtain ⟨a2, h4, h⟩ := zbind h
        refine z_gN hC fs_X8_9 h4 dX8_slotFor_40 ?_
        refine z_iload_n (x := x3) rfl dX8_slotFor_43 ?_
        obtain ⟨v2, h5, h⟩ := zbind h
        refine z_rL h5 dX8_slotFor_44 ?_
        obtain ⟨q2, h6, h⟩ := zbind h
        refine z_callS (av := [.long v2]) (rest := []) hC (s_X8_keyOf hC h6) lk_X8_39 st_X8_keyOf cd_X8_keyOf ⟨by decide, by decide, (Nat.le_of_ble_eq_true rfl)⟩ dX8_slotFor_45 ?_
        refine zeqS (stk2 := [.int q2.1]) rfl ?_
        refine z_iload_n (x := x1) rfl dX8_slotFor_48 ?_
        refine z_icmp_eq (tgt := 64) dX8_slotFor_49 (by decide) (fun c3 => ?_) (fun c3 => ?_)
        · have h := zift h c3
          refine zweak [false, false, false, true, false] ?_
          exact s_X8_slotFor_b64 hC _ _ _ h
        · have h := zife h c3
          refine z_iload_n (x := x3) rfl dX8_slotFor_52 ?_
          refine z_iconst 1 (by decide) dX8_slotFor_53 ?_
          refine z_iadd dX8_slotFor_54 ?_
          refine z_iload_n (x := x2) rfl dX8_slotFor_55 ?_
          refine z_iand dX8_slotFor_56 ?_
          refine z_nameI (fun v3 hv => ?_)
          have h := zlet_use h hv
          clear hv
          refine z_istore_n dX8_slotFor_57 (by decide) ?_
          refine zeqL (L2 := [.ref x0, .int x1, .int x2, .int v3, .int x4]) rfl ?_
          obtain ⟨v4, hv⟩ : ∃ z : Int32, z = x4 + 1 := ⟨_, rfl⟩
          have h := zlet_use h hv
          refine z_iinc (v := v4) dX8_slotFor_58 (x := x4) rfl (by rw [hv]; rfl) ?_
          clear hv
          refine zeqL (L2 := [.ref x0, .int x1, .int x2, .int v3, .int v4]) rfl ?_
          refine z_goto (tgt := 20) dX8_slotFor_61 (by decide) ?_
          exact ih _ _ _ _ _ _ _ h
def f_X8_slotFor (x0 : Nat) (x1 : Int32) (M : zMe) : Option (Int32 × zMe) :=
  (zgN M x0 [8] 0).bind fun a1 =>
  (zln M a1).bind fun v1 =>
  zlet (v1 - 1 : Int32) fun v2 =>
  zlet ((((x1 * 40503).toUInt32 >>> ((4 : Int32).toUInt32 &&& Int32.toUInt32 31)).toInt32) &&& v2 : Int32) fun v3 =>
  f_X8_slotFor_b20 zfu x0 x1 v2 v3 0 M
set_option maxHeartbeats 4000000 in
set_option maxRecDepth 100000 in
theorem s_X8_slotFor {g : zG} (hC : zC g) {x0 : Nat} {x1 : Int32} {M : zMe} {q : (Int32 × zMe)} (h : f_X8_slotFor x0 x1 M = some q) : zMet g yX8_slotFor mX8_slotFor [.ref x0, .int x1] M (some (.int q.1)) q.2 := by
  refine z_entry (by decide +kernel) rfl rfl (Nat.le_of_ble_eq_true rfl) ?_
  refine zeqL (L2 := [.ref x0, .int x1, .retAddr 0, .retAddr 0, .retAddr 0]) rfl ?_
  unfold f_X8_slotFor at h
  refine z_aload_n (x := x0) rfl dX8_slotFor_0 ?_
  obtain ⟨a1, h1, h⟩ := zbind h
  refine z_gN hC fs_X8_9 h1 dX8_slotFor_1 ?_
  obtain ⟨v1, h2, h⟩ := zbind h
  refine z_ln h2 dX8_slotFor_4 ?_
  refine z_iconst 1 (by decide) dX8_slotFor_5 ?_
  refine z_isub dX8_slotFor_6 ?_
  refine z_nameI (fun v2 hv => ?_)
  have h := zlet_use h hv
  clear hv
  refine z_istore_n dX8_slotFor_7 (by decide) ?_
  refine zeqL (L2 := [.ref x0, .int x1, .int v2, .retAddr 0, .retAddr 0]) rfl ?_
  refine z_iload_n (x := x1) rfl dX8_slotFor_8 ?_
  refine z_ldc hC dX8_slotFor_9 kc_X8_38 ?_
  refine z_imul dX8_slotFor_11 ?_
  refine z_iconst 4 (by decide) dX8_slotFor_12 ?_
  refine z_iushr dX8_slotFor_13 ?_
  refine z_iload_n (x := v2) rfl dX8_slotFor_14 ?_
  refine z_iand dX8_slotFor_15 ?_
  refine z_nameI (fun v3 hv => ?_)
  have h := zlet_use h hv
  clear hv
  refine z_istore_n dX8_slotFor_16 (by decide) ?_
  refine zeqL (L2 := [.ref x0, .int x1, .int v2, .int v3, .retAddr 0]) rfl ?_
  refine z_iconst 0 (by decide) dX8_slotFor_17 ?_
  refine z_istore dX8_slotFor_18 (by decide) ?_
  refine zeqL (L2 := [.ref x0, .int x1, .int v2, .int v3, .int 0]) rfl ?_
  exact s_X8_slotFor_b20 hC _ _ _ _ _ _ _ _ h
def f_X8_breathOf (x0 : Int64) (M : zMe) : Option (Int32 × zMe) :=
  some (x0.toInt32 &&& 255, M)
set_option maxHeartbeats 4000000 in
set_option maxRecDepth 100000 in
theorem s_X8_breathOf {g : zG} (hC : zC g) {x0 : Int64} {M : zMe} {q : (Int32 × zMe)} (h : f_X8_breathOf x0 M = some q) : zMet g yX8_breathOf mX8_breathOf [.long x0] M (some (.int q.1)) q.2 := by
  refine z_entry (by decide +kernel) rfl rfl (Nat.le_of_ble_eq_true rfl) ?_
  refine zeqL (L2 := [.long x0, .retAddr 0]) rfl ?_
  unfold f_X8_breathOf at h
  refine z_lload_n (x := x0) rfl dX8_breathOf_0 ?_
  refine z_l2i dX8_breathOf_1 ?_
  refine z_sipush 255 (by decide) dX8_breathOf_2 ?_
  refine z_iand dX8_breathOf_5 ?_
  obtain rfl := Option.some.inj h
  exact z_iret ⟨.int, rfl, rfl⟩ dX8_breathOf_6
def f_X8_grow_b76 (k42 : Nat → Nat → Int32 → zMe → Option zMe) (x0 : Nat) (x1 : Nat) (x2 : Int32) (M : zMe) : Option zMe :=
  zlet (x2 + 1) fun v1 =>
  k42 x0 x1 v1 M
set_option maxHeartbeats 4000000 in
set_option maxRecDepth 100000 in
theorem s_X8_grow_b76 {g : zG} (hC : zC g) {k42 : Nat → Nat → Int32 → zMe → Option zMe} (hk42 : ∀ (x0 : Nat) (x1 : Nat) (x2 : Int32) (M : zMe) (q : zMe), k42 x0 x1 x2 M = some q → zW g mX8_grow 42 [.ref x0, .ref x1, .int x2] [] M none q) (x0 : Nat) (x1 : Nat) (x2 : Int32) (M : zMe) (q : zMe) (h : f_X8_grow_b76 k42 x0 x1 x2 M = some q) : zW g mX8_grow 76 [.ref x0, .ref x1, .int x2] [] M none q := by
  unfold f_X8_grow_b76 at h
  obtain ⟨v1, hv⟩ : ∃ z : Int32, z = x2 + 1 := ⟨_, rfl⟩
  have h := zlet_use h hv
  refine z_iinc (v := v1) dX8_grow_76 (x := x2) rfl (by rw [hv]; rfl) ?_
  clear hv
  refine zeqL (L2 := [.ref x0, .ref x1, .int v1]) rfl ?_
  refine z_goto (tgt := 42) dX8_grow_79 (by decide) ?_
  exact hk42 _ _ _ _ _ h
def f_X8_grow_b42  : Nat → Nat → Nat → Int32 → zMe → Option zMe
  | 0, _, _, _, _ => none
  | n + 1, x0, x1, x2, M =>
    (zln M x1).bind fun v1 =>
    if v1 ≤ x2 then (
      some M)
    else (
      (zrL M x1 x2).bind fun v2 =>
      (zob M x0 8).bind fun _ =>
      (f_X8_isOurs x0 v2 M).bind fun q1 =>
      if q1.1 = 0 then (
        f_X8_grow_b76 (f_X8_grow_b42 n) x0 x1 x2 q1.2)
      else (
        (zgN q1.2 x0 [8] 0).bind fun a1 =>
        (zrL q1.2 x1 x2).bind fun v3 =>
        (f_X8_keyOf v3 q1.2).bind fun q2 =>
        (zob q2.2 x0 8).bind fun _ =>
        (f_X8_slotFor x0 q2.1 q2.2).bind fun q3 =>
        (zrL q3.2 x1 x2).bind fun v4 =>
        (zwL q3.2 a1 q3.1 v4).bind fun M1 =>
        f_X8_grow_b76 (f_X8_grow_b42 n) x0 x1 x2 M1))
set_option maxHeartbeats 4000000 in
set_option maxRecDepth 100000 in
theorem s_X8_grow_b42 {g : zG} (hC : zC g)  : ∀ (n : Nat) (x0 : Nat) (x1 : Nat) (x2 : Int32) (M : zMe) (q : zMe), f_X8_grow_b42  n x0 x1 x2 M = some q → zW g mX8_grow 42 [.ref x0, .ref x1, .int x2] [] M none q := by
  intro n
  induction n with
  | zero => intro x0 x1 x2 M q h; cases h
  | succ n ih =>
    intro x0 x1 x2 M q h
    rw [f_X8_grow_b42] at h
    refine z_iload_n (x := x2) rfl dX8_grow_42 ?_
    refine z_aload_n (x := x1) rfl dX8_grow_43 ?_
    obtain ⟨v1, h1, h⟩ := zbind h
    refine z_ln h1 dX8_grow_44 ?_
    refine z_icmp_ge (tgt := 82) dX8_grow_45 (by decide) (fun c1 => ?_) (fun c1 => ?_)
    · have h := zift h c1
      obtain rfl := Option.some.inj h
      exact z_ret rfl dX8_grow_82
    · have h := zife h c1
      refine z_aload_n (x := x0) rfl dX8_grow_48 ?_
      refine z_aload_n (x := x1) rfl dX8_grow_49 ?_
      refine z_iload_n (x := x2) rfl dX8_grow_50 ?_
      obtain ⟨v2, h2, h⟩ := zbind h
      refine z_rL h2 dX8_grow_51 ?_
      obtain ⟨_, hb, h⟩ := zbind h
      obtain ⟨fs, hb⟩ := zob_some hb
      obtain ⟨q1, h3, h⟩ := zbind h
      refine z_callV (av := [.long v2]) (rest := []) hC zcl_8 hb (s_X8_isOurs hC h3) lk_X8_25 im_X8_isOurs se_X8_isOurs cd_X8_isOurs ⟨by decide, by decide, (Nat.le_of_ble_eq_true rfl)⟩ dX8_grow_52 ?_
      clear hb fs
      refine zeqS (stk2 := [.int q1.1]) rfl ?_
      refine z_if_eq (tgt := 76) dX8_grow_55 (by decide) (fun c2 => ?_) (fun c2 => ?_)
      · have h := zift h c2
        exact s_X8_grow_b76 hC ih _ _ _ _ _ h
      · have h := zife h c2
        refine z_aload_n (x := x0) rfl dX8_grow_58 ?_
        obtain ⟨a1, h4, h⟩ := zbind h
        refine z_gN hC fs_X8_9 h4 dX8_grow_59 ?_
        refine z_aload_n (x := x0) rfl dX8_grow_62 ?_
        refine z_aload_n (x := x1) rfl dX8_grow_63 ?_
        refine z_iload_n (x := x2) rfl dX8_grow_64 ?_
        obtain ⟨v3, h5, h⟩ := zbind h
        refine z_rL h5 dX8_grow_65 ?_
        obtain ⟨q2, h6, h⟩ := zbind h
        refine z_callS (av := [.long v3]) (rest := [.ref x0, .ref a1]) hC (s_X8_keyOf hC h6) lk_X8_39 st_X8_keyOf cd_X8_keyOf ⟨by decide, by decide, (Nat.le_of_ble_eq_true rfl)⟩ dX8_grow_66 ?_
        refine zeqS (stk2 := [.int q2.1, .ref x0, .ref a1]) rfl ?_
        obtain ⟨_, hb, h⟩ := zbind h
        obtain ⟨fs, hb⟩ := zob_some hb
        obtain ⟨q3, h7, h⟩ := zbind h
        refine z_callV (av := [.int q2.1]) (rest := [.ref a1]) hC zcl_8 hb (s_X8_slotFor hC h7) lk_X8_21 im_X8_slotFor se_X8_slotFor cd_X8_slotFor ⟨by decide, by decide, (Nat.le_of_ble_eq_true rfl)⟩ dX8_grow_69 ?_
        clear hb fs
        refine zeqS (stk2 := [.int q3.1, .ref a1]) rfl ?_
        refine z_aload_n (x := x1) rfl dX8_grow_72 ?_
        refine z_iload_n (x := x2) rfl dX8_grow_73 ?_
        obtain ⟨v4, h8, h⟩ := zbind h
        refine z_rL h8 dX8_grow_74 ?_
        obtain ⟨M1, h9, h⟩ := zbind h
        refine z_wL h9 dX8_grow_75 ?_
        exact s_X8_grow_b76 hC ih _ _ _ _ _ h
def f_X8_grow_b24   (M : zMe) : Option zMe :=
  some M
set_option maxHeartbeats 4000000 in
set_option maxRecDepth 100000 in
theorem s_X8_grow_b24 {g : zG} (hC : zC g)   (M : zMe) (q : zMe) (h : f_X8_grow_b24   M = some q) : zW g mX8_grow 24 [.retAddr 0, .retAddr 0, .retAddr 0] [] M none q := by
  unfold f_X8_grow_b24 at h
  obtain rfl := Option.some.inj h
  exact z_ret rfl dX8_grow_24
def f_X8_grow (x0 : Nat) (M : zMe) : Option zMe :=
  (zgI M x0 [8] 1).bind fun v1 =>
  (zgN M x0 [8] 0).bind fun a1 =>
  (zln M a1).bind fun v2 =>
  if (2 * v1) ≤ v2 then (
    f_X8_grow_b24 M)
  else (
    (zgN M x0 [8] 0).bind fun a2 =>
    (zln M a2).bind fun v3 =>
    if v3 < 131072 then (
      (zgN M x0 [8] 0).bind fun a3 =>
      (zln M a3).bind fun v4 =>
      (znL M (2 * v4)).bind fun M1 =>
      (zpR M1 x0 [8] 0 (some M.2.1)).bind fun M2 =>
      f_X8_grow_b42 zfu x0 a3 0 M2)
    else (
      f_X8_grow_b24 M))
set_option maxHeartbeats 4000000 in
set_option maxRecDepth 100000 in
theorem s_X8_grow {g : zG} (hC : zC g) {x0 : Nat} {M : zMe} {q : zMe} (h : f_X8_grow x0 M = some q) : zMet g yX8_grow mX8_grow [.ref x0] M none q := by
  refine z_entry (by decide +kernel) rfl rfl (Nat.le_of_ble_eq_true rfl) ?_
  refine zeqL (L2 := [.ref x0, .retAddr 0, .retAddr 0]) rfl ?_
  unfold f_X8_grow at h
  refine z_iconst 2 (by decide) dX8_grow_0 ?_
  refine z_aload_n (x := x0) rfl dX8_grow_1 ?_
  obtain ⟨v1, h1, h⟩ := zbind h
  refine z_gI hC fs_X8_13 h1 dX8_grow_2 ?_
  refine z_imul dX8_grow_5 ?_
  refine z_aload_n (x := x0) rfl dX8_grow_6 ?_
  obtain ⟨a1, h2, h⟩ := zbind h
  refine z_gN hC fs_X8_9 h2 dX8_grow_7 ?_
  obtain ⟨v2, h3, h⟩ := zbind h
  refine z_ln h3 dX8_grow_10 ?_
  refine z_icmp_le (tgt := 24) dX8_grow_11 (by decide) (fun c1 => ?_) (fun c1 => ?_)
  · have h := zift h c1
    refine zweak [false, false, false] ?_
    exact s_X8_grow_b24 hC _ _ h
  · have h := zife h c1
    refine z_aload_n (x := x0) rfl dX8_grow_14 ?_
    obtain ⟨a2, h4, h⟩ := zbind h
    refine z_gN hC fs_X8_9 h4 dX8_grow_15 ?_
    obtain ⟨v3, h5, h⟩ := zbind h
    refine z_ln h5 dX8_grow_18 ?_
    refine z_ldc hC dX8_grow_19 kc_X8_42 ?_
    refine z_icmp_lt (tgt := 25) dX8_grow_21 (by decide) (fun c2 => ?_) (fun c2 => ?_)
    · have h := zift h c2
      refine z_aload_n (x := x0) rfl dX8_grow_25 ?_
      obtain ⟨a3, h6, h⟩ := zbind h
      refine z_gN hC fs_X8_9 h6 dX8_grow_26 ?_
      refine z_astore_n dX8_grow_29 (by decide) ?_
      refine zeqL (L2 := [.ref x0, .ref a3, .retAddr 0]) rfl ?_
      refine z_aload_n (x := x0) rfl dX8_grow_30 ?_
      refine z_iconst 2 (by decide) dX8_grow_31 ?_
      refine z_aload_n (x := a3) rfl dX8_grow_32 ?_
      obtain ⟨v4, h7, h⟩ := zbind h
      refine z_ln h7 dX8_grow_33 ?_
      refine z_imul dX8_grow_34 ?_
      obtain ⟨M1, h8, h⟩ := zbind h
      refine z_nL hC ac_long h8 dX8_grow_35 ?_
      obtain ⟨M2, h9, h⟩ := zbind h
      refine z_pRa hC fp_X8_9 h9 dX8_grow_37 ?_
      refine z_iconst 0 (by decide) dX8_grow_40 ?_
      refine z_istore_n dX8_grow_41 (by decide) ?_
      refine zeqL (L2 := [.ref x0, .ref a3, .int 0]) rfl ?_
      exact s_X8_grow_b42 hC _ _ _ _ _ _ h
    · have h := zife h c2
      refine zweak [false, false, false] ?_
      exact s_X8_grow_b24 hC _ _ h
def f_X8_isLess_b87   (M : zMe) : Option (Int32 × zMe) :=
  some (1, M)
set_option maxHeartbeats 4000000 in
set_option maxRecDepth 100000 in
theorem s_X8_isLess_b87 {g : zG} (hC : zC g)   (M : zMe) (q : (Int32 × zMe)) (h : f_X8_isLess_b87   M = some q) : zW g mX8_isLess 87 [.retAddr 0, .retAddr 0, .retAddr 0, .retAddr 0, .retAddr 0] [] M (some (.int q.1)) q.2 := by
  unfold f_X8_isLess_b87 at h
  refine z_iconst 1 (by decide) dX8_isLess_87 ?_
  obtain rfl := Option.some.inj h
  exact z_iret ⟨.boolean, rfl, rfl⟩ dX8_isLess_88
def f_X8_isLess_b46  (x0 : Nat) (x1 : Int32) (x2 : Int32) (x3 : Int32) (x4 : Int32) (M : zMe) : Option (Int32 × zMe) :=
  (zgN M x0 [8] 0).bind fun a1 =>
  (zgL M x0 [8] 2).bind fun v1 =>
  (zwL M a1 x3 ((((v1 <<< ((16 : Int32).toInt64 &&& 63)) ||| x1.toInt64) <<< ((8 : Int32).toInt64 &&& 63)) ||| x2.toInt64)).bind fun M1 =>
  if x4 = 0 then (
    f_X8_isLess_b87 M1)
  else (
    (zgI M1 x0 [8] 1).bind fun v2 =>
    (zpI M1 x0 [8] 1 (v2 + 1)).bind fun M2 =>
    (zob M2 x0 8).bind fun _ =>
    (f_X8_grow x0 M2).bind fun q1 =>
    f_X8_isLess_b87 q1)
set_option maxHeartbeats 4000000 in
set_option maxRecDepth 100000 in
theorem s_X8_isLess_b46 {g : zG} (hC : zC g)  (x0 : Nat) (x1 : Int32) (x2 : Int32) (x3 : Int32) (x4 : Int32) (M : zMe) (q : (Int32 × zMe)) (h : f_X8_isLess_b46  x0 x1 x2 x3 x4 M = some q) : zW g mX8_isLess 46 [.ref x0, .int x1, .int x2, .int x3, .int x4] [] M (some (.int q.1)) q.2 := by
  unfold f_X8_isLess_b46 at h
  refine z_aload_n (x := x0) rfl dX8_isLess_46 ?_
  obtain ⟨a1, h1, h⟩ := zbind h
  refine z_gN hC fs_X8_9 h1 dX8_isLess_47 ?_
  refine z_iload_n (x := x3) rfl dX8_isLess_50 ?_
  refine z_aload_n (x := x0) rfl dX8_isLess_51 ?_
  obtain ⟨v1, h2, h⟩ := zbind h
  refine z_gL hC fs_X8_17 h2 dX8_isLess_52 ?_
  refine z_bipush 16 (by decide) dX8_isLess_55 ?_
  refine z_lshl dX8_isLess_57 ?_
  refine z_iload_n (x := x1) rfl dX8_isLess_58 ?_
  refine z_i2l dX8_isLess_59 ?_
  refine z_lor dX8_isLess_60 ?_
  refine z_bipush 8 (by decide) dX8_isLess_61 ?_
  refine z_lshl dX8_isLess_63 ?_
  refine z_iload_n (x := x2) rfl dX8_isLess_64 ?_
  refine z_i2l dX8_isLess_65 ?_
  refine z_lor dX8_isLess_66 ?_
  obtain ⟨M1, h3, h⟩ := zbind h
  refine z_wL h3 dX8_isLess_67 ?_
  refine z_iload (x := x4) rfl dX8_isLess_68 ?_
  refine z_if_eq (tgt := 87) dX8_isLess_70 (by decide) (fun c1 => ?_) (fun c1 => ?_)
  · have h := zift h c1
    refine zweak [false, false, false, false, false] ?_
    exact s_X8_isLess_b87 hC _ _ h
  · have h := zife h c1
    refine z_aload_n (x := x0) rfl dX8_isLess_73 ?_
    refine z_dup rfl dX8_isLess_74 ?_
    obtain ⟨v2, h4, h⟩ := zbind h
    refine z_gI hC fs_X8_13 h4 dX8_isLess_75 ?_
    refine z_iconst 1 (by decide) dX8_isLess_78 ?_
    refine z_iadd dX8_isLess_79 ?_
    obtain ⟨M2, h5, h⟩ := zbind h
    refine z_pI hC fp_X8_13 h5 dX8_isLess_80 ?_
    refine z_aload_n (x := x0) rfl dX8_isLess_83 ?_
    obtain ⟨_, hb, h⟩ := zbind h
    obtain ⟨fs, hb⟩ := zob_some hb
    obtain ⟨q1, h6, h⟩ := zbind h
    refine z_callV (av := []) (rest := []) hC zcl_8 hb (s_X8_grow hC h6) lk_X8_34 im_X8_grow se_X8_grow cd_X8_grow ⟨by decide, by decide, (Nat.le_of_ble_eq_true rfl)⟩ dX8_isLess_84 ?_
    clear hb fs
    refine zeqS (stk2 := []) rfl ?_
    refine zweak [false, false, false, false, false] ?_
    exact s_X8_isLess_b87 hC _ _ h
def f_X8_isLess_b24  (x0 : Nat) (x1 : Int32) (x2 : Int32) (x3 : Int32) (y0 : Int32) (M : zMe) : Option (Int32 × zMe) :=
  if y0 = 0 then (
    (zgN M x0 [8] 0).bind fun a1 =>
    (zrL M a1 x3).bind fun v1 =>
    (f_X8_breathOf v1 M).bind fun q1 =>
    if x2 < q1.1 then (
      f_X8_isLess_b46 x0 x1 x2 x3 y0 q1.2)
    else (
      some (0, q1.2)))
  else (
    f_X8_isLess_b46 x0 x1 x2 x3 y0 M)
set_option maxHeartbeats 4000000 in
set_option maxRecDepth 100000 in
theorem s_X8_isLess_b24 {g : zG} (hC : zC g)  (x0 : Nat) (x1 : Int32) (x2 : Int32) (x3 : Int32) (y0 : Int32) (M : zMe) (q : (Int32 × zMe)) (h : f_X8_isLess_b24  x0 x1 x2 x3 y0 M = some q) : zW g mX8_isLess 24 [.ref x0, .int x1, .int x2, .int x3, .retAddr 0] [.int y0] M (some (.int q.1)) q.2 := by
  unfold f_X8_isLess_b24 at h
  refine z_istore dX8_isLess_24 (by decide) ?_
  refine zeqL (L2 := [.ref x0, .int x1, .int x2, .int x3, .int y0]) rfl ?_
  refine z_iload (x := y0) rfl dX8_isLess_26 ?_
  refine z_if_ne (tgt := 46) dX8_isLess_28 (by decide) (fun c1 => ?_) (fun c1 => ?_)
  · have h := zife h c1
    exact s_X8_isLess_b46 hC _ _ _ _ _ _ _ h
  · have h := zift h c1
    refine z_iload_n (x := x2) rfl dX8_isLess_31 ?_
    refine z_aload_n (x := x0) rfl dX8_isLess_32 ?_
    obtain ⟨a1, h1, h⟩ := zbind h
    refine z_gN hC fs_X8_9 h1 dX8_isLess_33 ?_
    refine z_iload_n (x := x3) rfl dX8_isLess_36 ?_
    obtain ⟨v1, h2, h⟩ := zbind h
    refine z_rL h2 dX8_isLess_37 ?_
    obtain ⟨q1, h3, h⟩ := zbind h
    refine z_callS (av := [.long v1]) (rest := [.int x2]) hC (s_X8_breathOf hC h3) lk_X8_29 st_X8_breathOf cd_X8_breathOf ⟨by decide, by decide, (Nat.le_of_ble_eq_true rfl)⟩ dX8_isLess_38 ?_
    refine zeqS (stk2 := [.int q1.1, .int x2]) rfl ?_
    refine z_icmp_lt (tgt := 46) dX8_isLess_41 (by decide) (fun c2 => ?_) (fun c2 => ?_)
    · have h := zift h c2
      exact s_X8_isLess_b46 hC _ _ _ _ _ _ _ h
    · have h := zife h c2
      refine z_iconst 0 (by decide) dX8_isLess_44 ?_
      obtain rfl := Option.some.inj h
      exact z_iret ⟨.boolean, rfl, rfl⟩ dX8_isLess_45
def f_X8_isLess (x0 : Nat) (x1 : Int32) (x2 : Int32) (M : zMe) : Option (Int32 × zMe) :=
  (zob M x0 8).bind fun _ =>
  (f_X8_slotFor x0 x1 M).bind fun q1 =>
  (zgN q1.2 x0 [8] 0).bind fun a1 =>
  (zrL q1.2 a1 q1.1).bind fun v1 =>
  (zob q1.2 x0 8).bind fun _ =>
  (f_X8_isOurs x0 v1 q1.2).bind fun q2 =>
  if q2.1 = 0 then (
    f_X8_isLess_b24 x0 x1 x2 q1.1 1 q2.2)
  else (
    f_X8_isLess_b24 x0 x1 x2 q1.1 0 q2.2)
set_option maxHeartbeats 4000000 in
set_option maxRecDepth 100000 in
theorem s_X8_isLess {g : zG} (hC : zC g) {x0 : Nat} {x1 : Int32} {x2 : Int32} {M : zMe} {q : (Int32 × zMe)} (h : f_X8_isLess x0 x1 x2 M = some q) : zMet g yX8_isLess mX8_isLess [.ref x0, .int x1, .int x2] M (some (.int q.1)) q.2 := by
  refine z_entry (by decide +kernel) rfl rfl (Nat.le_of_ble_eq_true rfl) ?_
  refine zeqL (L2 := [.ref x0, .int x1, .int x2, .retAddr 0, .retAddr 0]) rfl ?_
  unfold f_X8_isLess at h
  refine z_aload_n (x := x0) rfl dX8_isLess_0 ?_
  refine z_iload_n (x := x1) rfl dX8_isLess_1 ?_
  obtain ⟨_, hb, h⟩ := zbind h
  obtain ⟨fs, hb⟩ := zob_some hb
  obtain ⟨q1, h1, h⟩ := zbind h
  refine z_callV (av := [.int x1]) (rest := []) hC zcl_8 hb (s_X8_slotFor hC h1) lk_X8_21 im_X8_slotFor se_X8_slotFor cd_X8_slotFor ⟨by decide, by decide, (Nat.le_of_ble_eq_true rfl)⟩ dX8_isLess_2 ?_
  clear hb fs
  refine zeqS (stk2 := [.int q1.1]) rfl ?_
  refine z_istore_n dX8_isLess_5 (by decide) ?_
  refine zeqL (L2 := [.ref x0, .int x1, .int x2, .int q1.1, .retAddr 0]) rfl ?_
  refine z_aload_n (x := x0) rfl dX8_isLess_6 ?_
  refine z_aload_n (x := x0) rfl dX8_isLess_7 ?_
  obtain ⟨a1, h2, h⟩ := zbind h
  refine z_gN hC fs_X8_9 h2 dX8_isLess_8 ?_
  refine z_iload_n (x := q1.1) rfl dX8_isLess_11 ?_
  obtain ⟨v1, h3, h⟩ := zbind h
  refine z_rL h3 dX8_isLess_12 ?_
  obtain ⟨_, hb, h⟩ := zbind h
  obtain ⟨fs, hb⟩ := zob_some hb
  obtain ⟨q2, h4, h⟩ := zbind h
  refine z_callV (av := [.long v1]) (rest := []) hC zcl_8 hb (s_X8_isOurs hC h4) lk_X8_25 im_X8_isOurs se_X8_isOurs cd_X8_isOurs ⟨by decide, by decide, (Nat.le_of_ble_eq_true rfl)⟩ dX8_isLess_13 ?_
  clear hb fs
  refine zeqS (stk2 := [.int q2.1]) rfl ?_
  refine z_if_ne (tgt := 23) dX8_isLess_16 (by decide) (fun c1 => ?_) (fun c1 => ?_)
  · have h := zife h c1
    refine z_iconst 0 (by decide) dX8_isLess_23 ?_
    exact s_X8_isLess_b24 hC _ _ _ _ _ _ _ h
  · have h := zift h c1
    refine z_iconst 1 (by decide) dX8_isLess_19 ?_
    refine z_goto (tgt := 24) dX8_isLess_20 (by decide) ?_
    exact s_X8_isLess_b24 hC _ _ _ _ _ _ _ h
def f_J7_copyOf_c38d5 (x0 : Nat) (x1 : Int32) (M : zMe) : Option (Option Nat × zMe) :=
  (zln M x0).bind fun v1 =>
  if x1 = v1 then (
    none)
  else (
    (znL M x1).bind fun M1 =>
    (zln M1 x0).bind fun v2 =>
    zlet (if (x1 : Int32) < v2 then x1 else v2 : Int32) fun v3 =>
    (zcp M1 x0 0 M.2.1 0 v3).bind fun M2 =>
    some (some M.2.1, M2))
set_option maxHeartbeats 4000000 in
set_option maxRecDepth 100000 in
theorem s_J7_copyOf_c38d5 {g : zG} (hC : zC g) {x0 : Nat} {x1 : Int32} {M : zMe} {q : (Option Nat × zMe)} (h : f_J7_copyOf_c38d5 x0 x1 M = some q) : zMet g yJ7_copyOf_c38d5 mJ7_copyOf_c38d5 [.ref x0, .int x1] M (some (va_rf q.1)) q.2 := by
  refine z_entry (by decide +kernel) rfl rfl (Nat.le_of_ble_eq_true rfl) ?_
  refine zeqL (L2 := [.ref x0, .int x1, .retAddr 0]) rfl ?_
  unfold f_J7_copyOf_c38d5 at h
  refine z_iload_n (x := x1) rfl dJ7_copyOf_c38d5_0 ?_
  refine z_aload_n (x := x0) rfl dJ7_copyOf_c38d5_1 ?_
  obtain ⟨v1, h1, h⟩ := zbind h
  refine z_ln h1 dJ7_copyOf_c38d5_2 ?_
  refine z_icmp_ne (tgt := 14) dJ7_copyOf_c38d5_3 (by decide) (fun c1 => ?_) (fun c1 => ?_)
  · have h := zife h c1
    refine z_iload_n (x := x1) rfl dJ7_copyOf_c38d5_14 ?_
    obtain ⟨M1, h2, h⟩ := zbind h
    refine z_nL hC ac_long h2 dJ7_copyOf_c38d5_15 ?_
    refine z_astore_n dJ7_copyOf_c38d5_17 (by decide) ?_
    refine zeqL (L2 := [.ref x0, .int x1, .ref M.2.1]) rfl ?_
    refine z_aload_n (x := x0) rfl dJ7_copyOf_c38d5_18 ?_
    refine z_iconst 0 (by decide) dJ7_copyOf_c38d5_19 ?_
    refine z_aload_n (x := M.2.1) rfl dJ7_copyOf_c38d5_20 ?_
    refine z_iconst 0 (by decide) dJ7_copyOf_c38d5_21 ?_
    refine z_aload_n (x := x0) rfl dJ7_copyOf_c38d5_22 ?_
    obtain ⟨v2, h3, h⟩ := zbind h
    refine z_ln h3 dJ7_copyOf_c38d5_23 ?_
    refine z_iload_n (x := x1) rfl dJ7_copyOf_c38d5_24 ?_
    refine z_mmin hC lk_J7_304 (by decide) (Nat.le_of_ble_eq_true rfl) dJ7_copyOf_c38d5_25 ?_
    refine z_nameI (fun v3 hv => ?_)
    have h := zlet_use h hv
    clear hv
    obtain ⟨M2, h4, h⟩ := zbind h
    refine z_cp hC lk_J7_150 nat_copy st_copy ini_sys (by decide) (Nat.le_of_ble_eq_true rfl) h4 dJ7_copyOf_c38d5_28 ?_
    refine z_aload_n (x := M.2.1) rfl dJ7_copyOf_c38d5_31 ?_
    obtain rfl := Option.some.inj h
    exact z_aret (x := some M.2.1) rfl (Or.inr ⟨_, rfl⟩) dJ7_copyOf_c38d5_32
  · have h := zift h c1
    refine z_aload_n (x := x0) rfl dJ7_copyOf_c38d5_6 ?_
    cases h
def f_X0_keep_b40  (x0 : Nat) (x1 : Int32) (x2 : Int32) (x3 : Int32) (M : zMe) : Option zMe :=
  (zgN M x0 [0] 6).bind fun a1 =>
  (zgI M x0 [0] 7).bind fun v1 =>
  (zwL M a1 v1 ((((x3.toInt64 <<< ((20 : Int32).toInt64 &&& 63)) ||| x2.toInt64) <<< ((15 : Int32).toInt64 &&& 63)) ||| x1.toInt64)).bind fun M1 =>
  (zgI M1 x0 [0] 7).bind fun v2 =>
  (zpI M1 x0 [0] 7 (v2 + 1)).bind fun M2 =>
  some M2
set_option maxHeartbeats 4000000 in
set_option maxRecDepth 100000 in
theorem s_X0_keep_b40 {g : zG} (hC : zC g)  (x0 : Nat) (x1 : Int32) (x2 : Int32) (x3 : Int32) (M : zMe) (q : zMe) (h : f_X0_keep_b40  x0 x1 x2 x3 M = some q) : zW g mX0_keep 40 [.ref x0, .int x1, .int x2, .int x3] [] M none q := by
  unfold f_X0_keep_b40 at h
  refine z_aload_n (x := x0) rfl dX0_keep_40 ?_
  obtain ⟨a1, h1, h⟩ := zbind h
  refine z_gN hC fs_X0_40 h1 dX0_keep_41 ?_
  refine z_aload_n (x := x0) rfl dX0_keep_44 ?_
  obtain ⟨v1, h2, h⟩ := zbind h
  refine z_gI hC fs_X0_43 h2 dX0_keep_45 ?_
  refine z_iload_n (x := x3) rfl dX0_keep_48 ?_
  refine z_i2l dX0_keep_49 ?_
  refine z_bipush 20 (by decide) dX0_keep_50 ?_
  refine z_lshl dX0_keep_52 ?_
  refine z_iload_n (x := x2) rfl dX0_keep_53 ?_
  refine z_i2l dX0_keep_54 ?_
  refine z_lor dX0_keep_55 ?_
  refine z_bipush 15 (by decide) dX0_keep_56 ?_
  refine z_lshl dX0_keep_58 ?_
  refine z_iload_n (x := x1) rfl dX0_keep_59 ?_
  refine z_i2l dX0_keep_60 ?_
  refine z_lor dX0_keep_61 ?_
  obtain ⟨M1, h3, h⟩ := zbind h
  refine z_wL h3 dX0_keep_62 ?_
  refine z_aload_n (x := x0) rfl dX0_keep_63 ?_
  refine z_dup rfl dX0_keep_64 ?_
  obtain ⟨v2, h4, h⟩ := zbind h
  refine z_gI hC fs_X0_43 h4 dX0_keep_65 ?_
  refine z_iconst 1 (by decide) dX0_keep_68 ?_
  refine z_iadd dX0_keep_69 ?_
  obtain ⟨M2, h5, h⟩ := zbind h
  refine z_pI hC fp_X0_43 h5 dX0_keep_70 ?_
  obtain rfl := Option.some.inj h
  exact z_ret rfl dX0_keep_73
def f_X0_keep (x0 : Nat) (x1 : Int32) (x2 : Int32) (x3 : Int32) (M : zMe) : Option zMe :=
  (zgI M x0 [0] 7).bind fun v1 =>
  if v1 < 65536 then (
    (zgI M x0 [0] 7).bind fun v2 =>
    (zgN M x0 [0] 6).bind fun a1 =>
    (zln M a1).bind fun v3 =>
    if v2 < v3 then (
      f_X0_keep_b40 x0 x1 x2 x3 M)
    else (
      (zgN M x0 [0] 6).bind fun a2 =>
      (zgN M x0 [0] 6).bind fun a3 =>
      (zln M a3).bind fun v4 =>
      (f_J7_copyOf_c38d5 a2 (2 * v4) M).bind fun q1 =>
      (zpR q1.2 x0 [0] 6 q1.1).bind fun M1 =>
      f_X0_keep_b40 x0 x1 x2 x3 M1))
  else (
    some M)
set_option maxHeartbeats 4000000 in
set_option maxRecDepth 100000 in
theorem s_X0_keep {g : zG} (hC : zC g) {x0 : Nat} {x1 : Int32} {x2 : Int32} {x3 : Int32} {M : zMe} {q : zMe} (h : f_X0_keep x0 x1 x2 x3 M = some q) : zMet g yX0_keep mX0_keep [.ref x0, .int x1, .int x2, .int x3] M none q := by
  refine z_entry (by decide +kernel) rfl rfl (Nat.le_of_ble_eq_true rfl) ?_
  refine zeqL (L2 := [.ref x0, .int x1, .int x2, .int x3]) rfl ?_
  unfold f_X0_keep at h
  refine z_aload_n (x := x0) rfl dX0_keep_0 ?_
  obtain ⟨v1, h1, h⟩ := zbind h
  refine z_gI hC fs_X0_43 h1 dX0_keep_1 ?_
  refine z_ldc hC dX0_keep_4 kc_X0_151 ?_
  refine z_icmp_lt (tgt := 10) dX0_keep_6 (by decide) (fun c1 => ?_) (fun c1 => ?_)
  · have h := zift h c1
    refine z_aload_n (x := x0) rfl dX0_keep_10 ?_
    obtain ⟨v2, h2, h⟩ := zbind h
    refine z_gI hC fs_X0_43 h2 dX0_keep_11 ?_
    refine z_aload_n (x := x0) rfl dX0_keep_14 ?_
    obtain ⟨a1, h3, h⟩ := zbind h
    refine z_gN hC fs_X0_40 h3 dX0_keep_15 ?_
    obtain ⟨v3, h4, h⟩ := zbind h
    refine z_ln h4 dX0_keep_18 ?_
    refine z_icmp_lt (tgt := 40) dX0_keep_19 (by decide) (fun c2 => ?_) (fun c2 => ?_)
    · have h := zift h c2
      exact s_X0_keep_b40 hC _ _ _ _ _ _ h
    · have h := zife h c2
      refine z_aload_n (x := x0) rfl dX0_keep_22 ?_
      refine z_aload_n (x := x0) rfl dX0_keep_23 ?_
      obtain ⟨a2, h5, h⟩ := zbind h
      refine z_gN hC fs_X0_40 h5 dX0_keep_24 ?_
      refine z_iconst 2 (by decide) dX0_keep_27 ?_
      refine z_aload_n (x := x0) rfl dX0_keep_28 ?_
      obtain ⟨a3, h6, h⟩ := zbind h
      refine z_gN hC fs_X0_40 h6 dX0_keep_29 ?_
      obtain ⟨v4, h7, h⟩ := zbind h
      refine z_ln h7 dX0_keep_32 ?_
      refine z_imul dX0_keep_33 ?_
      obtain ⟨q1, h8, h⟩ := zbind h
      refine z_callS (av := [.ref a2, .int (2 * v4)]) (rest := [.ref x0]) hC (s_J7_copyOf_c38d5 hC h8) lk_X0_152 st_J7_copyOf_c38d5 cd_J7_copyOf_c38d5 ⟨by decide, by decide, (Nat.le_of_ble_eq_true rfl)⟩ dX0_keep_34 ?_
      refine zeqS (stk2 := [va_rf q1.1, .ref x0]) rfl ?_
      obtain ⟨M1, h9, h⟩ := zbind h
      refine z_pRa hC fp_X0_40 h9 dX0_keep_37 ?_
      exact s_X0_keep_b40 hC _ _ _ _ _ _ h
  · have h := zife h c1
    obtain rfl := Option.some.inj h
    exact z_ret rfl dX0_keep_9
def f_X0_offer_b129   (M : zMe) : Option zMe :=
  some M
set_option maxHeartbeats 4000000 in
set_option maxRecDepth 100000 in
theorem s_X0_offer_b129 {g : zG} (hC : zC g)   (M : zMe) (q : zMe) (h : f_X0_offer_b129   M = some q) : zW g mX0_offer 129 [.retAddr 0, .retAddr 0, .retAddr 0, .retAddr 0, .retAddr 0, .retAddr 0, .retAddr 0] [] M none q := by
  unfold f_X0_offer_b129 at h
  obtain rfl := Option.some.inj h
  exact z_ret rfl dX0_offer_129
def f_X0_offer_b121  (x0 : Nat) (x2 : Int32) (x3 : Int32) (x4 : Int32) (M : zMe) : Option zMe :=
  (zob M x0 0).bind fun _ =>
  (f_X0_keep x0 x2 x3 x4 M).bind fun q1 =>
  f_X0_offer_b129 q1
set_option maxHeartbeats 4000000 in
set_option maxRecDepth 100000 in
theorem s_X0_offer_b121 {g : zG} (hC : zC g)  (x0 : Nat) (x2 : Int32) (x3 : Int32) (x4 : Int32) (M : zMe) (q : zMe) (h : f_X0_offer_b121  x0 x2 x3 x4 M = some q) : zW g mX0_offer 121 [.ref x0, .retAddr 0, .int x2, .int x3, .int x4, .retAddr 0, .retAddr 0] [] M none q := by
  unfold f_X0_offer_b121 at h
  refine z_aload_n (x := x0) rfl dX0_offer_121 ?_
  refine z_iload_n (x := x2) rfl dX0_offer_122 ?_
  refine z_iload_n (x := x3) rfl dX0_offer_123 ?_
  refine z_iload (x := x4) rfl dX0_offer_124 ?_
  obtain ⟨_, hb, h⟩ := zbind h
  obtain ⟨fs, hb⟩ := zob_some hb
  obtain ⟨q1, h1, h⟩ := zbind h
  refine z_callV (av := [.int x2, .int x3, .int x4]) (rest := []) hC zcl_0 hb (s_X0_keep hC h1) lk_X0_147 im_X0_keep se_X0_keep cd_X0_keep ⟨by decide, by decide, (Nat.le_of_ble_eq_true rfl)⟩ dX0_offer_126 ?_
  clear hb fs
  refine zeqS (stk2 := []) rfl ?_
  refine zweak [false, false, false, false, false, false, false] ?_
  exact s_X0_offer_b129 hC _ _ h
def f_X0_offer_b6  : Nat → Nat → Int32 → Int32 → Int32 → Int32 → Int32 → Int32 → zMe → Option zMe
  | 0, _, _, _, _, _, _, _, _ => none
  | n + 1, x0, x1, x2, x3, x4, x5, x6, M =>
    (zgI M x0 [0] 2).bind fun v1 =>
    if v1 ≤ x6 then (
      if x5 = 0 then (
        some M)
      else (
        (f_X11_lowestBitIndex x5 M).bind fun q1 =>
        zlet (q1.1 - x1 : Int32) fun v2 =>
        (zgI q1.2 x0 [0] 8).bind fun v3 =>
        (zgI q1.2 x0 [0] 9).bind fun v4 =>
        if (x4 + (v2 * v3)) < v4 then (
          if v2 = 0 then (
            (zpI q1.2 x0 [0] 9 x4).bind fun M1 =>
            (zpI M1 x0 [0] 10 x3).bind fun M2 =>
            f_X0_offer_b129 M2)
          else (
            if x1 < 3 then (
              f_X0_offer_b121 x0 x2 x3 x4 q1.2)
            else (
              (zgN q1.2 x0 [0] 1).bind fun a1 =>
              (zob q1.2 x0 0).bind fun _ =>
              (f_X0_keyOf x0 x1 x2 q1.2).bind fun q2 =>
              (zob q2.2 a1 8).bind fun _ =>
              (f_X8_isLess a1 q2.1 x4 q2.2).bind fun q3 =>
              if q3.1 = 0 then (
                f_X0_offer_b129 q3.2)
              else (
                f_X0_offer_b121 x0 x2 x3 x4 q3.2))))
        else (
          some q1.2)))
    else (
      (zgN M x0 [0] 0).bind fun a2 =>
      (zrR M a2 x6).bind fun o1 =>
      zcase o1 none fun a3 =>
      (zob M a3 4).bind fun _ =>
      (f_X4_endsFrom a3 x1 ((x2 >>> ((5 * x6) &&& 31)) &&& 31) M).bind fun q4 =>
      zlet (x5 &&& q4.1 : Int32) fun v5 =>
      zlet (x6 + 1) fun v6 =>
      f_X0_offer_b6 n x0 x1 x2 x3 x4 v5 v6 q4.2)
set_option maxHeartbeats 4000000 in
set_option maxRecDepth 100000 in
theorem s_X0_offer_b6 {g : zG} (hC : zC g)  : ∀ (n : Nat) (x0 : Nat) (x1 : Int32) (x2 : Int32) (x3 : Int32) (x4 : Int32) (x5 : Int32) (x6 : Int32) (M : zMe) (q : zMe), f_X0_offer_b6  n x0 x1 x2 x3 x4 x5 x6 M = some q → zW g mX0_offer 6 [.ref x0, .int x1, .int x2, .int x3, .int x4, .int x5, .int x6] [] M none q := by
  intro n
  induction n with
  | zero => intro x0 x1 x2 x3 x4 x5 x6 M q h; cases h
  | succ n ih =>
    intro x0 x1 x2 x3 x4 x5 x6 M q h
    rw [f_X0_offer_b6] at h
    refine z_iload (x := x6) rfl dX0_offer_6 ?_
    refine z_aload_n (x := x0) rfl dX0_offer_8 ?_
    obtain ⟨v1, h1, h⟩ := zbind h
    refine z_gI hC fs_X0_25 h1 dX0_offer_9 ?_
    refine z_icmp_ge (tgt := 46) dX0_offer_12 (by decide) (fun c1 => ?_) (fun c1 => ?_)
    · have h := zift h c1
      refine z_iload (x := x5) rfl dX0_offer_46 ?_
      refine z_if_ne (tgt := 52) dX0_offer_48 (by decide) (fun c2 => ?_) (fun c2 => ?_)
      · have h := zife h c2
        refine z_iload (x := x5) rfl dX0_offer_52 ?_
        obtain ⟨q1, h2, h⟩ := zbind h
        refine z_callSN (av := [.int x5]) (rest := []) hC (s_X11_lowestBitIndex hC h2) ln_X0_141 st_X11_lowestBitIndex cd_X11_lowestBitIndex ⟨by decide, by decide, (Nat.le_of_ble_eq_true rfl)⟩ dX0_offer_54 ?_
        refine zeqS (stk2 := [.int q1.1]) rfl ?_
        refine z_iload_n (x := x1) rfl dX0_offer_57 ?_
        refine z_isub dX0_offer_58 ?_
        refine z_nameI (fun v2 hv => ?_)
        have h := zlet_use h hv
        clear hv
        refine z_istore dX0_offer_59 (by decide) ?_
        refine zeqL (L2 := [.ref x0, .int x1, .int x2, .int x3, .int x4, .int x5, .int v2]) rfl ?_
        refine z_iload (x := x4) rfl dX0_offer_61 ?_
        refine z_iload (x := v2) rfl dX0_offer_63 ?_
        refine z_aload_n (x := x0) rfl dX0_offer_65 ?_
        obtain ⟨v3, h3, h⟩ := zbind h
        refine z_gI hC fs_X0_46 h3 dX0_offer_66 ?_
        refine z_imul dX0_offer_69 ?_
        refine z_iadd dX0_offer_70 ?_
        refine z_aload_n (x := x0) rfl dX0_offer_71 ?_
        obtain ⟨v4, h4, h⟩ := zbind h
        refine z_gI hC fs_X0_50 h4 dX0_offer_72 ?_
        refine z_icmp_lt (tgt := 79) dX0_offer_75 (by decide) (fun c3 => ?_) (fun c3 => ?_)
        · have h := zift h c3
          refine z_iload (x := v2) rfl dX0_offer_79 ?_
          refine z_if_ne (tgt := 98) dX0_offer_81 (by decide) (fun c4 => ?_) (fun c4 => ?_)
          · have h := zife h c4
            refine z_iload_n (x := x1) rfl dX0_offer_98 ?_
            refine z_iconst 3 (by decide) dX0_offer_99 ?_
            refine z_icmp_lt (tgt := 121) dX0_offer_100 (by decide) (fun c5 => ?_) (fun c5 => ?_)
            · have h := zift h c5
              refine zweak [true, false, true, true, true, false, false] ?_
              exact s_X0_offer_b121 hC _ _ _ _ _ _ h
            · have h := zife h c5
              refine z_aload_n (x := x0) rfl dX0_offer_103 ?_
              obtain ⟨a1, h7, h⟩ := zbind h
              refine z_gN hC fs_X0_21 h7 dX0_offer_104 ?_
              refine z_aload_n (x := x0) rfl dX0_offer_107 ?_
              refine z_iload_n (x := x1) rfl dX0_offer_108 ?_
              refine z_iload_n (x := x2) rfl dX0_offer_109 ?_
              obtain ⟨_, hb, h⟩ := zbind h
              obtain ⟨fs, hb⟩ := zob_some hb
              obtain ⟨q2, h8, h⟩ := zbind h
              refine z_callV (av := [.int x1, .int x2]) (rest := [.ref a1]) hC zcl_0 hb (s_X0_keyOf hC h8) lk_X0_121 im_X0_keyOf se_X0_keyOf cd_X0_keyOf ⟨by decide, by decide, (Nat.le_of_ble_eq_true rfl)⟩ dX0_offer_110 ?_
              clear hb fs
              refine zeqS (stk2 := [.int q2.1, .ref a1]) rfl ?_
              refine z_iload (x := x4) rfl dX0_offer_113 ?_
              obtain ⟨_, hb, h⟩ := zbind h
              obtain ⟨fs, hb⟩ := zob_some hb
              obtain ⟨q3, h9, h⟩ := zbind h
              refine z_callV (av := [.int q2.1, .int x4]) (rest := []) hC zcl_8 hb (s_X8_isLess hC h9) lk_X0_144 im_X8_isLess se_X8_isLess cd_X8_isLess ⟨by decide, by decide, (Nat.le_of_ble_eq_true rfl)⟩ dX0_offer_115 ?_
              clear hb fs
              refine zeqS (stk2 := [.int q3.1]) rfl ?_
              refine z_if_eq (tgt := 129) dX0_offer_118 (by decide) (fun c6 => ?_) (fun c6 => ?_)
              · have h := zift h c6
                refine zweak [false, false, false, false, false, false, false] ?_
                exact s_X0_offer_b129 hC _ _ h
              · have h := zife h c6
                refine zweak [true, false, true, true, true, false, false] ?_
                exact s_X0_offer_b121 hC _ _ _ _ _ _ h
          · have h := zift h c4
            refine z_aload_n (x := x0) rfl dX0_offer_84 ?_
            refine z_iload (x := x4) rfl dX0_offer_85 ?_
            obtain ⟨M1, h5, h⟩ := zbind h
            refine z_pI hC fp_X0_50 h5 dX0_offer_87 ?_
            refine z_aload_n (x := x0) rfl dX0_offer_90 ?_
            refine z_iload_n (x := x3) rfl dX0_offer_91 ?_
            obtain ⟨M2, h6, h⟩ := zbind h
            refine z_pI hC fp_X0_53 h6 dX0_offer_92 ?_
            refine z_goto (tgt := 129) dX0_offer_95 (by decide) ?_
            refine zweak [false, false, false, false, false, false, false] ?_
            exact s_X0_offer_b129 hC _ _ h
        · have h := zife h c3
          obtain rfl := Option.some.inj h
          exact z_ret rfl dX0_offer_78
      · have h := zift h c2
        obtain rfl := Option.some.inj h
        exact z_ret rfl dX0_offer_51
    · have h := zife h c1
      refine z_iload (x := x5) rfl dX0_offer_15 ?_
      refine z_aload_n (x := x0) rfl dX0_offer_17 ?_
      obtain ⟨a2, h10, h⟩ := zbind h
      refine z_gN hC fs_X0_12 h10 dX0_offer_18 ?_
      refine z_iload (x := x6) rfl dX0_offer_21 ?_
      obtain ⟨o1, h11, h⟩ := zbind h
      refine z_rR h11 dX0_offer_23 ?_
      refine z_iload_n (x := x1) rfl dX0_offer_24 ?_
      refine z_iload_n (x := x2) rfl dX0_offer_25 ?_
      refine z_iconst 5 (by decide) dX0_offer_26 ?_
      refine z_iload (x := x6) rfl dX0_offer_27 ?_
      refine z_imul dX0_offer_29 ?_
      refine z_ishr dX0_offer_30 ?_
      refine z_bipush 31 (by decide) dX0_offer_31 ?_
      refine z_iand dX0_offer_33 ?_
      obtain ⟨a3, hx, h⟩ := zopt h
      rw [hx]
      clear hx
      obtain ⟨_, hb, h⟩ := zbind h
      obtain ⟨fs, hb⟩ := zob_some hb
      obtain ⟨q4, h12, h⟩ := zbind h
      refine z_callV (av := [.int x1, .int ((x2 >>> ((5 * x6) &&& 31)) &&& 31)]) (rest := [.int x5]) hC zcl_4 hb (s_X4_endsFrom hC h12) lk_X0_138 im_X4_endsFrom se_X4_endsFrom cd_X4_endsFrom ⟨by decide, by decide, (Nat.le_of_ble_eq_true rfl)⟩ dX0_offer_34 ?_
      clear hb fs
      refine zeqS (stk2 := [.int q4.1, .int x5]) rfl ?_
      refine z_iand dX0_offer_37 ?_
      refine z_nameI (fun v5 hv => ?_)
      have h := zlet_use h hv
      clear hv
      refine z_istore dX0_offer_38 (by decide) ?_
      refine zeqL (L2 := [.ref x0, .int x1, .int x2, .int x3, .int x4, .int v5, .int x6]) rfl ?_
      obtain ⟨v6, hv⟩ : ∃ z : Int32, z = x6 + 1 := ⟨_, rfl⟩
      have h := zlet_use h hv
      refine z_iinc (v := v6) dX0_offer_40 (x := x6) rfl (by rw [hv]; rfl) ?_
      clear hv
      refine zeqL (L2 := [.ref x0, .int x1, .int x2, .int x3, .int x4, .int v5, .int v6]) rfl ?_
      refine z_goto (tgt := 6) dX0_offer_43 (by decide) ?_
      exact ih _ _ _ _ _ _ _ _ _ h
def f_X0_offer (x0 : Nat) (x1 : Int32) (x2 : Int32) (x3 : Int32) (x4 : Int32) (M : zMe) : Option zMe :=
  f_X0_offer_b6 zfu x0 x1 x2 x3 x4 (-1) 0 M
set_option maxHeartbeats 4000000 in
set_option maxRecDepth 100000 in
theorem s_X0_offer {g : zG} (hC : zC g) {x0 : Nat} {x1 : Int32} {x2 : Int32} {x3 : Int32} {x4 : Int32} {M : zMe} {q : zMe} (h : f_X0_offer x0 x1 x2 x3 x4 M = some q) : zMet g yX0_offer mX0_offer [.ref x0, .int x1, .int x2, .int x3, .int x4] M none q := by
  refine z_entry (by decide +kernel) rfl rfl (Nat.le_of_ble_eq_true rfl) ?_
  refine zeqL (L2 := [.ref x0, .int x1, .int x2, .int x3, .int x4, .retAddr 0, .retAddr 0]) rfl ?_
  unfold f_X0_offer at h
  refine z_iconst (-1) (by decide) dX0_offer_0 ?_
  refine z_istore dX0_offer_1 (by decide) ?_
  refine zeqL (L2 := [.ref x0, .int x1, .int x2, .int x3, .int x4, .int (-1), .retAddr 0]) rfl ?_
  refine z_iconst 0 (by decide) dX0_offer_3 ?_
  refine z_istore dX0_offer_4 (by decide) ?_
  refine zeqL (L2 := [.ref x0, .int x1, .int x2, .int x3, .int x4, .int (-1), .int 0]) rfl ?_
  exact s_X0_offer_b6 hC _ _ _ _ _ _ _ _ _ _ h
def f_X0_breathOf (x0 : Int64) (M : zMe) : Option (Int32 × zMe) :=
  some ((x0 >>> ((35 : Int32).toInt64 &&& 63)).toInt32, M)
set_option maxHeartbeats 4000000 in
set_option maxRecDepth 100000 in
theorem s_X0_breathOf {g : zG} (hC : zC g) {x0 : Int64} {M : zMe} {q : (Int32 × zMe)} (h : f_X0_breathOf x0 M = some q) : zMet g yX0_breathOf mX0_breathOf [.long x0] M (some (.int q.1)) q.2 := by
  refine z_entry (by decide +kernel) rfl rfl (Nat.le_of_ble_eq_true rfl) ?_
  refine zeqL (L2 := [.long x0, .retAddr 0]) rfl ?_
  unfold f_X0_breathOf at h
  refine z_lload_n (x := x0) rfl dX0_breathOf_0 ?_
  refine z_bipush 35 (by decide) dX0_breathOf_1 ?_
  refine z_lshr dX0_breathOf_3 ?_
  refine z_l2i dX0_breathOf_4 ?_
  obtain rfl := Option.some.inj h
  exact z_iret ⟨.int, rfl, rfl⟩ dX0_breathOf_5
def f_X0_packOf (x0 : Int64) (M : zMe) : Option (Int32 × zMe) :=
  some (x0.toInt32 &&& 32767, M)
set_option maxHeartbeats 4000000 in
set_option maxRecDepth 100000 in
theorem s_X0_packOf {g : zG} (hC : zC g) {x0 : Int64} {M : zMe} {q : (Int32 × zMe)} (h : f_X0_packOf x0 M = some q) : zMet g yX0_packOf mX0_packOf [.long x0] M (some (.int q.1)) q.2 := by
  refine z_entry (by decide +kernel) rfl rfl (Nat.le_of_ble_eq_true rfl) ?_
  refine zeqL (L2 := [.long x0, .retAddr 0]) rfl ?_
  unfold f_X0_packOf at h
  refine z_lload_n (x := x0) rfl dX0_packOf_0 ?_
  refine z_l2i dX0_packOf_1 ?_
  refine z_sipush 32767 (by decide) dX0_packOf_2 ?_
  refine z_iand dX0_packOf_5 ?_
  obtain rfl := Option.some.inj h
  exact z_iret ⟨.int, rfl, rfl⟩ dX0_packOf_6
def f_X8_leastFor_b28  (y0 : Int32) (M : zMe) : Option (Int32 × zMe) :=
  some (y0, M)
set_option maxHeartbeats 4000000 in
set_option maxRecDepth 100000 in
theorem s_X8_leastFor_b28 {g : zG} (hC : zC g)  (y0 : Int32) (M : zMe) (q : (Int32 × zMe)) (h : f_X8_leastFor_b28  y0 M = some q) : zW g mX8_leastFor 28 [.retAddr 0, .retAddr 0, .retAddr 0, .retAddr 0] [.int y0] M (some (.int q.1)) q.2 := by
  unfold f_X8_leastFor_b28 at h
  obtain rfl := Option.some.inj h
  exact z_iret ⟨.int, rfl, rfl⟩ dX8_leastFor_28
def f_X8_leastFor (x0 : Nat) (x1 : Int32) (M : zMe) : Option (Int32 × zMe) :=
  (zgN M x0 [8] 0).bind fun a1 =>
  (zob M x0 8).bind fun _ =>
  (f_X8_slotFor x0 x1 M).bind fun q1 =>
  (zrL q1.2 a1 q1.1).bind fun v1 =>
  (zob q1.2 x0 8).bind fun _ =>
  (f_X8_isOurs x0 v1 q1.2).bind fun q2 =>
  if q2.1 = 0 then (
    f_X8_leastFor_b28 1048576 q2.2)
  else (
    (f_X8_breathOf v1 q2.2).bind fun q3 =>
    f_X8_leastFor_b28 q3.1 q3.2)
set_option maxHeartbeats 4000000 in
set_option maxRecDepth 100000 in
theorem s_X8_leastFor {g : zG} (hC : zC g) {x0 : Nat} {x1 : Int32} {M : zMe} {q : (Int32 × zMe)} (h : f_X8_leastFor x0 x1 M = some q) : zMet g yX8_leastFor mX8_leastFor [.ref x0, .int x1] M (some (.int q.1)) q.2 := by
  refine z_entry (by decide +kernel) rfl rfl (Nat.le_of_ble_eq_true rfl) ?_
  refine zeqL (L2 := [.ref x0, .int x1, .retAddr 0, .retAddr 0]) rfl ?_
  unfold f_X8_leastFor at h
  refine z_aload_n (x := x0) rfl dX8_leastFor_0 ?_
  obtain ⟨a1, h1, h⟩ := zbind h
  refine z_gN hC fs_X8_9 h1 dX8_leastFor_1 ?_
  refine z_aload_n (x := x0) rfl dX8_leastFor_4 ?_
  refine z_iload_n (x := x1) rfl dX8_leastFor_5 ?_
  obtain ⟨_, hb, h⟩ := zbind h
  obtain ⟨fs, hb⟩ := zob_some hb
  obtain ⟨q1, h2, h⟩ := zbind h
  refine z_callV (av := [.int x1]) (rest := [.ref a1]) hC zcl_8 hb (s_X8_slotFor hC h2) lk_X8_21 im_X8_slotFor se_X8_slotFor cd_X8_slotFor ⟨by decide, by decide, (Nat.le_of_ble_eq_true rfl)⟩ dX8_leastFor_6 ?_
  clear hb fs
  refine zeqS (stk2 := [.int q1.1, .ref a1]) rfl ?_
  obtain ⟨v1, h3, h⟩ := zbind h
  refine z_rL h3 dX8_leastFor_9 ?_
  refine z_lstore_n dX8_leastFor_10 (by decide) ?_
  refine zeqL (L2 := [.ref x0, .int x1, .long v1, .retAddr 0]) rfl ?_
  refine z_aload_n (x := x0) rfl dX8_leastFor_11 ?_
  refine z_lload_n (x := v1) rfl dX8_leastFor_12 ?_
  obtain ⟨_, hb, h⟩ := zbind h
  obtain ⟨fs, hb⟩ := zob_some hb
  obtain ⟨q2, h4, h⟩ := zbind h
  refine z_callV (av := [.long v1]) (rest := []) hC zcl_8 hb (s_X8_isOurs hC h4) lk_X8_25 im_X8_isOurs se_X8_isOurs cd_X8_isOurs ⟨by decide, by decide, (Nat.le_of_ble_eq_true rfl)⟩ dX8_leastFor_13 ?_
  clear hb fs
  refine zeqS (stk2 := [.int q2.1]) rfl ?_
  refine z_if_eq (tgt := 26) dX8_leastFor_16 (by decide) (fun c1 => ?_) (fun c1 => ?_)
  · have h := zift h c1
    refine z_ldc hC dX8_leastFor_26 kc_X8_33 ?_
    refine zweak [false, false, false, false] ?_
    exact s_X8_leastFor_b28 hC _ _ _ h
  · have h := zife h c1
    refine z_lload_n (x := v1) rfl dX8_leastFor_19 ?_
    obtain ⟨q3, h5, h⟩ := zbind h
    refine z_callS (av := [.long v1]) (rest := []) hC (s_X8_breathOf hC h5) lk_X8_29 st_X8_breathOf cd_X8_breathOf ⟨by decide, by decide, (Nat.le_of_ble_eq_true rfl)⟩ dX8_leastFor_20 ?_
    refine zeqS (stk2 := [.int q3.1]) rfl ?_
    refine z_goto (tgt := 28) dX8_leastFor_23 (by decide) ?_
    refine zweak [false, false, false, false] ?_
    exact s_X8_leastFor_b28 hC _ _ _ h
def f_X0_takeLater_b98  (x0 : Nat) (x3 : Int32) (M : zMe) : Option (Int32 × zMe) :=
  (zpI M x0 [0] 7 0).bind fun M1 =>
  some (x3, M1)
set_option maxHeartbeats 4000000 in
set_option maxRecDepth 100000 in
theorem s_X0_takeLater_b98 {g : zG} (hC : zC g)  (x0 : Nat) (x3 : Int32) (M : zMe) (q : (Int32 × zMe)) (h : f_X0_takeLater_b98  x0 x3 M = some q) : zW g mX0_takeLater 98 [.ref x0, .retAddr 0, .retAddr 0, .int x3, .retAddr 0, .retAddr 0, .retAddr 0] [] M (some (.int q.1)) q.2 := by
  unfold f_X0_takeLater_b98 at h
  refine z_aload_n (x := x0) rfl dX0_takeLater_98 ?_
  refine z_iconst 0 (by decide) dX0_takeLater_99 ?_
  obtain ⟨M1, h1, h⟩ := zbind h
  refine z_pI hC fp_X0_43 h1 dX0_takeLater_100 ?_
  refine z_iload_n (x := x3) rfl dX0_takeLater_103 ?_
  obtain rfl := Option.some.inj h
  exact z_iret ⟨.int, rfl, rfl⟩ dX0_takeLater_104
def f_X0_takeLater_b92 (k23 : Nat → Int32 → Int32 → Int32 → zMe → Option (Int32 × zMe)) (x0 : Nat) (x1 : Int32) (x3 : Int32) (x4 : Int32) (M : zMe) : Option (Int32 × zMe) :=
  zlet (x4 + 1) fun v1 =>
  k23 x0 x1 x3 v1 M
set_option maxHeartbeats 4000000 in
set_option maxRecDepth 100000 in
theorem s_X0_takeLater_b92 {g : zG} (hC : zC g) {k23 : Nat → Int32 → Int32 → Int32 → zMe → Option (Int32 × zMe)} (hk23 : ∀ (x0 : Nat) (x1 : Int32) (x3 : Int32) (x4 : Int32) (M : zMe) (q : (Int32 × zMe)), k23 x0 x1 x3 x4 M = some q → zW g mX0_takeLater 23 [.ref x0, .int x1, .retAddr 0, .int x3, .int x4, .retAddr 0, .retAddr 0] [] M (some (.int q.1)) q.2) (x0 : Nat) (x1 : Int32) (x3 : Int32) (x4 : Int32) (M : zMe) (q : (Int32 × zMe)) (h : f_X0_takeLater_b92 k23 x0 x1 x3 x4 M = some q) : zW g mX0_takeLater 92 [.ref x0, .int x1, .retAddr 0, .int x3, .int x4, .retAddr 0, .retAddr 0] [] M (some (.int q.1)) q.2 := by
  unfold f_X0_takeLater_b92 at h
  obtain ⟨v1, hv⟩ : ∃ z : Int32, z = x4 + 1 := ⟨_, rfl⟩
  have h := zlet_use h hv
  refine z_iinc (v := v1) dX0_takeLater_92 (x := x4) rfl (by rw [hv]; rfl) ?_
  clear hv
  refine zeqL (L2 := [.ref x0, .int x1, .retAddr 0, .int x3, .int v1, .retAddr 0, .retAddr 0]) rfl ?_
  refine z_goto (tgt := 23) dX0_takeLater_95 (by decide) ?_
  exact hk23 _ _ _ _ _ _ h
def f_X0_takeLater_b81 (k23 : Nat → Int32 → Int32 → Int32 → zMe → Option (Int32 × zMe)) (x0 : Nat) (x1 : Int32) (x3 : Int32) (x4 : Int32) (x5 : Int64) (M : zMe) : Option (Int32 × zMe) :=
  (zgN M x0 [0] 5).bind fun a1 =>
  (zwL M a1 x3 x5).bind fun M1 =>
  zlet (x3 + 1) fun v1 =>
  f_X0_takeLater_b92 k23 x0 x1 v1 x4 M1
set_option maxHeartbeats 4000000 in
set_option maxRecDepth 100000 in
theorem s_X0_takeLater_b81 {g : zG} (hC : zC g) {k23 : Nat → Int32 → Int32 → Int32 → zMe → Option (Int32 × zMe)} (hk23 : ∀ (x0 : Nat) (x1 : Int32) (x3 : Int32) (x4 : Int32) (M : zMe) (q : (Int32 × zMe)), k23 x0 x1 x3 x4 M = some q → zW g mX0_takeLater 23 [.ref x0, .int x1, .retAddr 0, .int x3, .int x4, .retAddr 0, .retAddr 0] [] M (some (.int q.1)) q.2) (x0 : Nat) (x1 : Int32) (x3 : Int32) (x4 : Int32) (x5 : Int64) (M : zMe) (q : (Int32 × zMe)) (h : f_X0_takeLater_b81 k23 x0 x1 x3 x4 x5 M = some q) : zW g mX0_takeLater 81 [.ref x0, .int x1, .retAddr 0, .int x3, .int x4, .long x5, .retAddr 0] [] M (some (.int q.1)) q.2 := by
  unfold f_X0_takeLater_b81 at h
  refine z_aload_n (x := x0) rfl dX0_takeLater_81 ?_
  obtain ⟨a1, h1, h⟩ := zbind h
  refine z_gN hC fs_X0_36 h1 dX0_takeLater_82 ?_
  refine z_iload_n (x := x3) rfl dX0_takeLater_85 ?_
  refine z_lload (x := x5) rfl dX0_takeLater_86 ?_
  obtain ⟨M1, h2, h⟩ := zbind h
  refine z_wL h2 dX0_takeLater_88 ?_
  obtain ⟨v1, hv⟩ : ∃ z : Int32, z = x3 + 1 := ⟨_, rfl⟩
  have h := zlet_use h hv
  refine z_iinc (v := v1) dX0_takeLater_89 (x := x3) rfl (by rw [hv]; rfl) ?_
  clear hv
  refine zeqL (L2 := [.ref x0, .int x1, .retAddr 0, .int v1, .int x4, .long x5, .retAddr 0]) rfl ?_
  refine zweak [true, true, false, true, true, false, false] ?_
  exact s_X0_takeLater_b92 hC hk23 _ _ _ _ _ _ h
def f_X0_takeLater_b23  : Nat → Nat → Int32 → Int32 → Int32 → zMe → Option (Int32 × zMe)
  | 0, _, _, _, _, _ => none
  | n + 1, x0, x1, x3, x4, M =>
    (zgI M x0 [0] 7).bind fun v1 =>
    if v1 ≤ x4 then (
      f_X0_takeLater_b98 x0 x3 M)
    else (
      (zgN M x0 [0] 5).bind fun a1 =>
      (zln M a1).bind fun v2 =>
      if v2 ≤ x4 then (
        f_X0_takeLater_b98 x0 x3 M)
      else (
        (zgN M x0 [0] 5).bind fun a2 =>
        (zrL M a2 x4).bind fun v3 =>
        if x1 < 3 then (
          f_X0_takeLater_b81 (f_X0_takeLater_b23 n) x0 x1 x3 x4 v3 M)
        else (
          (f_X0_breathOf v3 M).bind fun q1 =>
          (zgN q1.2 x0 [0] 1).bind fun a3 =>
          (f_X0_packOf v3 q1.2).bind fun q2 =>
          (zob q2.2 x0 0).bind fun _ =>
          (f_X0_keyOf x0 x1 q2.1 q2.2).bind fun q3 =>
          (zob q3.2 a3 8).bind fun _ =>
          (f_X8_leastFor a3 q3.1 q3.2).bind fun q4 =>
          if q4.1 < q1.1 then (
            f_X0_takeLater_b92 (f_X0_takeLater_b23 n) x0 x1 x3 x4 q4.2)
          else (
            f_X0_takeLater_b81 (f_X0_takeLater_b23 n) x0 x1 x3 x4 v3 q4.2))))
set_option maxHeartbeats 4000000 in
set_option maxRecDepth 100000 in
theorem s_X0_takeLater_b23 {g : zG} (hC : zC g)  : ∀ (n : Nat) (x0 : Nat) (x1 : Int32) (x3 : Int32) (x4 : Int32) (M : zMe) (q : (Int32 × zMe)), f_X0_takeLater_b23  n x0 x1 x3 x4 M = some q → zW g mX0_takeLater 23 [.ref x0, .int x1, .retAddr 0, .int x3, .int x4, .retAddr 0, .retAddr 0] [] M (some (.int q.1)) q.2 := by
  intro n
  induction n with
  | zero => intro x0 x1 x3 x4 M q h; cases h
  | succ n ih =>
    intro x0 x1 x3 x4 M q h
    rw [f_X0_takeLater_b23] at h
    refine z_iload (x := x4) rfl dX0_takeLater_23 ?_
    refine z_aload_n (x := x0) rfl dX0_takeLater_25 ?_
    obtain ⟨v1, h1, h⟩ := zbind h
    refine z_gI hC fs_X0_43 h1 dX0_takeLater_26 ?_
    refine z_icmp_ge (tgt := 98) dX0_takeLater_29 (by decide) (fun c1 => ?_) (fun c1 => ?_)
    · have h := zift h c1
      refine zweak [true, false, false, true, false, false, false] ?_
      exact s_X0_takeLater_b98 hC _ _ _ _ h
    · have h := zife h c1
      refine z_iload (x := x4) rfl dX0_takeLater_32 ?_
      refine z_aload_n (x := x0) rfl dX0_takeLater_34 ?_
      obtain ⟨a1, h2, h⟩ := zbind h
      refine z_gN hC fs_X0_36 h2 dX0_takeLater_35 ?_
      obtain ⟨v2, h3, h⟩ := zbind h
      refine z_ln h3 dX0_takeLater_38 ?_
      refine z_icmp_ge (tgt := 98) dX0_takeLater_39 (by decide) (fun c2 => ?_) (fun c2 => ?_)
      · have h := zift h c2
        refine zweak [true, false, false, true, false, false, false] ?_
        exact s_X0_takeLater_b98 hC _ _ _ _ h
      · have h := zife h c2
        refine z_aload_n (x := x0) rfl dX0_takeLater_42 ?_
        obtain ⟨a2, h4, h⟩ := zbind h
        refine z_gN hC fs_X0_36 h4 dX0_takeLater_43 ?_
        refine z_iload (x := x4) rfl dX0_takeLater_46 ?_
        obtain ⟨v3, h5, h⟩ := zbind h
        refine z_rL h5 dX0_takeLater_48 ?_
        refine z_lstore dX0_takeLater_49 (by decide) ?_
        refine zeqL (L2 := [.ref x0, .int x1, .retAddr 0, .int x3, .int x4, .long v3, .retAddr 0]) rfl ?_
        refine z_iload_n (x := x1) rfl dX0_takeLater_51 ?_
        refine z_iconst 3 (by decide) dX0_takeLater_52 ?_
        refine z_icmp_lt (tgt := 81) dX0_takeLater_53 (by decide) (fun c3 => ?_) (fun c3 => ?_)
        · have h := zift h c3
          exact s_X0_takeLater_b81 hC ih _ _ _ _ _ _ _ h
        · have h := zife h c3
          refine z_lload (x := v3) rfl dX0_takeLater_56 ?_
          obtain ⟨q1, h6, h⟩ := zbind h
          refine z_callS (av := [.long v3]) (rest := []) hC (s_X0_breathOf hC h6) lk_X0_114 st_X0_breathOf cd_X0_breathOf ⟨by decide, by decide, (Nat.le_of_ble_eq_true rfl)⟩ dX0_takeLater_58 ?_
          refine zeqS (stk2 := [.int q1.1]) rfl ?_
          refine z_aload_n (x := x0) rfl dX0_takeLater_61 ?_
          obtain ⟨a3, h7, h⟩ := zbind h
          refine z_gN hC fs_X0_21 h7 dX0_takeLater_62 ?_
          refine z_aload_n (x := x0) rfl dX0_takeLater_65 ?_
          refine z_iload_n (x := x1) rfl dX0_takeLater_66 ?_
          refine z_lload (x := v3) rfl dX0_takeLater_67 ?_
          obtain ⟨q2, h8, h⟩ := zbind h
          refine z_callS (av := [.long v3]) (rest := [.int x1, .ref x0, .ref a3, .int q1.1]) hC (s_X0_packOf hC h8) lk_X0_118 st_X0_packOf cd_X0_packOf ⟨by decide, by decide, (Nat.le_of_ble_eq_true rfl)⟩ dX0_takeLater_69 ?_
          refine zeqS (stk2 := [.int q2.1, .int x1, .ref x0, .ref a3, .int q1.1]) rfl ?_
          obtain ⟨_, hb, h⟩ := zbind h
          obtain ⟨fs, hb⟩ := zob_some hb
          obtain ⟨q3, h9, h⟩ := zbind h
          refine z_callV (av := [.int x1, .int q2.1]) (rest := [.ref a3, .int q1.1]) hC zcl_0 hb (s_X0_keyOf hC h9) lk_X0_121 im_X0_keyOf se_X0_keyOf cd_X0_keyOf ⟨by decide, by decide, (Nat.le_of_ble_eq_true rfl)⟩ dX0_takeLater_72 ?_
          clear hb fs
          refine zeqS (stk2 := [.int q3.1, .ref a3, .int q1.1]) rfl ?_
          obtain ⟨_, hb, h⟩ := zbind h
          obtain ⟨fs, hb⟩ := zob_some hb
          obtain ⟨q4, h10, h⟩ := zbind h
          refine z_callV (av := [.int q3.1]) (rest := [.int q1.1]) hC zcl_8 hb (s_X8_leastFor hC h10) lk_X0_124 im_X8_leastFor se_X8_leastFor cd_X8_leastFor ⟨by decide, by decide, (Nat.le_of_ble_eq_true rfl)⟩ dX0_takeLater_75 ?_
          clear hb fs
          refine zeqS (stk2 := [.int q4.1, .int q1.1]) rfl ?_
          refine z_icmp_gt (tgt := 92) dX0_takeLater_78 (by decide) (fun c4 => ?_) (fun c4 => ?_)
          · have h := zift h c4
            refine zweak [true, true, false, true, true, false, false] ?_
            exact s_X0_takeLater_b92 hC ih _ _ _ _ _ _ h
          · have h := zife h c4
            exact s_X0_takeLater_b81 hC ih _ _ _ _ _ _ _ h
def f_X0_takeLater (x0 : Nat) (x1 : Int32) (M : zMe) : Option (Int32 × zMe) :=
  (zgN M x0 [0] 5).bind fun a1 =>
  (zgN M x0 [0] 6).bind fun a2 =>
  (zpR M x0 [0] 5 (some a2)).bind fun M1 =>
  (zpR M1 x0 [0] 6 (some a1)).bind fun M2 =>
  f_X0_takeLater_b23 zfu x0 x1 0 0 M2
set_option maxHeartbeats 4000000 in
set_option maxRecDepth 100000 in
theorem s_X0_takeLater {g : zG} (hC : zC g) {x0 : Nat} {x1 : Int32} {M : zMe} {q : (Int32 × zMe)} (h : f_X0_takeLater x0 x1 M = some q) : zMet g yX0_takeLater mX0_takeLater [.ref x0, .int x1] M (some (.int q.1)) q.2 := by
  refine z_entry (by decide +kernel) rfl rfl (Nat.le_of_ble_eq_true rfl) ?_
  refine zeqL (L2 := [.ref x0, .int x1, .retAddr 0, .retAddr 0, .retAddr 0, .retAddr 0, .retAddr 0]) rfl ?_
  unfold f_X0_takeLater at h
  refine z_aload_n (x := x0) rfl dX0_takeLater_0 ?_
  obtain ⟨a1, h1, h⟩ := zbind h
  refine z_gN hC fs_X0_36 h1 dX0_takeLater_1 ?_
  refine z_astore_n dX0_takeLater_4 (by decide) ?_
  refine zeqL (L2 := [.ref x0, .int x1, .ref a1, .retAddr 0, .retAddr 0, .retAddr 0, .retAddr 0]) rfl ?_
  refine z_aload_n (x := x0) rfl dX0_takeLater_5 ?_
  refine z_aload_n (x := x0) rfl dX0_takeLater_6 ?_
  obtain ⟨a2, h2, h⟩ := zbind h
  refine z_gN hC fs_X0_40 h2 dX0_takeLater_7 ?_
  obtain ⟨M1, h3, h⟩ := zbind h
  refine z_pRa hC fp_X0_36 h3 dX0_takeLater_10 ?_
  refine z_aload_n (x := x0) rfl dX0_takeLater_13 ?_
  refine z_aload_n (x := a1) rfl dX0_takeLater_14 ?_
  obtain ⟨M2, h4, h⟩ := zbind h
  refine z_pRa hC fp_X0_40 h4 dX0_takeLater_15 ?_
  refine z_iconst 0 (by decide) dX0_takeLater_18 ?_
  refine z_istore_n dX0_takeLater_19 (by decide) ?_
  refine zeqL (L2 := [.ref x0, .int x1, .ref a1, .int 0, .retAddr 0, .retAddr 0, .retAddr 0]) rfl ?_
  refine z_iconst 0 (by decide) dX0_takeLater_20 ?_
  refine z_istore dX0_takeLater_21 (by decide) ?_
  refine zeqL (L2 := [.ref x0, .int x1, .ref a1, .int 0, .int 0, .retAddr 0, .retAddr 0]) rfl ?_
  refine zweak [true, true, false, true, true, false, false] ?_
  exact s_X0_takeLater_b23 hC _ _ _ _ _ _ _ h
def f_X0_tuneOf (x0 : Int64) (M : zMe) : Option (Int32 × zMe) :=
  some (((x0 >>> ((15 : Int32).toInt64 &&& 63)).toInt32) &&& 1048575, M)
set_option maxHeartbeats 4000000 in
set_option maxRecDepth 100000 in
theorem s_X0_tuneOf {g : zG} (hC : zC g) {x0 : Int64} {M : zMe} {q : (Int32 × zMe)} (h : f_X0_tuneOf x0 M = some q) : zMet g yX0_tuneOf mX0_tuneOf [.long x0] M (some (.int q.1)) q.2 := by
  refine z_entry (by decide +kernel) rfl rfl (Nat.le_of_ble_eq_true rfl) ?_
  refine zeqL (L2 := [.long x0, .retAddr 0]) rfl ?_
  unfold f_X0_tuneOf at h
  refine z_lload_n (x := x0) rfl dX0_tuneOf_0 ?_
  refine z_bipush 15 (by decide) dX0_tuneOf_1 ?_
  refine z_lshr dX0_tuneOf_3 ?_
  refine z_l2i dX0_tuneOf_4 ?_
  refine z_ldc hC dX0_tuneOf_5 kc_X0_134 ?_
  refine z_iand dX0_tuneOf_7 ?_
  obtain rfl := Option.some.inj h
  exact z_iret ⟨.int, rfl, rfl⟩ dX0_tuneOf_8
def f_X4_behind_b38  (y0 : Int32) (M : zMe) : Option (Int32 × zMe) :=
  some (y0, M)
set_option maxHeartbeats 4000000 in
set_option maxRecDepth 100000 in
theorem s_X4_behind_b38 {g : zG} (hC : zC g)  (y0 : Int32) (M : zMe) (q : (Int32 × zMe)) (h : f_X4_behind_b38  y0 M = some q) : zW g mX4_behind 38 [.retAddr 0, .retAddr 0, .retAddr 0, .retAddr 0, .retAddr 0] [.int y0] M (some (.int q.1)) q.2 := by
  unfold f_X4_behind_b38 at h
  obtain rfl := Option.some.inj h
  exact z_iret ⟨.int, rfl, rfl⟩ dX4_behind_38
def f_X4_behind_b37   (M : zMe) : Option (Int32 × zMe) :=
  f_X4_behind_b38 0 M
set_option maxHeartbeats 4000000 in
set_option maxRecDepth 100000 in
theorem s_X4_behind_b37 {g : zG} (hC : zC g)   (M : zMe) (q : (Int32 × zMe)) (h : f_X4_behind_b37   M = some q) : zW g mX4_behind 37 [.retAddr 0, .retAddr 0, .retAddr 0, .retAddr 0, .retAddr 0] [] M (some (.int q.1)) q.2 := by
  unfold f_X4_behind_b37 at h
  refine z_iconst 0 (by decide) dX4_behind_37 ?_
  exact s_X4_behind_b38 hC _ _ _ h
def f_X4_behind (x0 : Nat) (x1 : Int32) (x2 : Int32) (x3 : Int32) (M : zMe) : Option (Int32 × zMe) :=
  (f_X11_phaseOf x1 M).bind fun q1 =>
  (f_X4_rowOf q1.1 x2 q1.2).bind fun q2 =>
  zlet (q2.1 + x3 : Int32) fun v1 =>
  if v1 < 0 then (
    f_X4_behind_b37 q2.2)
  else (
    (zgN q2.2 x0 [4] 0).bind fun a1 =>
    (zln q2.2 a1).bind fun v2 =>
    if v2 ≤ v1 then (
      f_X4_behind_b37 q2.2)
    else (
      (zgN q2.2 x0 [4] 0).bind fun a2 =>
      (zrI q2.2 a2 v1).bind fun v3 =>
      f_X4_behind_b38 v3 q2.2))
set_option maxHeartbeats 4000000 in
set_option maxRecDepth 100000 in
theorem s_X4_behind {g : zG} (hC : zC g) {x0 : Nat} {x1 : Int32} {x2 : Int32} {x3 : Int32} {M : zMe} {q : (Int32 × zMe)} (h : f_X4_behind x0 x1 x2 x3 M = some q) : zMet g yX4_behind mX4_behind [.ref x0, .int x1, .int x2, .int x3] M (some (.int q.1)) q.2 := by
  refine z_entry (by decide +kernel) rfl rfl (Nat.le_of_ble_eq_true rfl) ?_
  refine zeqL (L2 := [.ref x0, .int x1, .int x2, .int x3, .retAddr 0]) rfl ?_
  unfold f_X4_behind at h
  refine z_iload_n (x := x1) rfl dX4_behind_0 ?_
  obtain ⟨q1, h1, h⟩ := zbind h
  refine z_callSN (av := [.int x1]) (rest := []) hC (s_X11_phaseOf hC h1) ln_X4_44 st_X11_phaseOf cd_X11_phaseOf ⟨by decide, by decide, (Nat.le_of_ble_eq_true rfl)⟩ dX4_behind_1 ?_
  refine zeqS (stk2 := [.int q1.1]) rfl ?_
  refine z_iload_n (x := x2) rfl dX4_behind_4 ?_
  obtain ⟨q2, h2, h⟩ := zbind h
  refine z_callS (av := [.int q1.1, .int x2]) (rest := []) hC (s_X4_rowOf hC h2) lk_X4_31 st_X4_rowOf cd_X4_rowOf ⟨by decide, by decide, (Nat.le_of_ble_eq_true rfl)⟩ dX4_behind_5 ?_
  refine zeqS (stk2 := [.int q2.1]) rfl ?_
  refine z_iload_n (x := x3) rfl dX4_behind_8 ?_
  refine z_iadd dX4_behind_9 ?_
  refine z_nameI (fun v1 hv => ?_)
  have h := zlet_use h hv
  clear hv
  refine z_istore dX4_behind_10 (by decide) ?_
  refine zeqL (L2 := [.ref x0, .int x1, .int x2, .int x3, .int v1]) rfl ?_
  refine z_iload (x := v1) rfl dX4_behind_12 ?_
  refine z_if_lt (tgt := 37) dX4_behind_14 (by decide) (fun c1 => ?_) (fun c1 => ?_)
  · have h := zift h c1
    refine zweak [false, false, false, false, false] ?_
    exact s_X4_behind_b37 hC _ _ h
  · have h := zife h c1
    refine z_iload (x := v1) rfl dX4_behind_17 ?_
    refine z_aload_n (x := x0) rfl dX4_behind_19 ?_
    obtain ⟨a1, h3, h⟩ := zbind h
    refine z_gN hC fs_X4_9 h3 dX4_behind_20 ?_
    obtain ⟨v2, h4, h⟩ := zbind h
    refine z_ln h4 dX4_behind_23 ?_
    refine z_icmp_ge (tgt := 37) dX4_behind_24 (by decide) (fun c2 => ?_) (fun c2 => ?_)
    · have h := zift h c2
      refine zweak [false, false, false, false, false] ?_
      exact s_X4_behind_b37 hC _ _ h
    · have h := zife h c2
      refine z_aload_n (x := x0) rfl dX4_behind_27 ?_
      obtain ⟨a2, h5, h⟩ := zbind h
      refine z_gN hC fs_X4_9 h5 dX4_behind_28 ?_
      refine z_iload (x := v1) rfl dX4_behind_31 ?_
      obtain ⟨v3, h6, h⟩ := zbind h
      refine z_rI h6 dX4_behind_33 ?_
      refine z_goto (tgt := 38) dX4_behind_34 (by decide) ?_
      refine zweak [false, false, false, false, false] ?_
      exact s_X4_behind_b38 hC _ _ _ h
def f_X0_packBehind_b6  : Nat → Nat → Int32 → Int32 → Int32 → Int32 → Int32 → zMe → Option (Int32 × zMe)
  | 0, _, _, _, _, _, _, _ => none
  | n + 1, x0, x1, x2, x3, x4, x5, M =>
    (zgI M x0 [0] 2).bind fun v1 =>
    if v1 ≤ x5 then (
      some (x4, M))
    else (
      zlet (5 * x5 : Int32) fun v2 =>
      (zgN M x0 [0] 0).bind fun a1 =>
      (zrR M a1 x5).bind fun o1 =>
      zcase o1 none fun a2 =>
      (zob M a2 4).bind fun _ =>
      (f_X4_behind a2 x1 x2 ((x3 >>> (v2 &&& 31)) &&& 31) M).bind fun q1 =>
      zlet (x4 ||| (q1.1 <<< (v2 &&& 31)) : Int32) fun v3 =>
      zlet (x5 + 1) fun v4 =>
      f_X0_packBehind_b6 n x0 x1 x2 x3 v3 v4 q1.2)
set_option maxHeartbeats 4000000 in
set_option maxRecDepth 100000 in
theorem s_X0_packBehind_b6 {g : zG} (hC : zC g)  : ∀ (n : Nat) (x0 : Nat) (x1 : Int32) (x2 : Int32) (x3 : Int32) (x4 : Int32) (x5 : Int32) (M : zMe) (q : (Int32 × zMe)), f_X0_packBehind_b6  n x0 x1 x2 x3 x4 x5 M = some q → zW g mX0_packBehind 6 [.ref x0, .int x1, .int x2, .int x3, .int x4, .int x5, .retAddr 0] [] M (some (.int q.1)) q.2 := by
  intro n
  induction n with
  | zero => intro x0 x1 x2 x3 x4 x5 M q h; cases h
  | succ n ih =>
    intro x0 x1 x2 x3 x4 x5 M q h
    rw [f_X0_packBehind_b6] at h
    refine z_iload (x := x5) rfl dX0_packBehind_6 ?_
    refine z_aload_n (x := x0) rfl dX0_packBehind_8 ?_
    obtain ⟨v1, h1, h⟩ := zbind h
    refine z_gI hC fs_X0_25 h1 dX0_packBehind_9 ?_
    refine z_icmp_ge (tgt := 54) dX0_packBehind_12 (by decide) (fun c1 => ?_) (fun c1 => ?_)
    · have h := zift h c1
      refine z_iload (x := x4) rfl dX0_packBehind_54 ?_
      obtain rfl := Option.some.inj h
      exact z_iret ⟨.int, rfl, rfl⟩ dX0_packBehind_56
    · have h := zife h c1
      refine z_iconst 5 (by decide) dX0_packBehind_15 ?_
      refine z_iload (x := x5) rfl dX0_packBehind_16 ?_
      refine z_imul dX0_packBehind_18 ?_
      refine z_nameI (fun v2 hv => ?_)
      have h := zlet_use h hv
      clear hv
      refine z_istore dX0_packBehind_19 (by decide) ?_
      refine zeqL (L2 := [.ref x0, .int x1, .int x2, .int x3, .int x4, .int x5, .int v2]) rfl ?_
      refine z_iload (x := x4) rfl dX0_packBehind_21 ?_
      refine z_aload_n (x := x0) rfl dX0_packBehind_23 ?_
      obtain ⟨a1, h2, h⟩ := zbind h
      refine z_gN hC fs_X0_12 h2 dX0_packBehind_24 ?_
      refine z_iload (x := x5) rfl dX0_packBehind_27 ?_
      obtain ⟨o1, h3, h⟩ := zbind h
      refine z_rR h3 dX0_packBehind_29 ?_
      refine z_iload_n (x := x1) rfl dX0_packBehind_30 ?_
      refine z_iload_n (x := x2) rfl dX0_packBehind_31 ?_
      refine z_iload_n (x := x3) rfl dX0_packBehind_32 ?_
      refine z_iload (x := v2) rfl dX0_packBehind_33 ?_
      refine z_ishr dX0_packBehind_35 ?_
      refine z_bipush 31 (by decide) dX0_packBehind_36 ?_
      refine z_iand dX0_packBehind_38 ?_
      obtain ⟨a2, hx, h⟩ := zopt h
      rw [hx]
      clear hx
      obtain ⟨_, hb, h⟩ := zbind h
      obtain ⟨fs, hb⟩ := zob_some hb
      obtain ⟨q1, h4, h⟩ := zbind h
      refine z_callV (av := [.int x1, .int x2, .int ((x3 >>> (v2 &&& 31)) &&& 31)]) (rest := [.int x4]) hC zcl_4 hb (s_X4_behind hC h4) lk_X0_135 im_X4_behind se_X4_behind cd_X4_behind ⟨by decide, by decide, (Nat.le_of_ble_eq_true rfl)⟩ dX0_packBehind_39 ?_
      clear hb fs
      refine zeqS (stk2 := [.int q1.1, .int x4]) rfl ?_
      refine z_iload (x := v2) rfl dX0_packBehind_42 ?_
      refine z_ishl dX0_packBehind_44 ?_
      refine z_ior dX0_packBehind_45 ?_
      refine z_nameI (fun v3 hv => ?_)
      have h := zlet_use h hv
      clear hv
      refine z_istore dX0_packBehind_46 (by decide) ?_
      refine zeqL (L2 := [.ref x0, .int x1, .int x2, .int x3, .int v3, .int x5, .int v2]) rfl ?_
      obtain ⟨v4, hv⟩ : ∃ z : Int32, z = x5 + 1 := ⟨_, rfl⟩
      have h := zlet_use h hv
      refine z_iinc (v := v4) dX0_packBehind_48 (x := x5) rfl (by rw [hv]; rfl) ?_
      clear hv
      refine zeqL (L2 := [.ref x0, .int x1, .int x2, .int x3, .int v3, .int v4, .int v2]) rfl ?_
      refine z_goto (tgt := 6) dX0_packBehind_51 (by decide) ?_
      refine zweak [true, true, true, true, true, true, false] ?_
      exact ih _ _ _ _ _ _ _ _ h
def f_X0_packBehind (x0 : Nat) (x1 : Int32) (x2 : Int32) (x3 : Int32) (M : zMe) : Option (Int32 × zMe) :=
  f_X0_packBehind_b6 zfu x0 x1 x2 x3 0 0 M
set_option maxHeartbeats 4000000 in
set_option maxRecDepth 100000 in
theorem s_X0_packBehind {g : zG} (hC : zC g) {x0 : Nat} {x1 : Int32} {x2 : Int32} {x3 : Int32} {M : zMe} {q : (Int32 × zMe)} (h : f_X0_packBehind x0 x1 x2 x3 M = some q) : zMet g yX0_packBehind mX0_packBehind [.ref x0, .int x1, .int x2, .int x3] M (some (.int q.1)) q.2 := by
  refine z_entry (by decide +kernel) rfl rfl (Nat.le_of_ble_eq_true rfl) ?_
  refine zeqL (L2 := [.ref x0, .int x1, .int x2, .int x3, .retAddr 0, .retAddr 0, .retAddr 0]) rfl ?_
  unfold f_X0_packBehind at h
  refine z_iconst 0 (by decide) dX0_packBehind_0 ?_
  refine z_istore dX0_packBehind_1 (by decide) ?_
  refine zeqL (L2 := [.ref x0, .int x1, .int x2, .int x3, .int 0, .retAddr 0, .retAddr 0]) rfl ?_
  refine z_iconst 0 (by decide) dX0_packBehind_3 ?_
  refine z_istore dX0_packBehind_4 (by decide) ?_
  refine zeqL (L2 := [.ref x0, .int x1, .int x2, .int x3, .int 0, .int 0, .retAddr 0]) rfl ?_
  exact s_X0_packBehind_b6 hC _ _ _ _ _ _ _ _ _ h
def f_X0_whistleOn (x0 : Nat) (x1 : Int32) (x2 : Int64) (x4 : Int32) (x5 : Int32) (M : zMe) : Option zMe :=
  (f_X0_packOf x2 M).bind fun q1 =>
  (f_X0_tuneOf x2 q1.2).bind fun q2 =>
  (f_X0_breathOf x2 q2.2).bind fun q3 =>
  (zob q3.2 x0 0).bind fun _ =>
  (f_X0_packBehind x0 x1 0 q1.1 q3.2).bind fun q4 =>
  (zob q4.2 x0 0).bind fun _ =>
  (f_X0_offer x0 (x1 + 1) q4.1 q2.1 (q3.1 + x4) q4.2).bind fun q5 =>
  (zob q5 x0 0).bind fun _ =>
  (f_X0_packBehind x0 x1 1 q1.1 q5).bind fun q6 =>
  (zob q6.2 x0 0).bind fun _ =>
  (f_X0_offer x0 (x1 + 1) q6.1 (q2.1 ||| ((1 : Int32) <<< (x1 &&& 31))) (q3.1 + x5) q6.2).bind fun q7 =>
  some q7
set_option maxHeartbeats 4000000 in
set_option maxRecDepth 100000 in
theorem s_X0_whistleOn {g : zG} (hC : zC g) {x0 : Nat} {x1 : Int32} {x2 : Int64} {x4 : Int32} {x5 : Int32} {M : zMe} {q : zMe} (h : f_X0_whistleOn x0 x1 x2 x4 x5 M = some q) : zMet g yX0_whistleOn mX0_whistleOn [.ref x0, .int x1, .long x2, .int x4, .int x5] M none q := by
  refine z_entry (by decide +kernel) rfl rfl (Nat.le_of_ble_eq_true rfl) ?_
  refine zeqL (L2 := [.ref x0, .int x1, .long x2, .retAddr 0, .int x4, .int x5, .retAddr 0, .retAddr 0, .retAddr 0]) rfl ?_
  unfold f_X0_whistleOn at h
  refine z_lload_n (x := x2) rfl dX0_whistleOn_0 ?_
  obtain ⟨q1, h1, h⟩ := zbind h
  refine z_callS (av := [.long x2]) (rest := []) hC (s_X0_packOf hC h1) lk_X0_118 st_X0_packOf cd_X0_packOf ⟨by decide, by decide, (Nat.le_of_ble_eq_true rfl)⟩ dX0_whistleOn_1 ?_
  refine zeqS (stk2 := [.int q1.1]) rfl ?_
  refine z_istore dX0_whistleOn_4 (by decide) ?_
  refine zeqL (L2 := [.ref x0, .int x1, .long x2, .retAddr 0, .int x4, .int x5, .int q1.1, .retAddr 0, .retAddr 0]) rfl ?_
  refine z_lload_n (x := x2) rfl dX0_whistleOn_6 ?_
  obtain ⟨q2, h2, h⟩ := zbind h
  refine z_callS (av := [.long x2]) (rest := []) hC (s_X0_tuneOf hC h2) lk_X0_127 st_X0_tuneOf cd_X0_tuneOf ⟨by decide, by decide, (Nat.le_of_ble_eq_true rfl)⟩ dX0_whistleOn_7 ?_
  refine zeqS (stk2 := [.int q2.1]) rfl ?_
  refine z_istore dX0_whistleOn_10 (by decide) ?_
  refine zeqL (L2 := [.ref x0, .int x1, .long x2, .retAddr 0, .int x4, .int x5, .int q1.1, .int q2.1, .retAddr 0]) rfl ?_
  refine z_lload_n (x := x2) rfl dX0_whistleOn_12 ?_
  obtain ⟨q3, h3, h⟩ := zbind h
  refine z_callS (av := [.long x2]) (rest := []) hC (s_X0_breathOf hC h3) lk_X0_114 st_X0_breathOf cd_X0_breathOf ⟨by decide, by decide, (Nat.le_of_ble_eq_true rfl)⟩ dX0_whistleOn_13 ?_
  refine zeqS (stk2 := [.int q3.1]) rfl ?_
  refine z_istore dX0_whistleOn_16 (by decide) ?_
  refine zeqL (L2 := [.ref x0, .int x1, .long x2, .retAddr 0, .int x4, .int x5, .int q1.1, .int q2.1, .int q3.1]) rfl ?_
  refine z_aload_n (x := x0) rfl dX0_whistleOn_18 ?_
  refine z_iload_n (x := x1) rfl dX0_whistleOn_19 ?_
  refine z_iconst 1 (by decide) dX0_whistleOn_20 ?_
  refine z_iadd dX0_whistleOn_21 ?_
  refine z_aload_n (x := x0) rfl dX0_whistleOn_22 ?_
  refine z_iload_n (x := x1) rfl dX0_whistleOn_23 ?_
  refine z_iconst 0 (by decide) dX0_whistleOn_24 ?_
  refine z_iload (x := q1.1) rfl dX0_whistleOn_25 ?_
  obtain ⟨_, hb, h⟩ := zbind h
  obtain ⟨fs, hb⟩ := zob_some hb
  obtain ⟨q4, h4, h⟩ := zbind h
  refine z_callV (av := [.int x1, .int 0, .int q1.1]) (rest := [.int (x1 + 1), .ref x0]) hC zcl_0 hb (s_X0_packBehind hC h4) lk_X0_130 im_X0_packBehind se_X0_packBehind cd_X0_packBehind ⟨by decide, by decide, (Nat.le_of_ble_eq_true rfl)⟩ dX0_whistleOn_27 ?_
  clear hb fs
  refine zeqS (stk2 := [.int q4.1, .int (x1 + 1), .ref x0]) rfl ?_
  refine z_iload (x := q2.1) rfl dX0_whistleOn_30 ?_
  refine z_iload (x := q3.1) rfl dX0_whistleOn_32 ?_
  refine z_iload (x := x4) rfl dX0_whistleOn_34 ?_
  refine z_iadd dX0_whistleOn_36 ?_
  obtain ⟨_, hb, h⟩ := zbind h
  obtain ⟨fs, hb⟩ := zob_some hb
  obtain ⟨q5, h5, h⟩ := zbind h
  refine z_callV (av := [.int (x1 + 1), .int q4.1, .int q2.1, .int (q3.1 + x4)]) (rest := []) hC zcl_0 hb (s_X0_offer hC h5) lk_X0_102 im_X0_offer se_X0_offer cd_X0_offer ⟨by decide, by decide, (Nat.le_of_ble_eq_true rfl)⟩ dX0_whistleOn_37 ?_
  clear hb fs
  refine zeqS (stk2 := []) rfl ?_
  refine z_aload_n (x := x0) rfl dX0_whistleOn_40 ?_
  refine z_iload_n (x := x1) rfl dX0_whistleOn_41 ?_
  refine z_iconst 1 (by decide) dX0_whistleOn_42 ?_
  refine z_iadd dX0_whistleOn_43 ?_
  refine z_aload_n (x := x0) rfl dX0_whistleOn_44 ?_
  refine z_iload_n (x := x1) rfl dX0_whistleOn_45 ?_
  refine z_iconst 1 (by decide) dX0_whistleOn_46 ?_
  refine z_iload (x := q1.1) rfl dX0_whistleOn_47 ?_
  obtain ⟨_, hb, h⟩ := zbind h
  obtain ⟨fs, hb⟩ := zob_some hb
  obtain ⟨q6, h6, h⟩ := zbind h
  refine z_callV (av := [.int x1, .int 1, .int q1.1]) (rest := [.int (x1 + 1), .ref x0]) hC zcl_0 hb (s_X0_packBehind hC h6) lk_X0_130 im_X0_packBehind se_X0_packBehind cd_X0_packBehind ⟨by decide, by decide, (Nat.le_of_ble_eq_true rfl)⟩ dX0_whistleOn_49 ?_
  clear hb fs
  refine zeqS (stk2 := [.int q6.1, .int (x1 + 1), .ref x0]) rfl ?_
  refine z_iload (x := q2.1) rfl dX0_whistleOn_52 ?_
  refine z_iconst 1 (by decide) dX0_whistleOn_54 ?_
  refine z_iload_n (x := x1) rfl dX0_whistleOn_55 ?_
  refine z_ishl dX0_whistleOn_56 ?_
  refine z_ior dX0_whistleOn_57 ?_
  refine z_iload (x := q3.1) rfl dX0_whistleOn_58 ?_
  refine z_iload (x := x5) rfl dX0_whistleOn_60 ?_
  refine z_iadd dX0_whistleOn_62 ?_
  obtain ⟨_, hb, h⟩ := zbind h
  obtain ⟨fs, hb⟩ := zob_some hb
  obtain ⟨q7, h7, h⟩ := zbind h
  refine z_callV (av := [.int (x1 + 1), .int q6.1, .int (q2.1 ||| ((1 : Int32) <<< (x1 &&& 31))), .int (q3.1 + x5)]) (rest := []) hC zcl_0 hb (s_X0_offer hC h7) lk_X0_102 im_X0_offer se_X0_offer cd_X0_offer ⟨by decide, by decide, (Nat.le_of_ble_eq_true rfl)⟩ dX0_whistleOn_63 ?_
  clear hb fs
  refine zeqS (stk2 := []) rfl ?_
  obtain rfl := Option.some.inj h
  exact z_ret rfl dX0_whistleOn_66
def f_X0_seek_b125  (y0 : Int32) (M : zMe) : Option (Int32 × zMe) :=
  if y0 = 0 ∨ y0 = 1 then some (y0, M) else none
set_option maxHeartbeats 4000000 in
set_option maxRecDepth 100000 in
theorem s_X0_seek_b125 {g : zG} (hC : zC g)  (y0 : Int32) (M : zMe) (q : (Int32 × zMe)) (h : f_X0_seek_b125  y0 M = some q) : zW g mX0_seek 125 [.retAddr 0, .retAddr 0, .retAddr 0, .retAddr 0, .retAddr 0, .retAddr 0] [.int y0] M (some (.int q.1)) q.2 := by
  unfold f_X0_seek_b125 at h
  obtain ⟨hz, h⟩ := zifs h
  obtain rfl := Option.some.inj h
  exact z_iret ⟨.boolean, rfl, zbo hz⟩ dX0_seek_125
def f_X0_seek_b111  (x0 : Nat) (M : zMe) : Option (Int32 × zMe) :=
  (zgI M x0 [0] 9).bind fun v1 =>
  if v1 = 1048576 then (
    f_X0_seek_b125 0 M)
  else (
    f_X0_seek_b125 1 M)
set_option maxHeartbeats 4000000 in
set_option maxRecDepth 100000 in
theorem s_X0_seek_b111 {g : zG} (hC : zC g)  (x0 : Nat) (M : zMe) (q : (Int32 × zMe)) (h : f_X0_seek_b111  x0 M = some q) : zW g mX0_seek 111 [.ref x0, .retAddr 0, .retAddr 0, .retAddr 0, .retAddr 0, .retAddr 0] [] M (some (.int q.1)) q.2 := by
  unfold f_X0_seek_b111 at h
  refine z_aload_n (x := x0) rfl dX0_seek_111 ?_
  obtain ⟨v1, h1, h⟩ := zbind h
  refine z_gI hC fs_X0_50 h1 dX0_seek_112 ?_
  refine z_ldc hC dX0_seek_115 kc_X0_49 ?_
  refine z_icmp_eq (tgt := 124) dX0_seek_117 (by decide) (fun c1 => ?_) (fun c1 => ?_)
  · have h := zift h c1
    refine z_iconst 0 (by decide) dX0_seek_124 ?_
    refine zweak [false, false, false, false, false, false] ?_
    exact s_X0_seek_b125 hC _ _ _ h
  · have h := zife h c1
    refine z_iconst 1 (by decide) dX0_seek_120 ?_
    refine z_goto (tgt := 125) dX0_seek_121 (by decide) ?_
    refine zweak [false, false, false, false, false, false] ?_
    exact s_X0_seek_b125 hC _ _ _ h
def f_X0_seek_b105 (k45 : Nat → Int32 → Int32 → Int32 → zMe → Option (Int32 × zMe)) (x0 : Nat) (x1 : Int32) (x2 : Int32) (x3 : Int32) (M : zMe) : Option (Int32 × zMe) :=
  zlet (x3 + 1) fun v1 =>
  k45 x0 x1 x2 v1 M
set_option maxHeartbeats 4000000 in
set_option maxRecDepth 100000 in
theorem s_X0_seek_b105 {g : zG} (hC : zC g) {k45 : Nat → Int32 → Int32 → Int32 → zMe → Option (Int32 × zMe)} (hk45 : ∀ (x0 : Nat) (x1 : Int32) (x2 : Int32) (x3 : Int32) (M : zMe) (q : (Int32 × zMe)), k45 x0 x1 x2 x3 M = some q → zW g mX0_seek 45 [.ref x0, .int x1, .int x2, .int x3, .retAddr 0, .retAddr 0] [] M (some (.int q.1)) q.2) (x0 : Nat) (x1 : Int32) (x2 : Int32) (x3 : Int32) (M : zMe) (q : (Int32 × zMe)) (h : f_X0_seek_b105 k45 x0 x1 x2 x3 M = some q) : zW g mX0_seek 105 [.ref x0, .int x1, .int x2, .int x3, .retAddr 0, .retAddr 0] [] M (some (.int q.1)) q.2 := by
  unfold f_X0_seek_b105 at h
  obtain ⟨v1, hv⟩ : ∃ z : Int32, z = x3 + 1 := ⟨_, rfl⟩
  have h := zlet_use h hv
  refine z_iinc (v := v1) dX0_seek_105 (x := x3) rfl (by rw [hv]; rfl) ?_
  clear hv
  refine zeqL (L2 := [.ref x0, .int x1, .int x2, .int v1, .retAddr 0, .retAddr 0]) rfl ?_
  refine z_goto (tgt := 45) dX0_seek_108 (by decide) ?_
  exact hk45 _ _ _ _ _ _ h
def f_X0_seek_b68 (k45 : Nat → Int32 → Int32 → Int32 → zMe → Option (Int32 × zMe)) : Nat → Nat → Int32 → Int32 → Int32 → Int32 → Int32 → zMe → Option (Int32 × zMe)
  | 0, _, _, _, _, _, _, _ => none
  | n + 1, x0, x1, x2, x3, x4, x5, M =>
    if x4 ≤ x5 then (
      f_X0_seek_b105 k45 x0 x1 x2 x3 M)
    else (
      (zgN M x0 [0] 5).bind fun a1 =>
      (zln M a1).bind fun v1 =>
      if v1 ≤ x5 then (
        f_X0_seek_b105 k45 x0 x1 x2 x3 M)
      else (
        (zgN M x0 [0] 5).bind fun a2 =>
        (zrL M a2 x5).bind fun v2 =>
        (zob M x0 0).bind fun _ =>
        (f_X0_whistleOn x0 x3 v2 x1 x2 M).bind fun q1 =>
        zlet (x5 + 1) fun v3 =>
        f_X0_seek_b68 k45 n x0 x1 x2 x3 x4 v3 q1))
set_option maxHeartbeats 4000000 in
set_option maxRecDepth 100000 in
theorem s_X0_seek_b68 {g : zG} (hC : zC g) {k45 : Nat → Int32 → Int32 → Int32 → zMe → Option (Int32 × zMe)} (hk45 : ∀ (x0 : Nat) (x1 : Int32) (x2 : Int32) (x3 : Int32) (M : zMe) (q : (Int32 × zMe)), k45 x0 x1 x2 x3 M = some q → zW g mX0_seek 45 [.ref x0, .int x1, .int x2, .int x3, .retAddr 0, .retAddr 0] [] M (some (.int q.1)) q.2) : ∀ (n : Nat) (x0 : Nat) (x1 : Int32) (x2 : Int32) (x3 : Int32) (x4 : Int32) (x5 : Int32) (M : zMe) (q : (Int32 × zMe)), f_X0_seek_b68 k45 n x0 x1 x2 x3 x4 x5 M = some q → zW g mX0_seek 68 [.ref x0, .int x1, .int x2, .int x3, .int x4, .int x5] [] M (some (.int q.1)) q.2 := by
  intro n
  induction n with
  | zero => intro x0 x1 x2 x3 x4 x5 M q h; cases h
  | succ n ih =>
    intro x0 x1 x2 x3 x4 x5 M q h
    rw [f_X0_seek_b68] at h
    refine z_iload (x := x5) rfl dX0_seek_68 ?_
    refine z_iload (x := x4) rfl dX0_seek_70 ?_
    refine z_icmp_ge (tgt := 105) dX0_seek_72 (by decide) (fun c1 => ?_) (fun c1 => ?_)
    · have h := zift h c1
      refine zweak [true, true, true, true, false, false] ?_
      exact s_X0_seek_b105 hC hk45 _ _ _ _ _ _ h
    · have h := zife h c1
      refine z_iload (x := x5) rfl dX0_seek_75 ?_
      refine z_aload_n (x := x0) rfl dX0_seek_77 ?_
      obtain ⟨a1, h1, h⟩ := zbind h
      refine z_gN hC fs_X0_36 h1 dX0_seek_78 ?_
      obtain ⟨v1, h2, h⟩ := zbind h
      refine z_ln h2 dX0_seek_81 ?_
      refine z_icmp_ge (tgt := 105) dX0_seek_82 (by decide) (fun c2 => ?_) (fun c2 => ?_)
      · have h := zift h c2
        refine zweak [true, true, true, true, false, false] ?_
        exact s_X0_seek_b105 hC hk45 _ _ _ _ _ _ h
      · have h := zife h c2
        refine z_aload_n (x := x0) rfl dX0_seek_85 ?_
        refine z_iload_n (x := x3) rfl dX0_seek_86 ?_
        refine z_aload_n (x := x0) rfl dX0_seek_87 ?_
        obtain ⟨a2, h3, h⟩ := zbind h
        refine z_gN hC fs_X0_36 h3 dX0_seek_88 ?_
        refine z_iload (x := x5) rfl dX0_seek_91 ?_
        obtain ⟨v2, h4, h⟩ := zbind h
        refine z_rL h4 dX0_seek_93 ?_
        refine z_iload_n (x := x1) rfl dX0_seek_94 ?_
        refine z_iload_n (x := x2) rfl dX0_seek_95 ?_
        obtain ⟨_, hb, h⟩ := zbind h
        obtain ⟨fs, hb⟩ := zob_some hb
        obtain ⟨q1, h5, h⟩ := zbind h
        refine z_callV (av := [.int x3, .long v2, .int x1, .int x2]) (rest := []) hC zcl_0 hb (s_X0_whistleOn hC h5) lk_X0_110 im_X0_whistleOn se_X0_whistleOn cd_X0_whistleOn ⟨by decide, by decide, (Nat.le_of_ble_eq_true rfl)⟩ dX0_seek_96 ?_
        clear hb fs
        refine zeqS (stk2 := []) rfl ?_
        obtain ⟨v3, hv⟩ : ∃ z : Int32, z = x5 + 1 := ⟨_, rfl⟩
        have h := zlet_use h hv
        refine z_iinc (v := v3) dX0_seek_99 (x := x5) rfl (by rw [hv]; rfl) ?_
        clear hv
        refine zeqL (L2 := [.ref x0, .int x1, .int x2, .int x3, .int x4, .int v3]) rfl ?_
        refine z_goto (tgt := 68) dX0_seek_102 (by decide) ?_
        exact ih _ _ _ _ _ _ _ _ h
def f_X0_seek_b45  : Nat → Nat → Int32 → Int32 → Int32 → zMe → Option (Int32 × zMe)
  | 0, _, _, _, _, _ => none
  | n + 1, x0, x1, x2, x3, M =>
    if 20 ≤ x3 then (
      f_X0_seek_b111 x0 M)
    else (
      (zgI M x0 [0] 7).bind fun v1 =>
      if v1 ≤ 0 then (
        f_X0_seek_b111 x0 M)
      else (
        (zob M x0 0).bind fun _ =>
        (f_X0_takeLater x0 x3 M).bind fun q1 =>
        f_X0_seek_b68 (f_X0_seek_b45 n) zfu x0 x1 x2 x3 q1.1 0 q1.2))
set_option maxHeartbeats 4000000 in
set_option maxRecDepth 100000 in
theorem s_X0_seek_b45 {g : zG} (hC : zC g)  : ∀ (n : Nat) (x0 : Nat) (x1 : Int32) (x2 : Int32) (x3 : Int32) (M : zMe) (q : (Int32 × zMe)), f_X0_seek_b45  n x0 x1 x2 x3 M = some q → zW g mX0_seek 45 [.ref x0, .int x1, .int x2, .int x3, .retAddr 0, .retAddr 0] [] M (some (.int q.1)) q.2 := by
  intro n
  induction n with
  | zero => intro x0 x1 x2 x3 M q h; cases h
  | succ n ih =>
    intro x0 x1 x2 x3 M q h
    rw [f_X0_seek_b45] at h
    refine z_iload_n (x := x3) rfl dX0_seek_45 ?_
    refine z_bipush 20 (by decide) dX0_seek_46 ?_
    refine z_icmp_ge (tgt := 111) dX0_seek_48 (by decide) (fun c1 => ?_) (fun c1 => ?_)
    · have h := zift h c1
      refine zweak [true, false, false, false, false, false] ?_
      exact s_X0_seek_b111 hC _ _ _ h
    · have h := zife h c1
      refine z_aload_n (x := x0) rfl dX0_seek_51 ?_
      obtain ⟨v1, h1, h⟩ := zbind h
      refine z_gI hC fs_X0_43 h1 dX0_seek_52 ?_
      refine z_if_le (tgt := 111) dX0_seek_55 (by decide) (fun c2 => ?_) (fun c2 => ?_)
      · have h := zift h c2
        refine zweak [true, false, false, false, false, false] ?_
        exact s_X0_seek_b111 hC _ _ _ h
      · have h := zife h c2
        refine z_aload_n (x := x0) rfl dX0_seek_58 ?_
        refine z_iload_n (x := x3) rfl dX0_seek_59 ?_
        obtain ⟨_, hb, h⟩ := zbind h
        obtain ⟨fs, hb⟩ := zob_some hb
        obtain ⟨q1, h2, h⟩ := zbind h
        refine z_callV (av := [.int x3]) (rest := []) hC zcl_0 hb (s_X0_takeLater hC h2) lk_X0_106 im_X0_takeLater se_X0_takeLater cd_X0_takeLater ⟨by decide, by decide, (Nat.le_of_ble_eq_true rfl)⟩ dX0_seek_60 ?_
        clear hb fs
        refine zeqS (stk2 := [.int q1.1]) rfl ?_
        refine z_istore dX0_seek_63 (by decide) ?_
        refine zeqL (L2 := [.ref x0, .int x1, .int x2, .int x3, .int q1.1, .retAddr 0]) rfl ?_
        refine z_iconst 0 (by decide) dX0_seek_65 ?_
        refine z_istore dX0_seek_66 (by decide) ?_
        refine zeqL (L2 := [.ref x0, .int x1, .int x2, .int x3, .int q1.1, .int 0]) rfl ?_
        exact s_X0_seek_b68 hC ih _ _ _ _ _ _ _ _ _ h
def f_X0_seek (x0 : Nat) (x1 : Int32) (x2 : Int32) (M : zMe) : Option (Int32 × zMe) :=
  (zgN M x0 [0] 1).bind fun a1 =>
  (zob M a1 8).bind fun _ =>
  (f_X8_forget a1 M).bind fun q1 =>
  zlet (if (x2 : Int32) < x1 then x2 else x1 : Int32) fun v1 =>
  (zpI q1 x0 [0] 8 v1).bind fun M1 =>
  (zpI M1 x0 [0] 9 1048576).bind fun M2 =>
  (zpI M2 x0 [0] 10 0).bind fun M3 =>
  (zpI M3 x0 [0] 7 0).bind fun M4 =>
  (zgI M4 x0 [0] 3).bind fun v2 =>
  (zob M4 x0 0).bind fun _ =>
  (f_X0_offer x0 0 v2 0 0 M4).bind fun q2 =>
  f_X0_seek_b45 zfu x0 x1 x2 0 q2
set_option maxHeartbeats 4000000 in
set_option maxRecDepth 100000 in
theorem s_X0_seek {g : zG} (hC : zC g) {x0 : Nat} {x1 : Int32} {x2 : Int32} {M : zMe} {q : (Int32 × zMe)} (h : f_X0_seek x0 x1 x2 M = some q) : zMet g yX0_seek mX0_seek [.ref x0, .int x1, .int x2] M (some (.int q.1)) q.2 := by
  refine z_entry (by decide +kernel) rfl rfl (Nat.le_of_ble_eq_true rfl) ?_
  refine zeqL (L2 := [.ref x0, .int x1, .int x2, .retAddr 0, .retAddr 0, .retAddr 0]) rfl ?_
  unfold f_X0_seek at h
  refine z_aload_n (x := x0) rfl dX0_seek_0 ?_
  obtain ⟨a1, h1, h⟩ := zbind h
  refine z_gN hC fs_X0_21 h1 dX0_seek_1 ?_
  obtain ⟨_, hb, h⟩ := zbind h
  obtain ⟨fs, hb⟩ := zob_some hb
  obtain ⟨q1, h2, h⟩ := zbind h
  refine z_callV (av := []) (rest := []) hC zcl_8 hb (s_X8_forget hC h2) lk_X0_93 im_X8_forget se_X8_forget cd_X8_forget ⟨by decide, by decide, (Nat.le_of_ble_eq_true rfl)⟩ dX0_seek_4 ?_
  clear hb fs
  refine zeqS (stk2 := []) rfl ?_
  refine z_aload_n (x := x0) rfl dX0_seek_7 ?_
  refine z_iload_n (x := x1) rfl dX0_seek_8 ?_
  refine z_iload_n (x := x2) rfl dX0_seek_9 ?_
  refine z_mmin hC lk_X0_96 (by decide) (Nat.le_of_ble_eq_true rfl) dX0_seek_10 ?_
  refine z_nameI (fun v1 hv => ?_)
  have h := zlet_use h hv
  clear hv
  obtain ⟨M1, h3, h⟩ := zbind h
  refine z_pI hC fp_X0_46 h3 dX0_seek_13 ?_
  refine z_aload_n (x := x0) rfl dX0_seek_16 ?_
  refine z_ldc hC dX0_seek_17 kc_X0_49 ?_
  obtain ⟨M2, h4, h⟩ := zbind h
  refine z_pI hC fp_X0_50 h4 dX0_seek_19 ?_
  refine z_aload_n (x := x0) rfl dX0_seek_22 ?_
  refine z_iconst 0 (by decide) dX0_seek_23 ?_
  obtain ⟨M3, h5, h⟩ := zbind h
  refine z_pI hC fp_X0_53 h5 dX0_seek_24 ?_
  refine z_aload_n (x := x0) rfl dX0_seek_27 ?_
  refine z_iconst 0 (by decide) dX0_seek_28 ?_
  obtain ⟨M4, h6, h⟩ := zbind h
  refine z_pI hC fp_X0_43 h6 dX0_seek_29 ?_
  refine z_aload_n (x := x0) rfl dX0_seek_32 ?_
  refine z_iconst 0 (by decide) dX0_seek_33 ?_
  refine z_aload_n (x := x0) rfl dX0_seek_34 ?_
  obtain ⟨v2, h7, h⟩ := zbind h
  refine z_gI hC fs_X0_29 h7 dX0_seek_35 ?_
  refine z_iconst 0 (by decide) dX0_seek_38 ?_
  refine z_iconst 0 (by decide) dX0_seek_39 ?_
  obtain ⟨_, hb, h⟩ := zbind h
  obtain ⟨fs, hb⟩ := zob_some hb
  obtain ⟨q2, h8, h⟩ := zbind h
  refine z_callV (av := [.int 0, .int v2, .int 0, .int 0]) (rest := []) hC zcl_0 hb (s_X0_offer hC h8) lk_X0_102 im_X0_offer se_X0_offer cd_X0_offer ⟨by decide, by decide, (Nat.le_of_ble_eq_true rfl)⟩ dX0_seek_40 ?_
  clear hb fs
  refine zeqS (stk2 := []) rfl ?_
  refine z_iconst 0 (by decide) dX0_seek_43 ?_
  refine z_istore_n dX0_seek_44 (by decide) ?_
  refine zeqL (L2 := [.ref x0, .int x1, .int x2, .int 0, .retAddr 0, .retAddr 0]) rfl ?_
  exact s_X0_seek_b45 hC _ _ _ _ _ _ _ h
def f_X0_leastBreathFound (x0 : Nat) (M : zMe) : Option (Int32 × zMe) :=
  (zgI M x0 [0] 9).bind fun v1 =>
  some (v1, M)
set_option maxHeartbeats 4000000 in
set_option maxRecDepth 100000 in
theorem s_X0_leastBreathFound {g : zG} (hC : zC g) {x0 : Nat} {M : zMe} {q : (Int32 × zMe)} (h : f_X0_leastBreathFound x0 M = some q) : zMet g yX0_leastBreathFound mX0_leastBreathFound [.ref x0] M (some (.int q.1)) q.2 := by
  refine z_entry (by decide +kernel) rfl rfl (Nat.le_of_ble_eq_true rfl) ?_
  refine zeqL (L2 := [.ref x0]) rfl ?_
  unfold f_X0_leastBreathFound at h
  refine z_aload_n (x := x0) rfl dX0_leastBreathFound_0 ?_
  obtain ⟨v1, h1, h⟩ := zbind h
  refine z_gI hC fs_X0_50 h1 dX0_leastBreathFound_1 ?_
  obtain rfl := Option.some.inj h
  exact z_iret ⟨.int, rfl, rfl⟩ dX0_leastBreathFound_4
def f_X0_shortest_b15  (y0 : Int32) (M : zMe) : Option (Int32 × zMe) :=
  some (y0, M)
set_option maxHeartbeats 4000000 in
set_option maxRecDepth 100000 in
theorem s_X0_shortest_b15 {g : zG} (hC : zC g)  (y0 : Int32) (M : zMe) (q : (Int32 × zMe)) (h : f_X0_shortest_b15  y0 M = some q) : zW g mX0_shortest 15 [.retAddr 0, .retAddr 0] [.int y0] M (some (.int q.1)) q.2 := by
  unfold f_X0_shortest_b15 at h
  obtain rfl := Option.some.inj h
  exact z_iret ⟨.int, rfl, rfl⟩ dX0_shortest_15
def f_X0_shortest (x0 : Nat) (x1 : Int32) (M : zMe) : Option (Int32 × zMe) :=
  if x1 = 0 then (
    (zgI M x0 [0] 9).bind fun v1 =>
    f_X0_shortest_b15 v1 M)
  else (
    (zgI M x0 [0] 10).bind fun v2 =>
    f_X0_shortest_b15 v2 M)
set_option maxHeartbeats 4000000 in
set_option maxRecDepth 100000 in
theorem s_X0_shortest {g : zG} (hC : zC g) {x0 : Nat} {x1 : Int32} {M : zMe} {q : (Int32 × zMe)} (h : f_X0_shortest x0 x1 M = some q) : zMet g yX0_shortest mX0_shortest [.ref x0, .int x1] M (some (.int q.1)) q.2 := by
  refine z_entry (by decide +kernel) rfl rfl (Nat.le_of_ble_eq_true rfl) ?_
  refine zeqL (L2 := [.ref x0, .int x1]) rfl ?_
  unfold f_X0_shortest at h
  refine z_iload_n (x := x1) rfl dX0_shortest_0 ?_
  refine z_if_ne (tgt := 11) dX0_shortest_1 (by decide) (fun c1 => ?_) (fun c1 => ?_)
  · have h := zife h c1
    refine z_aload_n (x := x0) rfl dX0_shortest_11 ?_
    obtain ⟨v2, h2, h⟩ := zbind h
    refine z_gI hC fs_X0_53 h2 dX0_shortest_12 ?_
    refine zweak [false, false] ?_
    exact s_X0_shortest_b15 hC _ _ _ h
  · have h := zift h c1
    refine z_aload_n (x := x0) rfl dX0_shortest_4 ?_
    obtain ⟨v1, h1, h⟩ := zbind h
    refine z_gI hC fs_X0_50 h1 dX0_shortest_5 ?_
    refine z_goto (tgt := 15) dX0_shortest_8 (by decide) ?_
    refine zweak [false, false] ?_
    exact s_X0_shortest_b15 hC _ _ _ h
def f_X5_init (x0 : Nat) (x1 : Int32) (x2 : Int32) (x3 : Int32) (M : zMe) : Option zMe :=
  (zpI M x0 [5, 1, 9, 6, 3] 0 x1).bind fun M1 =>
  (zpI M1 x0 [5, 1, 9, 6, 3] 1 x2).bind fun M2 =>
  (zpI M2 x0 [5, 1, 9, 6, 3] 2 x3).bind fun M3 =>
  some M3
set_option maxHeartbeats 4000000 in
set_option maxRecDepth 100000 in
theorem s_X5_init {g : zG} (hC : zC g) {x0 : Nat} {x1 : Int32} {x2 : Int32} {x3 : Int32} {M : zMe} {q : zMe} (h : f_X5_init x0 x1 x2 x3 M = some q) : zMet g yX5_init mX5_init [.ref x0, .int x1, .int x2, .int x3] M none q := by
  refine z_entry (by decide +kernel) rfl rfl (Nat.le_of_ble_eq_true rfl) ?_
  refine zeqL (L2 := [.ref x0, .int x1, .int x2, .int x3]) rfl ?_
  unfold f_X5_init at h
  refine z_aload_n (x := x0) rfl dX5_init_0 ?_
  refine z_objInit hC dX5_init_1 lk_X5_1 im_obj cd_obj (by decide) (Nat.le_of_ble_eq_true rfl) ?_
  refine z_aload_n (x := x0) rfl dX5_init_4 ?_
  refine z_iload_n (x := x1) rfl dX5_init_5 ?_
  obtain ⟨M1, h1, h⟩ := zbind h
  refine z_pI hC fp_X5_7 h1 dX5_init_6 ?_
  refine z_aload_n (x := x0) rfl dX5_init_9 ?_
  refine z_iload_n (x := x2) rfl dX5_init_10 ?_
  obtain ⟨M2, h2, h⟩ := zbind h
  refine z_pI hC fp_X5_13 h2 dX5_init_11 ?_
  refine z_aload_n (x := x0) rfl dX5_init_14 ?_
  refine z_iload_n (x := x3) rfl dX5_init_15 ?_
  obtain ⟨M3, h3, h⟩ := zbind h
  refine z_pI hC fp_X5_16 h3 dX5_init_16 ?_
  obtain rfl := Option.some.inj h
  exact z_ret rfl dX5_init_19
def f_X1_init (x0 : Nat) (x1 : Int32) (x2 : Int32) (x3 : Int32) (M : zMe) : Option zMe :=
  (f_X5_init x0 x1 x2 x3 M).bind fun q1 =>
  some q1
set_option maxHeartbeats 4000000 in
set_option maxRecDepth 100000 in
theorem s_X1_init {g : zG} (hC : zC g) {x0 : Nat} {x1 : Int32} {x2 : Int32} {x3 : Int32} {M : zMe} {q : zMe} (h : f_X1_init x0 x1 x2 x3 M = some q) : zMet g yX1_init mX1_init [.ref x0, .int x1, .int x2, .int x3] M none q := by
  refine z_entry (by decide +kernel) rfl rfl (Nat.le_of_ble_eq_true rfl) ?_
  refine zeqL (L2 := [.ref x0, .int x1, .int x2, .int x3]) rfl ?_
  unfold f_X1_init at h
  refine z_aload_n (x := x0) rfl dX1_init_0 ?_
  refine z_iload_n (x := x1) rfl dX1_init_1 ?_
  refine z_iload_n (x := x2) rfl dX1_init_2 ?_
  refine z_iload_n (x := x3) rfl dX1_init_3 ?_
  obtain ⟨q1, h1, h⟩ := zbind h
  refine z_callI (av := [.int x1, .int x2, .int x3]) (rest := []) hC (s_X5_init hC h1) lk_X1_1 im_X5_init rfl rfl cd_X5_init ⟨by decide, by decide, (Nat.le_of_ble_eq_true rfl)⟩ dX1_init_4 ?_
  refine zeqS (stk2 := []) rfl ?_
  obtain rfl := Option.some.inj h
  exact z_ret rfl dX1_init_7
def f_X2_init (x0 : Nat) (M : zMe) : Option zMe :=
  (zpI M x0 [2] 0 5).bind fun M1 =>
  (zpI M1 x0 [2] 1 0).bind fun M2 =>
  (zpI M2 x0 [2] 2 0).bind fun M3 =>
  (zpI M3 x0 [2] 3 0).bind fun M4 =>
  (zpI M4 x0 [2] 4 1).bind fun M5 =>
  (zpI M5 x0 [2] 5 1).bind fun M6 =>
  (zpI M6 x0 [2] 6 0).bind fun M7 =>
  (znR M7 "OneWhistle$Plain" 3).bind fun M8 =>
  (zpR M8 x0 [2] 7 (some M7.2.1)).bind fun M9 =>
  some M9
set_option maxHeartbeats 4000000 in
set_option maxRecDepth 100000 in
theorem s_X2_init {g : zG} (hC : zC g) {x0 : Nat} {M : zMe} {q : zMe} (h : f_X2_init x0 M = some q) : zMet g yX2_init mX2_init [.ref x0] M none q := by
  refine z_entry (by decide +kernel) rfl rfl (Nat.le_of_ble_eq_true rfl) ?_
  refine zeqL (L2 := [.ref x0]) rfl ?_
  unfold f_X2_init at h
  refine z_aload_n (x := x0) rfl dX2_init_0 ?_
  refine z_objInit hC dX2_init_1 lk_X2_3 im_obj cd_obj (by decide) (Nat.le_of_ble_eq_true rfl) ?_
  refine z_aload_n (x := x0) rfl dX2_init_4 ?_
  refine z_iconst 5 (by decide) dX2_init_5 ?_
  obtain ⟨M1, h1, h⟩ := zbind h
  refine z_pI hC fp_X2_9 h1 dX2_init_6 ?_
  refine z_aload_n (x := x0) rfl dX2_init_9 ?_
  refine z_iconst 0 (by decide) dX2_init_10 ?_
  obtain ⟨M2, h2, h⟩ := zbind h
  refine z_pI hC fp_X2_15 h2 dX2_init_11 ?_
  refine z_aload_n (x := x0) rfl dX2_init_14 ?_
  refine z_iconst 0 (by decide) dX2_init_15 ?_
  obtain ⟨M3, h3, h⟩ := zbind h
  refine z_pI hC fp_X2_18 h3 dX2_init_16 ?_
  refine z_aload_n (x := x0) rfl dX2_init_19 ?_
  refine z_iconst 0 (by decide) dX2_init_20 ?_
  obtain ⟨M4, h4, h⟩ := zbind h
  refine z_pI hC fp_X2_21 h4 dX2_init_21 ?_
  refine z_aload_n (x := x0) rfl dX2_init_24 ?_
  refine z_iconst 1 (by decide) dX2_init_25 ?_
  obtain ⟨M5, h5, h⟩ := zbind h
  refine z_pI hC fp_X2_24 h5 dX2_init_26 ?_
  refine z_aload_n (x := x0) rfl dX2_init_29 ?_
  refine z_iconst 1 (by decide) dX2_init_30 ?_
  obtain ⟨M6, h6, h⟩ := zbind h
  refine z_pI hC fp_X2_27 h6 dX2_init_31 ?_
  refine z_aload_n (x := x0) rfl dX2_init_34 ?_
  refine z_iconst 0 (by decide) dX2_init_35 ?_
  obtain ⟨M7, h7, h⟩ := zbind h
  refine z_pI hC fp_X2_30 h7 dX2_init_36 ?_
  refine z_aload_n (x := x0) rfl dX2_init_39 ?_
  refine z_iconst 3 (by decide) dX2_init_40 ?_
  obtain ⟨M8, h8, h⟩ := zbind h
  refine z_nR hC cl_X2_33 ao_5 h8 dX2_init_41 ?_
  obtain ⟨M9, h9, h⟩ := zbind h
  refine z_pRa hC fp_X2_35 h9 dX2_init_44 ?_
  obtain rfl := Option.some.inj h
  exact z_ret rfl dX2_init_47
def f_X2_copy_b66  : Nat → Nat → Nat → Int32 → zMe → Option (Option Nat × zMe)
  | 0, _, _, _, _ => none
  | n + 1, x0, x1, x2, M =>
    if 3 ≤ x2 then (
      some (some x1, M))
    else (
      (zgN M x1 [2] 7).bind fun a1 =>
      (zgN M x0 [2] 7).bind fun a2 =>
      (zrR M a2 x2).bind fun o1 =>
      (zwR M a1 x2 o1 "OneWhistle$Plain" [5, 1, 9, 6, 3]).bind fun M1 =>
      zlet (x2 + 1) fun v1 =>
      f_X2_copy_b66 n x0 x1 v1 M1)
set_option maxHeartbeats 4000000 in
set_option maxRecDepth 100000 in
theorem s_X2_copy_b66 {g : zG} (hC : zC g)  : ∀ (n : Nat) (x0 : Nat) (x1 : Nat) (x2 : Int32) (M : zMe) (q : (Option Nat × zMe)), f_X2_copy_b66  n x0 x1 x2 M = some q → zW g mX2_copy 66 [.ref x0, .ref x1, .int x2] [] M (some (va_rf q.1)) q.2 := by
  intro n
  induction n with
  | zero => intro x0 x1 x2 M q h; cases h
  | succ n ih =>
    intro x0 x1 x2 M q h
    rw [f_X2_copy_b66] at h
    refine z_iload_n (x := x2) rfl dX2_copy_66 ?_
    refine z_iconst 3 (by decide) dX2_copy_67 ?_
    refine z_icmp_ge (tgt := 89) dX2_copy_68 (by decide) (fun c1 => ?_) (fun c1 => ?_)
    · have h := zift h c1
      refine z_aload_n (x := x1) rfl dX2_copy_89 ?_
      obtain rfl := Option.some.inj h
      exact z_aret (x := some x1) rfl (Or.inl ⟨_, rfl⟩) dX2_copy_90
    · have h := zife h c1
      refine z_aload_n (x := x1) rfl dX2_copy_71 ?_
      obtain ⟨a1, h1, h⟩ := zbind h
      refine z_gN hC fs_X2_35 h1 dX2_copy_72 ?_
      refine z_iload_n (x := x2) rfl dX2_copy_75 ?_
      refine z_aload_n (x := x0) rfl dX2_copy_76 ?_
      obtain ⟨a2, h2, h⟩ := zbind h
      refine z_gN hC fs_X2_35 h2 dX2_copy_77 ?_
      refine z_iload_n (x := x2) rfl dX2_copy_80 ?_
      obtain ⟨o1, h3, h⟩ := zbind h
      refine z_rR h3 dX2_copy_81 ?_
      obtain ⟨M1, h4, h⟩ := zbind h
      refine z_wR hC ca_5 h4 dX2_copy_82 ?_
      obtain ⟨v1, hv⟩ : ∃ z : Int32, z = x2 + 1 := ⟨_, rfl⟩
      have h := zlet_use h hv
      refine z_iinc (v := v1) dX2_copy_83 (x := x2) rfl (by rw [hv]; rfl) ?_
      clear hv
      refine zeqL (L2 := [.ref x0, .ref x1, .int v1]) rfl ?_
      refine z_goto (tgt := 66) dX2_copy_86 (by decide) ?_
      exact ih _ _ _ _ _ h
def f_X2_copy (x0 : Nat) (M : zMe) : Option (Option Nat × zMe) :=
  zlet (zAdd M (.inr (2, [.int 0, .int 0, .int 0, .int 0, .int 0, .int 0, .int 0, .null])) 8) fun M1 =>
  (f_X2_init M.2.1 M1).bind fun q1 =>
  (zgI q1 x0 [2] 0).bind fun v1 =>
  (zpI q1 M.2.1 [2] 0 v1).bind fun M2 =>
  (zgI M2 x0 [2] 1).bind fun v2 =>
  (zpI M2 M.2.1 [2] 1 v2).bind fun M3 =>
  (zgI M3 x0 [2] 2).bind fun v3 =>
  (zpI M3 M.2.1 [2] 2 v3).bind fun M4 =>
  (zgI M4 x0 [2] 3).bind fun v4 =>
  (zpI M4 M.2.1 [2] 3 v4).bind fun M5 =>
  (zgI M5 x0 [2] 4).bind fun v5 =>
  (zpI M5 M.2.1 [2] 4 v5).bind fun M6 =>
  (zgI M6 x0 [2] 5).bind fun v6 =>
  (zpI M6 M.2.1 [2] 5 v6).bind fun M7 =>
  (zgI M7 x0 [2] 6).bind fun v7 =>
  (zpI M7 M.2.1 [2] 6 v7).bind fun M8 =>
  f_X2_copy_b66 zfu x0 M.2.1 0 M8
set_option maxHeartbeats 4000000 in
set_option maxRecDepth 100000 in
theorem s_X2_copy {g : zG} (hC : zC g) {x0 : Nat} {M : zMe} {q : (Option Nat × zMe)} (h : f_X2_copy x0 M = some q) : zMet g yX2_copy mX2_copy [.ref x0] M (some (va_rf q.1)) q.2 := by
  refine z_entry (by decide +kernel) rfl rfl (Nat.le_of_ble_eq_true rfl) ?_
  refine zeqL (L2 := [.ref x0, .retAddr 0, .retAddr 0]) rfl ?_
  unfold f_X2_copy at h
  obtain ⟨M1, hm⟩ : ∃ z, z = zAdd M (.inr (2, [.int 0, .int 0, .int 0, .int 0, .int 0, .int 0, .int 0, .null])) 8 := ⟨_, rfl⟩
  have h := zlet_use h hm
  refine z_nO hC zcl_2 (fs := [.int 0, .int 0, .int 0, .int 0, .int 0, .int 0, .int 0, .null]) cl_X2_10 ins_2 ini_2 rfl df_2 hm dX2_copy_0 ?_
  refine z_dup rfl dX2_copy_3 ?_
  obtain ⟨q1, h1, h⟩ := zbind h
  refine z_callI (av := []) (rest := [.ref M.2.1]) hC (s_X2_init hC h1) lk_X2_39 im_X2_init rfl rfl cd_X2_init ⟨by decide, by decide, (Nat.le_of_ble_eq_true rfl)⟩ dX2_copy_4 ?_
  refine zeqS (stk2 := [.ref M.2.1]) rfl ?_
  refine z_astore_n dX2_copy_7 (by decide) ?_
  refine zeqL (L2 := [.ref x0, .ref M.2.1, .retAddr 0]) rfl ?_
  refine z_aload_n (x := M.2.1) rfl dX2_copy_8 ?_
  refine z_aload_n (x := x0) rfl dX2_copy_9 ?_
  obtain ⟨v1, h2, h⟩ := zbind h
  refine z_gI hC fs_X2_9 h2 dX2_copy_10 ?_
  obtain ⟨M2, h3, h⟩ := zbind h
  refine z_pI hC fp_X2_9 h3 dX2_copy_13 ?_
  refine z_aload_n (x := M.2.1) rfl dX2_copy_16 ?_
  refine z_aload_n (x := x0) rfl dX2_copy_17 ?_
  obtain ⟨v2, h4, h⟩ := zbind h
  refine z_gI hC fs_X2_15 h4 dX2_copy_18 ?_
  obtain ⟨M3, h5, h⟩ := zbind h
  refine z_pI hC fp_X2_15 h5 dX2_copy_21 ?_
  refine z_aload_n (x := M.2.1) rfl dX2_copy_24 ?_
  refine z_aload_n (x := x0) rfl dX2_copy_25 ?_
  obtain ⟨v3, h6, h⟩ := zbind h
  refine z_gI hC fs_X2_18 h6 dX2_copy_26 ?_
  obtain ⟨M4, h7, h⟩ := zbind h
  refine z_pI hC fp_X2_18 h7 dX2_copy_29 ?_
  refine z_aload_n (x := M.2.1) rfl dX2_copy_32 ?_
  refine z_aload_n (x := x0) rfl dX2_copy_33 ?_
  obtain ⟨v4, h8, h⟩ := zbind h
  refine z_gI hC fs_X2_21 h8 dX2_copy_34 ?_
  obtain ⟨M5, h9, h⟩ := zbind h
  refine z_pI hC fp_X2_21 h9 dX2_copy_37 ?_
  refine z_aload_n (x := M.2.1) rfl dX2_copy_40 ?_
  refine z_aload_n (x := x0) rfl dX2_copy_41 ?_
  obtain ⟨v5, h10, h⟩ := zbind h
  refine z_gI hC fs_X2_24 h10 dX2_copy_42 ?_
  obtain ⟨M6, h11, h⟩ := zbind h
  refine z_pI hC fp_X2_24 h11 dX2_copy_45 ?_
  refine z_aload_n (x := M.2.1) rfl dX2_copy_48 ?_
  refine z_aload_n (x := x0) rfl dX2_copy_49 ?_
  obtain ⟨v6, h12, h⟩ := zbind h
  refine z_gI hC fs_X2_27 h12 dX2_copy_50 ?_
  obtain ⟨M7, h13, h⟩ := zbind h
  refine z_pI hC fp_X2_27 h13 dX2_copy_53 ?_
  refine z_aload_n (x := M.2.1) rfl dX2_copy_56 ?_
  refine z_aload_n (x := x0) rfl dX2_copy_57 ?_
  obtain ⟨v7, h14, h⟩ := zbind h
  refine z_gI hC fs_X2_30 h14 dX2_copy_58 ?_
  obtain ⟨M8, h15, h⟩ := zbind h
  refine z_pI hC fp_X2_30 h15 dX2_copy_61 ?_
  refine z_iconst 0 (by decide) dX2_copy_64 ?_
  refine z_istore_n dX2_copy_65 (by decide) ?_
  refine zeqL (L2 := [.ref x0, .ref M.2.1, .int 0]) rfl ?_
  exact s_X2_copy_b66 hC _ _ _ _ _ _ h
def f_X2_settle (x0 : Nat) (x1 : Int32) (M : zMe) : Option zMe :=
  (zpI M x0 [2] 0 x1).bind fun M1 =>
  (zpI M1 x0 [2] 1 0).bind fun M2 =>
  (zpI M2 x0 [2] 2 0).bind fun M3 =>
  (zpI M3 x0 [2] 3 0).bind fun M4 =>
  (zpI M4 x0 [2] 6 0).bind fun M5 =>
  some M5
set_option maxHeartbeats 4000000 in
set_option maxRecDepth 100000 in
theorem s_X2_settle {g : zG} (hC : zC g) {x0 : Nat} {x1 : Int32} {M : zMe} {q : zMe} (h : f_X2_settle x0 x1 M = some q) : zMet g yX2_settle mX2_settle [.ref x0, .int x1] M none q := by
  refine z_entry (by decide +kernel) rfl rfl (Nat.le_of_ble_eq_true rfl) ?_
  refine zeqL (L2 := [.ref x0, .int x1]) rfl ?_
  unfold f_X2_settle at h
  refine z_aload_n (x := x0) rfl dX2_settle_0 ?_
  refine z_iload_n (x := x1) rfl dX2_settle_1 ?_
  obtain ⟨M1, h1, h⟩ := zbind h
  refine z_pI hC fp_X2_9 h1 dX2_settle_2 ?_
  refine z_aload_n (x := x0) rfl dX2_settle_5 ?_
  refine z_iconst 0 (by decide) dX2_settle_6 ?_
  obtain ⟨M2, h2, h⟩ := zbind h
  refine z_pI hC fp_X2_15 h2 dX2_settle_7 ?_
  refine z_aload_n (x := x0) rfl dX2_settle_10 ?_
  refine z_iconst 0 (by decide) dX2_settle_11 ?_
  obtain ⟨M3, h3, h⟩ := zbind h
  refine z_pI hC fp_X2_18 h3 dX2_settle_12 ?_
  refine z_aload_n (x := x0) rfl dX2_settle_15 ?_
  refine z_iconst 0 (by decide) dX2_settle_16 ?_
  obtain ⟨M4, h4, h⟩ := zbind h
  refine z_pI hC fp_X2_21 h4 dX2_settle_17 ?_
  refine z_aload_n (x := x0) rfl dX2_settle_20 ?_
  refine z_iconst 0 (by decide) dX2_settle_21 ?_
  obtain ⟨M5, h5, h⟩ := zbind h
  refine z_pI hC fp_X2_30 h5 dX2_settle_22 ?_
  obtain rfl := Option.some.inj h
  exact z_ret rfl dX2_settle_25
def f_X2_isPlace_b17  (y0 : Int32) (M : zMe) : Option (Int32 × zMe) :=
  if y0 = 0 ∨ y0 = 1 then some (y0, M) else none
set_option maxHeartbeats 4000000 in
set_option maxRecDepth 100000 in
theorem s_X2_isPlace_b17 {g : zG} (hC : zC g)  (y0 : Int32) (M : zMe) (q : (Int32 × zMe)) (h : f_X2_isPlace_b17  y0 M = some q) : zW g mX2_isPlace 17 [.retAddr 0, .retAddr 0] [.int y0] M (some (.int q.1)) q.2 := by
  unfold f_X2_isPlace_b17 at h
  obtain ⟨hz, h⟩ := zifs h
  obtain rfl := Option.some.inj h
  exact z_iret ⟨.boolean, rfl, zbo hz⟩ dX2_isPlace_17
def f_X2_isPlace_b16   (M : zMe) : Option (Int32 × zMe) :=
  f_X2_isPlace_b17 0 M
set_option maxHeartbeats 4000000 in
set_option maxRecDepth 100000 in
theorem s_X2_isPlace_b16 {g : zG} (hC : zC g)   (M : zMe) (q : (Int32 × zMe)) (h : f_X2_isPlace_b16   M = some q) : zW g mX2_isPlace 16 [.retAddr 0, .retAddr 0] [] M (some (.int q.1)) q.2 := by
  unfold f_X2_isPlace_b16 at h
  refine z_iconst 0 (by decide) dX2_isPlace_16 ?_
  exact s_X2_isPlace_b17 hC _ _ _ h
def f_X2_isPlace (x0 : Nat) (x1 : Int32) (M : zMe) : Option (Int32 × zMe) :=
  if x1 < 0 then (
    f_X2_isPlace_b16 M)
  else (
    (zgI M x0 [2] 0).bind fun v1 =>
    if v1 ≤ x1 then (
      f_X2_isPlace_b16 M)
    else (
      f_X2_isPlace_b17 1 M))
set_option maxHeartbeats 4000000 in
set_option maxRecDepth 100000 in
theorem s_X2_isPlace {g : zG} (hC : zC g) {x0 : Nat} {x1 : Int32} {M : zMe} {q : (Int32 × zMe)} (h : f_X2_isPlace x0 x1 M = some q) : zMet g yX2_isPlace mX2_isPlace [.ref x0, .int x1] M (some (.int q.1)) q.2 := by
  refine z_entry (by decide +kernel) rfl rfl (Nat.le_of_ble_eq_true rfl) ?_
  refine zeqL (L2 := [.ref x0, .int x1]) rfl ?_
  unfold f_X2_isPlace at h
  refine z_iload_n (x := x1) rfl dX2_isPlace_0 ?_
  refine z_if_lt (tgt := 16) dX2_isPlace_1 (by decide) (fun c1 => ?_) (fun c1 => ?_)
  · have h := zift h c1
    refine zweak [false, false] ?_
    exact s_X2_isPlace_b16 hC _ _ h
  · have h := zife h c1
    refine z_iload_n (x := x1) rfl dX2_isPlace_4 ?_
    refine z_aload_n (x := x0) rfl dX2_isPlace_5 ?_
    obtain ⟨v1, h1, h⟩ := zbind h
    refine z_gI hC fs_X2_9 h1 dX2_isPlace_6 ?_
    refine z_icmp_ge (tgt := 16) dX2_isPlace_9 (by decide) (fun c2 => ?_) (fun c2 => ?_)
    · have h := zift h c2
      refine zweak [false, false] ?_
      exact s_X2_isPlace_b16 hC _ _ h
    · have h := zife h c2
      refine z_iconst 1 (by decide) dX2_isPlace_12 ?_
      refine z_goto (tgt := 17) dX2_isPlace_13 (by decide) ?_
      refine zweak [false, false] ?_
      exact s_X2_isPlace_b17 hC _ _ _ h
def f_X2_isRow_b19  : Nat → Nat → Int32 → Int32 → zMe → Option (Int32 × zMe)
  | 0, _, _, _, _ => none
  | n + 1, x0, x1, x2, M =>
    (zgI M x0 [2] 0).bind fun v1 =>
    if v1 ≤ x2 then (
      some (1, M))
    else (
      (zgI M x0 [2] 0).bind fun v2 =>
      if ((x1 >>> ((3 * x2) &&& 31)) &&& 7) < v2 then (
        zlet (x2 + 1) fun v3 =>
        f_X2_isRow_b19 n x0 x1 v3 M)
      else (
        some (0, M)))
set_option maxHeartbeats 4000000 in
set_option maxRecDepth 100000 in
theorem s_X2_isRow_b19 {g : zG} (hC : zC g)  : ∀ (n : Nat) (x0 : Nat) (x1 : Int32) (x2 : Int32) (M : zMe) (q : (Int32 × zMe)), f_X2_isRow_b19  n x0 x1 x2 M = some q → zW g mX2_isRow 19 [.ref x0, .int x1, .int x2] [] M (some (.int q.1)) q.2 := by
  intro n
  induction n with
  | zero => intro x0 x1 x2 M q h; cases h
  | succ n ih =>
    intro x0 x1 x2 M q h
    rw [f_X2_isRow_b19] at h
    refine z_iload_n (x := x2) rfl dX2_isRow_19 ?_
    refine z_aload_n (x := x0) rfl dX2_isRow_20 ?_
    obtain ⟨v1, h1, h⟩ := zbind h
    refine z_gI hC fs_X2_9 h1 dX2_isRow_21 ?_
    refine z_icmp_ge (tgt := 50) dX2_isRow_24 (by decide) (fun c1 => ?_) (fun c1 => ?_)
    · have h := zift h c1
      refine z_iconst 1 (by decide) dX2_isRow_50 ?_
      obtain rfl := Option.some.inj h
      exact z_iret ⟨.boolean, rfl, rfl⟩ dX2_isRow_51
    · have h := zife h c1
      refine z_iload_n (x := x1) rfl dX2_isRow_27 ?_
      refine z_iconst 3 (by decide) dX2_isRow_28 ?_
      refine z_iload_n (x := x2) rfl dX2_isRow_29 ?_
      refine z_imul dX2_isRow_30 ?_
      refine z_ishr dX2_isRow_31 ?_
      refine z_bipush 7 (by decide) dX2_isRow_32 ?_
      refine z_iand dX2_isRow_34 ?_
      refine z_aload_n (x := x0) rfl dX2_isRow_35 ?_
      obtain ⟨v2, h2, h⟩ := zbind h
      refine z_gI hC fs_X2_9 h2 dX2_isRow_36 ?_
      refine z_icmp_lt (tgt := 44) dX2_isRow_39 (by decide) (fun c2 => ?_) (fun c2 => ?_)
      · have h := zift h c2
        obtain ⟨v3, hv⟩ : ∃ z : Int32, z = x2 + 1 := ⟨_, rfl⟩
        have h := zlet_use h hv
        refine z_iinc (v := v3) dX2_isRow_44 (x := x2) rfl (by rw [hv]; rfl) ?_
        clear hv
        refine zeqL (L2 := [.ref x0, .int x1, .int v3]) rfl ?_
        refine z_goto (tgt := 19) dX2_isRow_47 (by decide) ?_
        exact ih _ _ _ _ _ h
      · have h := zife h c2
        refine z_iconst 0 (by decide) dX2_isRow_42 ?_
        obtain rfl := Option.some.inj h
        exact z_iret ⟨.boolean, rfl, rfl⟩ dX2_isRow_43
def f_X2_isRow_b15   (M : zMe) : Option (Int32 × zMe) :=
  some (0, M)
set_option maxHeartbeats 4000000 in
set_option maxRecDepth 100000 in
theorem s_X2_isRow_b15 {g : zG} (hC : zC g)   (M : zMe) (q : (Int32 × zMe)) (h : f_X2_isRow_b15   M = some q) : zW g mX2_isRow 15 [.retAddr 0, .retAddr 0, .retAddr 0] [] M (some (.int q.1)) q.2 := by
  unfold f_X2_isRow_b15 at h
  refine z_iconst 0 (by decide) dX2_isRow_15 ?_
  obtain rfl := Option.some.inj h
  exact z_iret ⟨.boolean, rfl, rfl⟩ dX2_isRow_16
def f_X2_isRow (x0 : Nat) (x1 : Int32) (M : zMe) : Option (Int32 × zMe) :=
  if x1 < 0 then (
    f_X2_isRow_b15 M)
  else (
    (zgI M x0 [2] 0).bind fun v1 =>
    if (x1 >>> ((3 * v1) &&& 31)) = 0 then (
      f_X2_isRow_b19 zfu x0 x1 0 M)
    else (
      f_X2_isRow_b15 M))
set_option maxHeartbeats 4000000 in
set_option maxRecDepth 100000 in
theorem s_X2_isRow {g : zG} (hC : zC g) {x0 : Nat} {x1 : Int32} {M : zMe} {q : (Int32 × zMe)} (h : f_X2_isRow x0 x1 M = some q) : zMet g yX2_isRow mX2_isRow [.ref x0, .int x1] M (some (.int q.1)) q.2 := by
  refine z_entry (by decide +kernel) rfl rfl (Nat.le_of_ble_eq_true rfl) ?_
  refine zeqL (L2 := [.ref x0, .int x1, .retAddr 0]) rfl ?_
  unfold f_X2_isRow at h
  refine z_iload_n (x := x1) rfl dX2_isRow_0 ?_
  refine z_if_lt (tgt := 15) dX2_isRow_1 (by decide) (fun c1 => ?_) (fun c1 => ?_)
  · have h := zift h c1
    refine zweak [false, false, false] ?_
    exact s_X2_isRow_b15 hC _ _ h
  · have h := zife h c1
    refine z_iload_n (x := x1) rfl dX2_isRow_4 ?_
    refine z_iconst 3 (by decide) dX2_isRow_5 ?_
    refine z_aload_n (x := x0) rfl dX2_isRow_6 ?_
    obtain ⟨v1, h1, h⟩ := zbind h
    refine z_gI hC fs_X2_9 h1 dX2_isRow_7 ?_
    refine z_imul dX2_isRow_10 ?_
    refine z_ishr dX2_isRow_11 ?_
    refine z_if_eq (tgt := 17) dX2_isRow_12 (by decide) (fun c2 => ?_) (fun c2 => ?_)
    · have h := zift h c2
      refine z_iconst 0 (by decide) dX2_isRow_17 ?_
      refine z_istore_n dX2_isRow_18 (by decide) ?_
      refine zeqL (L2 := [.ref x0, .int x1, .int 0]) rfl ?_
      exact s_X2_isRow_b19 hC _ _ _ _ _ _ h
    · have h := zife h c2
      refine zweak [false, false, false] ?_
      exact s_X2_isRow_b15 hC _ _ h
def f_X2_isFull_b13  (y0 : Int32) (M : zMe) : Option (Int32 × zMe) :=
  if y0 = 0 ∨ y0 = 1 then some (y0, M) else none
set_option maxHeartbeats 4000000 in
set_option maxRecDepth 100000 in
theorem s_X2_isFull_b13 {g : zG} (hC : zC g)  (y0 : Int32) (M : zMe) (q : (Int32 × zMe)) (h : f_X2_isFull_b13  y0 M = some q) : zW g mX2_isFull 13 [.retAddr 0] [.int y0] M (some (.int q.1)) q.2 := by
  unfold f_X2_isFull_b13 at h
  obtain ⟨hz, h⟩ := zifs h
  obtain rfl := Option.some.inj h
  exact z_iret ⟨.boolean, rfl, zbo hz⟩ dX2_isFull_13
def f_X2_isFull (x0 : Nat) (M : zMe) : Option (Int32 × zMe) :=
  (zgI M x0 [2] 6).bind fun v1 =>
  if v1 < 3 then (
    f_X2_isFull_b13 0 M)
  else (
    f_X2_isFull_b13 1 M)
set_option maxHeartbeats 4000000 in
set_option maxRecDepth 100000 in
theorem s_X2_isFull {g : zG} (hC : zC g) {x0 : Nat} {M : zMe} {q : (Int32 × zMe)} (h : f_X2_isFull x0 M = some q) : zMet g yX2_isFull mX2_isFull [.ref x0] M (some (.int q.1)) q.2 := by
  refine z_entry (by decide +kernel) rfl rfl (Nat.le_of_ble_eq_true rfl) ?_
  refine zeqL (L2 := [.ref x0]) rfl ?_
  unfold f_X2_isFull at h
  refine z_aload_n (x := x0) rfl dX2_isFull_0 ?_
  obtain ⟨v1, h1, h⟩ := zbind h
  refine z_gI hC fs_X2_30 h1 dX2_isFull_1 ?_
  refine z_iconst 3 (by decide) dX2_isFull_4 ?_
  refine z_icmp_lt (tgt := 12) dX2_isFull_5 (by decide) (fun c1 => ?_) (fun c1 => ?_)
  · have h := zift h c1
    refine z_iconst 0 (by decide) dX2_isFull_12 ?_
    refine zweak [false] ?_
    exact s_X2_isFull_b13 hC _ _ _ h
  · have h := zife h c1
    refine z_iconst 1 (by decide) dX2_isFull_8 ?_
    refine z_goto (tgt := 13) dX2_isFull_9 (by decide) ?_
    refine zweak [false] ?_
    exact s_X2_isFull_b13 hC _ _ _ h
def f_X2_addDog_b28  (x0 : Nat) (M : zMe) : Option (Int32 × zMe) :=
  (zgI M x0 [2] 6).bind fun v1 =>
  some (v1 - 1, M)
set_option maxHeartbeats 4000000 in
set_option maxRecDepth 100000 in
theorem s_X2_addDog_b28 {g : zG} (hC : zC g)  (x0 : Nat) (M : zMe) (q : (Int32 × zMe)) (h : f_X2_addDog_b28  x0 M = some q) : zW g mX2_addDog 28 [.ref x0, .retAddr 0] [] M (some (.int q.1)) q.2 := by
  unfold f_X2_addDog_b28 at h
  refine z_aload_n (x := x0) rfl dX2_addDog_28 ?_
  obtain ⟨v1, h1, h⟩ := zbind h
  refine z_gI hC fs_X2_30 h1 dX2_addDog_29 ?_
  refine z_iconst 1 (by decide) dX2_addDog_32 ?_
  refine z_isub dX2_addDog_33 ?_
  obtain rfl := Option.some.inj h
  exact z_iret ⟨.int, rfl, rfl⟩ dX2_addDog_34
def f_X2_addDog (x0 : Nat) (x1 : Nat) (M : zMe) : Option (Int32 × zMe) :=
  (zgI M x0 [2] 6).bind fun v1 =>
  if 3 ≤ v1 then (
    f_X2_addDog_b28 x0 M)
  else (
    (zgN M x0 [2] 7).bind fun a1 =>
    (zgI M x0 [2] 6).bind fun v2 =>
    (zwR M a1 v2 (some x1) "OneWhistle$Plain" [5, 1, 9, 6, 3]).bind fun M1 =>
    (zgI M1 x0 [2] 6).bind fun v3 =>
    (zpI M1 x0 [2] 6 (v3 + 1)).bind fun M2 =>
    f_X2_addDog_b28 x0 M2)
set_option maxHeartbeats 4000000 in
set_option maxRecDepth 100000 in
theorem s_X2_addDog {g : zG} (hC : zC g) {x0 : Nat} {x1 : Nat} {M : zMe} {q : (Int32 × zMe)} (h : f_X2_addDog x0 x1 M = some q) : zMet g yX2_addDog mX2_addDog [.ref x0, .ref x1] M (some (.int q.1)) q.2 := by
  refine z_entry (by decide +kernel) rfl rfl (Nat.le_of_ble_eq_true rfl) ?_
  refine zeqL (L2 := [.ref x0, .ref x1]) rfl ?_
  unfold f_X2_addDog at h
  refine z_aload_n (x := x0) rfl dX2_addDog_0 ?_
  obtain ⟨v1, h1, h⟩ := zbind h
  refine z_gI hC fs_X2_30 h1 dX2_addDog_1 ?_
  refine z_iconst 3 (by decide) dX2_addDog_4 ?_
  refine z_icmp_ge (tgt := 28) dX2_addDog_5 (by decide) (fun c1 => ?_) (fun c1 => ?_)
  · have h := zift h c1
    refine zweak [true, false] ?_
    exact s_X2_addDog_b28 hC _ _ _ h
  · have h := zife h c1
    refine z_aload_n (x := x0) rfl dX2_addDog_8 ?_
    obtain ⟨a1, h2, h⟩ := zbind h
    refine z_gN hC fs_X2_35 h2 dX2_addDog_9 ?_
    refine z_aload_n (x := x0) rfl dX2_addDog_12 ?_
    obtain ⟨v2, h3, h⟩ := zbind h
    refine z_gI hC fs_X2_30 h3 dX2_addDog_13 ?_
    refine z_aload_n (x := x1) rfl dX2_addDog_16 ?_
    obtain ⟨M1, h4, h⟩ := zbind h
    refine z_wR hC ca_5 h4 dX2_addDog_17 ?_
    refine z_aload_n (x := x0) rfl dX2_addDog_18 ?_
    refine z_dup rfl dX2_addDog_19 ?_
    obtain ⟨v3, h5, h⟩ := zbind h
    refine z_gI hC fs_X2_30 h5 dX2_addDog_20 ?_
    refine z_iconst 1 (by decide) dX2_addDog_23 ?_
    refine z_iadd dX2_addDog_24 ?_
    obtain ⟨M2, h6, h⟩ := zbind h
    refine z_pI hC fp_X2_30 h6 dX2_addDog_25 ?_
    refine zweak [true, false] ?_
    exact s_X2_addDog_b28 hC _ _ _ h
def f_X11_areBits_b15  (y0 : Int32) (M : zMe) : Option (Int32 × zMe) :=
  if y0 = 0 ∨ y0 = 1 then some (y0, M) else none
set_option maxHeartbeats 4000000 in
set_option maxRecDepth 100000 in
theorem s_X11_areBits_b15 {g : zG} (hC : zC g)  (y0 : Int32) (M : zMe) (q : (Int32 × zMe)) (h : f_X11_areBits_b15  y0 M = some q) : zW g mX11_areBits 15 [.retAddr 0, .retAddr 0] [.int y0] M (some (.int q.1)) q.2 := by
  unfold f_X11_areBits_b15 at h
  obtain ⟨hz, h⟩ := zifs h
  obtain rfl := Option.some.inj h
  exact z_iret ⟨.boolean, rfl, zbo hz⟩ dX11_areBits_15
def f_X11_areBits_b14   (M : zMe) : Option (Int32 × zMe) :=
  f_X11_areBits_b15 0 M
set_option maxHeartbeats 4000000 in
set_option maxRecDepth 100000 in
theorem s_X11_areBits_b14 {g : zG} (hC : zC g)   (M : zMe) (q : (Int32 × zMe)) (h : f_X11_areBits_b14   M = some q) : zW g mX11_areBits 14 [.retAddr 0, .retAddr 0] [] M (some (.int q.1)) q.2 := by
  unfold f_X11_areBits_b14 at h
  refine z_iconst 0 (by decide) dX11_areBits_14 ?_
  exact s_X11_areBits_b15 hC _ _ _ h
def f_X11_areBits (x0 : Int32) (x1 : Int32) (M : zMe) : Option (Int32 × zMe) :=
  if x0 < 0 then (
    f_X11_areBits_b14 M)
  else (
    if (x0 >>> (x1 &&& 31)) = 0 then (
      f_X11_areBits_b15 1 M)
    else (
      f_X11_areBits_b14 M))
set_option maxHeartbeats 4000000 in
set_option maxRecDepth 100000 in
theorem s_X11_areBits {g : zG} (hC : zC g) {x0 : Int32} {x1 : Int32} {M : zMe} {q : (Int32 × zMe)} (h : f_X11_areBits x0 x1 M = some q) : zMet g yX11_areBits mX11_areBits [.int x0, .int x1] M (some (.int q.1)) q.2 := by
  refine z_entry (by decide +kernel) rfl rfl (Nat.le_of_ble_eq_true rfl) ?_
  refine zeqL (L2 := [.int x0, .int x1]) rfl ?_
  unfold f_X11_areBits at h
  refine z_iload_n (x := x0) rfl dX11_areBits_0 ?_
  refine z_if_lt (tgt := 14) dX11_areBits_1 (by decide) (fun c1 => ?_) (fun c1 => ?_)
  · have h := zift h c1
    refine zweak [false, false] ?_
    exact s_X11_areBits_b14 hC _ _ h
  · have h := zife h c1
    refine z_iload_n (x := x0) rfl dX11_areBits_4 ?_
    refine z_iload_n (x := x1) rfl dX11_areBits_5 ?_
    refine z_ishr dX11_areBits_6 ?_
    refine z_if_ne (tgt := 14) dX11_areBits_7 (by decide) (fun c2 => ?_) (fun c2 => ?_)
    · have h := zife h c2
      refine zweak [false, false] ?_
      exact s_X11_areBits_b14 hC _ _ h
    · have h := zift h c2
      refine z_iconst 1 (by decide) dX11_areBits_10 ?_
      refine z_goto (tgt := 15) dX11_areBits_11 (by decide) ?_
      refine zweak [false, false] ?_
      exact s_X11_areBits_b15 hC _ _ _ h
def f_X2_areDogs (x0 : Nat) (x1 : Int32) (M : zMe) : Option (Int32 × zMe) :=
  (zgI M x0 [2] 6).bind fun v1 =>
  (f_X11_areBits x1 v1 M).bind fun q1 =>
  if q1.1 = 0 ∨ q1.1 = 1 then some (q1.1, q1.2) else none
set_option maxHeartbeats 4000000 in
set_option maxRecDepth 100000 in
theorem s_X2_areDogs {g : zG} (hC : zC g) {x0 : Nat} {x1 : Int32} {M : zMe} {q : (Int32 × zMe)} (h : f_X2_areDogs x0 x1 M = some q) : zMet g yX2_areDogs mX2_areDogs [.ref x0, .int x1] M (some (.int q.1)) q.2 := by
  refine z_entry (by decide +kernel) rfl rfl (Nat.le_of_ble_eq_true rfl) ?_
  refine zeqL (L2 := [.ref x0, .int x1]) rfl ?_
  unfold f_X2_areDogs at h
  refine z_iload_n (x := x1) rfl dX2_areDogs_0 ?_
  refine z_aload_n (x := x0) rfl dX2_areDogs_1 ?_
  obtain ⟨v1, h1, h⟩ := zbind h
  refine z_gI hC fs_X2_30 h1 dX2_areDogs_2 ?_
  obtain ⟨q1, h2, h⟩ := zbind h
  refine z_callSN (av := [.int x1, .int v1]) (rest := []) hC (s_X11_areBits hC h2) ln_X2_40 st_X11_areBits cd_X11_areBits ⟨by decide, by decide, (Nat.le_of_ble_eq_true rfl)⟩ dX2_areDogs_5 ?_
  refine zeqS (stk2 := [.int q1.1]) rfl ?_
  obtain ⟨hz, h⟩ := zifs h
  obtain rfl := Option.some.inj h
  exact z_iret ⟨.boolean, rfl, zbo hz⟩ dX2_areDogs_8
def f_X6_init (x0 : Nat) (x1 : Int32) (x2 : Int32) (x3 : Int32) (x4 : Int32) (x5 : Int32) (x6 : Int32) (M : zMe) : Option zMe :=
  (f_X5_init x0 x1 x2 x3 M).bind fun q1 =>
  (zpI q1 x0 [6, 3] 3 x4).bind fun M1 =>
  (zpI M1 x0 [6, 3] 4 x5).bind fun M2 =>
  (zpI M2 x0 [6, 3] 5 x6).bind fun M3 =>
  some M3
set_option maxHeartbeats 4000000 in
set_option maxRecDepth 100000 in
theorem s_X6_init {g : zG} (hC : zC g) {x0 : Nat} {x1 : Int32} {x2 : Int32} {x3 : Int32} {x4 : Int32} {x5 : Int32} {x6 : Int32} {M : zMe} {q : zMe} (h : f_X6_init x0 x1 x2 x3 x4 x5 x6 M = some q) : zMet g yX6_init mX6_init [.ref x0, .int x1, .int x2, .int x3, .int x4, .int x5, .int x6] M none q := by
  refine z_entry (by decide +kernel) rfl rfl (Nat.le_of_ble_eq_true rfl) ?_
  refine zeqL (L2 := [.ref x0, .int x1, .int x2, .int x3, .int x4, .int x5, .int x6]) rfl ?_
  unfold f_X6_init at h
  refine z_aload_n (x := x0) rfl dX6_init_0 ?_
  refine z_iload_n (x := x1) rfl dX6_init_1 ?_
  refine z_iload_n (x := x2) rfl dX6_init_2 ?_
  refine z_iload_n (x := x3) rfl dX6_init_3 ?_
  obtain ⟨q1, h1, h⟩ := zbind h
  refine z_callI (av := [.int x1, .int x2, .int x3]) (rest := []) hC (s_X5_init hC h1) lk_X6_1 im_X5_init rfl rfl cd_X5_init ⟨by decide, by decide, (Nat.le_of_ble_eq_true rfl)⟩ dX6_init_4 ?_
  refine zeqS (stk2 := []) rfl ?_
  refine z_aload_n (x := x0) rfl dX6_init_7 ?_
  refine z_iload (x := x4) rfl dX6_init_8 ?_
  obtain ⟨M1, h2, h⟩ := zbind h
  refine z_pI hC fp_X6_7 h2 dX6_init_10 ?_
  refine z_aload_n (x := x0) rfl dX6_init_13 ?_
  refine z_iload (x := x5) rfl dX6_init_14 ?_
  obtain ⟨M2, h3, h⟩ := zbind h
  refine z_pI hC fp_X6_13 h3 dX6_init_16 ?_
  refine z_aload_n (x := x0) rfl dX6_init_19 ?_
  refine z_iload (x := x6) rfl dX6_init_20 ?_
  obtain ⟨M3, h4, h⟩ := zbind h
  refine z_pI hC fp_X6_16 h4 dX6_init_22 ?_
  obtain rfl := Option.some.inj h
  exact z_ret rfl dX6_init_25
def f_X3_init (x0 : Nat) (x1 : Int32) (x2 : Int32) (x3 : Int32) (x4 : Int32) (x5 : Int32) (x6 : Int32) (M : zMe) : Option zMe :=
  (f_X6_init x0 x1 x2 x3 x4 x5 x6 M).bind fun q1 =>
  some q1
set_option maxHeartbeats 4000000 in
set_option maxRecDepth 100000 in
theorem s_X3_init {g : zG} (hC : zC g) {x0 : Nat} {x1 : Int32} {x2 : Int32} {x3 : Int32} {x4 : Int32} {x5 : Int32} {x6 : Int32} {M : zMe} {q : zMe} (h : f_X3_init x0 x1 x2 x3 x4 x5 x6 M = some q) : zMet g yX3_init mX3_init [.ref x0, .int x1, .int x2, .int x3, .int x4, .int x5, .int x6] M none q := by
  refine z_entry (by decide +kernel) rfl rfl (Nat.le_of_ble_eq_true rfl) ?_
  refine zeqL (L2 := [.ref x0, .int x1, .int x2, .int x3, .int x4, .int x5, .int x6]) rfl ?_
  unfold f_X3_init at h
  refine z_aload_n (x := x0) rfl dX3_init_0 ?_
  refine z_iload_n (x := x1) rfl dX3_init_1 ?_
  refine z_iload_n (x := x2) rfl dX3_init_2 ?_
  refine z_iload_n (x := x3) rfl dX3_init_3 ?_
  refine z_iload (x := x4) rfl dX3_init_4 ?_
  refine z_iload (x := x5) rfl dX3_init_6 ?_
  refine z_iload (x := x6) rfl dX3_init_8 ?_
  obtain ⟨q1, h1, h⟩ := zbind h
  refine z_callI (av := [.int x1, .int x2, .int x3, .int x4, .int x5, .int x6]) (rest := []) hC (s_X6_init hC h1) lk_X3_1 im_X6_init rfl rfl cd_X6_init ⟨by decide, by decide, (Nat.le_of_ble_eq_true rfl)⟩ dX3_init_10 ?_
  refine zeqS (stk2 := []) rfl ?_
  obtain rfl := Option.some.inj h
  exact z_ret rfl dX3_init_13
def f_J7_fill_53178_b5  : Nat → Nat → Int32 → Int32 → Int32 → zMe → Option zMe
  | 0, _, _, _, _, _ => none
  | n + 1, x0, x1, x2, x3, M =>
    if x3 ≤ x2 then (
      some M)
    else (
      (zwI M x0 x2 x1).bind fun M1 =>
      zlet (x2 + 1) fun v1 =>
      f_J7_fill_53178_b5 n x0 x1 v1 x3 M1)
set_option maxHeartbeats 4000000 in
set_option maxRecDepth 100000 in
theorem s_J7_fill_53178_b5 {g : zG} (hC : zC g)  : ∀ (n : Nat) (x0 : Nat) (x1 : Int32) (x2 : Int32) (x3 : Int32) (M : zMe) (q : zMe), f_J7_fill_53178_b5  n x0 x1 x2 x3 M = some q → zW g mJ7_fill_53178 5 [.ref x0, .int x1, .int x2, .int x3] [] M none q := by
  intro n
  induction n with
  | zero => intro x0 x1 x2 x3 M q h; cases h
  | succ n ih =>
    intro x0 x1 x2 x3 M q h
    rw [f_J7_fill_53178_b5] at h
    refine z_iload_n (x := x2) rfl dJ7_fill_53178_5 ?_
    refine z_iload_n (x := x3) rfl dJ7_fill_53178_6 ?_
    refine z_icmp_ge (tgt := 20) dJ7_fill_53178_7 (by decide) (fun c1 => ?_) (fun c1 => ?_)
    · have h := zift h c1
      obtain rfl := Option.some.inj h
      exact z_ret rfl dJ7_fill_53178_20
    · have h := zife h c1
      refine z_aload_n (x := x0) rfl dJ7_fill_53178_10 ?_
      refine z_iload_n (x := x2) rfl dJ7_fill_53178_11 ?_
      refine z_iload_n (x := x1) rfl dJ7_fill_53178_12 ?_
      obtain ⟨M1, h1, h⟩ := zbind h
      refine z_wI h1 dJ7_fill_53178_13 ?_
      obtain ⟨v1, hv⟩ : ∃ z : Int32, z = x2 + 1 := ⟨_, rfl⟩
      have h := zlet_use h hv
      refine z_iinc (v := v1) dJ7_fill_53178_14 (x := x2) rfl (by rw [hv]; rfl) ?_
      clear hv
      refine zeqL (L2 := [.ref x0, .int x1, .int v1, .int x3]) rfl ?_
      refine z_goto (tgt := 5) dJ7_fill_53178_17 (by decide) ?_
      exact ih _ _ _ _ _ _ h
def f_J7_fill_53178 (x0 : Nat) (x1 : Int32) (M : zMe) : Option zMe :=
  (zln M x0).bind fun v1 =>
  f_J7_fill_53178_b5 zfu x0 x1 0 v1 M
set_option maxHeartbeats 4000000 in
set_option maxRecDepth 100000 in
theorem s_J7_fill_53178 {g : zG} (hC : zC g) {x0 : Nat} {x1 : Int32} {M : zMe} {q : zMe} (h : f_J7_fill_53178 x0 x1 M = some q) : zMet g yJ7_fill_53178 mJ7_fill_53178 [.ref x0, .int x1] M none q := by
  refine z_entry (by decide +kernel) rfl rfl (Nat.le_of_ble_eq_true rfl) ?_
  refine zeqL (L2 := [.ref x0, .int x1, .retAddr 0, .retAddr 0]) rfl ?_
  unfold f_J7_fill_53178 at h
  refine z_iconst 0 (by decide) dJ7_fill_53178_0 ?_
  refine z_istore_n dJ7_fill_53178_1 (by decide) ?_
  refine zeqL (L2 := [.ref x0, .int x1, .int 0, .retAddr 0]) rfl ?_
  refine z_aload_n (x := x0) rfl dJ7_fill_53178_2 ?_
  obtain ⟨v1, h1, h⟩ := zbind h
  refine z_ln h1 dJ7_fill_53178_3 ?_
  refine z_istore_n dJ7_fill_53178_4 (by decide) ?_
  refine zeqL (L2 := [.ref x0, .int x1, .int 0, .int v1]) rfl ?_
  exact s_J7_fill_53178_b5 hC _ _ _ _ _ _ _ h
def f_X4_growMeetings_b107 (k4 : Nat → Int32 → Int32 → zMe → Option (Int32 × zMe)) (x0 : Nat) (x2 : Int32) (y0 : Int32) (y1 : Int32) (M : zMe) : Option (Int32 × zMe) :=
  zlet (y1 ||| y0 : Int32) fun v1 =>
  zlet (x2 + (-1)) fun v2 =>
  k4 x0 v1 v2 M
set_option maxHeartbeats 4000000 in
set_option maxRecDepth 100000 in
theorem s_X4_growMeetings_b107 {g : zG} (hC : zC g) {k4 : Nat → Int32 → Int32 → zMe → Option (Int32 × zMe)} (hk4 : ∀ (x0 : Nat) (x1 : Int32) (x2 : Int32) (M : zMe) (q : (Int32 × zMe)), k4 x0 x1 x2 M = some q → zW g mX4_growMeetings 4 [.ref x0, .int x1, .int x2, .retAddr 0, .retAddr 0, .retAddr 0] [] M (some (.int q.1)) q.2) (x0 : Nat) (x2 : Int32) (y0 : Int32) (y1 : Int32) (M : zMe) (q : (Int32 × zMe)) (h : f_X4_growMeetings_b107 k4 x0 x2 y0 y1 M = some q) : zW g mX4_growMeetings 107 [.ref x0, .retAddr 0, .int x2, .retAddr 0, .retAddr 0, .retAddr 0] [.int y0, .int y1] M (some (.int q.1)) q.2 := by
  unfold f_X4_growMeetings_b107 at h
  refine z_ior dX4_growMeetings_107 ?_
  refine z_nameI (fun v1 hv => ?_)
  have h := zlet_use h hv
  clear hv
  refine z_istore_n dX4_growMeetings_108 (by decide) ?_
  refine zeqL (L2 := [.ref x0, .int v1, .int x2, .retAddr 0, .retAddr 0, .retAddr 0]) rfl ?_
  obtain ⟨v2, hv⟩ : ∃ z : Int32, z = x2 + (-1) := ⟨_, rfl⟩
  have h := zlet_use h hv
  refine z_iinc (v := v2) dX4_growMeetings_109 (x := x2) rfl (by rw [hv]; rfl) ?_
  clear hv
  refine zeqL (L2 := [.ref x0, .int v1, .int v2, .retAddr 0, .retAddr 0, .retAddr 0]) rfl ?_
  refine z_goto (tgt := 4) dX4_growMeetings_112 (by decide) ?_
  exact hk4 _ _ _ _ _ h
def f_X4_growMeetings_b85 (k4 : Nat → Int32 → Int32 → zMe → Option (Int32 × zMe)) (k31 : Nat → Int32 → Int32 → Int32 → Int32 → Int32 → zMe → Option (Int32 × zMe)) (x0 : Nat) (x1 : Int32) (x2 : Int32) (x3 : Int32) (x4 : Int32) (x5 : Int32) (M : zMe) : Option (Int32 × zMe) :=
  zlet (x5 + 1) fun v1 =>
  k31 x0 x1 x2 x3 x4 v1 M
set_option maxHeartbeats 4000000 in
set_option maxRecDepth 100000 in
theorem s_X4_growMeetings_b85 {g : zG} (hC : zC g) {k4 : Nat → Int32 → Int32 → zMe → Option (Int32 × zMe)} {k31 : Nat → Int32 → Int32 → Int32 → Int32 → Int32 → zMe → Option (Int32 × zMe)} (hk4 : ∀ (x0 : Nat) (x1 : Int32) (x2 : Int32) (M : zMe) (q : (Int32 × zMe)), k4 x0 x1 x2 M = some q → zW g mX4_growMeetings 4 [.ref x0, .int x1, .int x2, .retAddr 0, .retAddr 0, .retAddr 0] [] M (some (.int q.1)) q.2) (hk31 : ∀ (x0 : Nat) (x1 : Int32) (x2 : Int32) (x3 : Int32) (x4 : Int32) (x5 : Int32) (M : zMe) (q : (Int32 × zMe)), k31 x0 x1 x2 x3 x4 x5 M = some q → zW g mX4_growMeetings 31 [.ref x0, .int x1, .int x2, .int x3, .int x4, .int x5] [] M (some (.int q.1)) q.2) (x0 : Nat) (x1 : Int32) (x2 : Int32) (x3 : Int32) (x4 : Int32) (x5 : Int32) (M : zMe) (q : (Int32 × zMe)) (h : f_X4_growMeetings_b85 k4 k31 x0 x1 x2 x3 x4 x5 M = some q) : zW g mX4_growMeetings 85 [.ref x0, .int x1, .int x2, .int x3, .int x4, .int x5] [] M (some (.int q.1)) q.2 := by
  unfold f_X4_growMeetings_b85 at h
  obtain ⟨v1, hv⟩ : ∃ z : Int32, z = x5 + 1 := ⟨_, rfl⟩
  have h := zlet_use h hv
  refine z_iinc (v := v1) dX4_growMeetings_85 (x := x5) rfl (by rw [hv]; rfl) ?_
  clear hv
  refine zeqL (L2 := [.ref x0, .int x1, .int x2, .int x3, .int x4, .int v1]) rfl ?_
  refine z_goto (tgt := 31) dX4_growMeetings_88 (by decide) ?_
  exact hk31 _ _ _ _ _ _ _ _ h
def f_X4_growMeetings_b72 (k4 : Nat → Int32 → Int32 → zMe → Option (Int32 × zMe)) (k31 : Nat → Int32 → Int32 → Int32 → Int32 → Int32 → zMe → Option (Int32 × zMe)) (x0 : Nat) (x1 : Int32) (x2 : Int32) (x3 : Int32) (x4 : Int32) (x5 : Int32) (M : zMe) : Option (Int32 × zMe) :=
  (zgN M x0 [4] 2).bind fun a1 =>
  (zrI M a1 x2).bind fun v1 =>
  (zwI M a1 x2 (v1 ||| ((1 : Int32) <<< (x5 &&& 31)))).bind fun M1 =>
  f_X4_growMeetings_b85 k4 k31 x0 x1 x2 x3 x4 x5 M1
set_option maxHeartbeats 4000000 in
set_option maxRecDepth 100000 in
theorem s_X4_growMeetings_b72 {g : zG} (hC : zC g) {k4 : Nat → Int32 → Int32 → zMe → Option (Int32 × zMe)} {k31 : Nat → Int32 → Int32 → Int32 → Int32 → Int32 → zMe → Option (Int32 × zMe)} (hk4 : ∀ (x0 : Nat) (x1 : Int32) (x2 : Int32) (M : zMe) (q : (Int32 × zMe)), k4 x0 x1 x2 M = some q → zW g mX4_growMeetings 4 [.ref x0, .int x1, .int x2, .retAddr 0, .retAddr 0, .retAddr 0] [] M (some (.int q.1)) q.2) (hk31 : ∀ (x0 : Nat) (x1 : Int32) (x2 : Int32) (x3 : Int32) (x4 : Int32) (x5 : Int32) (M : zMe) (q : (Int32 × zMe)), k31 x0 x1 x2 x3 x4 x5 M = some q → zW g mX4_growMeetings 31 [.ref x0, .int x1, .int x2, .int x3, .int x4, .int x5] [] M (some (.int q.1)) q.2) (x0 : Nat) (x1 : Int32) (x2 : Int32) (x3 : Int32) (x4 : Int32) (x5 : Int32) (M : zMe) (q : (Int32 × zMe)) (h : f_X4_growMeetings_b72 k4 k31 x0 x1 x2 x3 x4 x5 M = some q) : zW g mX4_growMeetings 72 [.ref x0, .int x1, .int x2, .int x3, .int x4, .int x5] [] M (some (.int q.1)) q.2 := by
  unfold f_X4_growMeetings_b72 at h
  refine z_aload_n (x := x0) rfl dX4_growMeetings_72 ?_
  obtain ⟨a1, h1, h⟩ := zbind h
  refine z_gN hC fs_X4_18 h1 dX4_growMeetings_73 ?_
  refine z_iload_n (x := x2) rfl dX4_growMeetings_76 ?_
  refine z_dup2 rfl rfl dX4_growMeetings_77 ?_
  obtain ⟨v1, h2, h⟩ := zbind h
  refine z_rI h2 dX4_growMeetings_78 ?_
  refine z_iconst 1 (by decide) dX4_growMeetings_79 ?_
  refine z_iload (x := x5) rfl dX4_growMeetings_80 ?_
  refine z_ishl dX4_growMeetings_82 ?_
  refine z_ior dX4_growMeetings_83 ?_
  obtain ⟨M1, h3, h⟩ := zbind h
  refine z_wI h3 dX4_growMeetings_84 ?_
  exact s_X4_growMeetings_b85 hC hk4 hk31 _ _ _ _ _ _ _ _ h
def f_X4_growMeetings_b31 (k4 : Nat → Int32 → Int32 → zMe → Option (Int32 × zMe)) : Nat → Nat → Int32 → Int32 → Int32 → Int32 → Int32 → zMe → Option (Int32 × zMe)
  | 0, _, _, _, _, _, _, _ => none
  | n + 1, x0, x1, x2, x3, x4, x5, M =>
    (zgI M x0 [4] 3).bind fun v1 =>
    if v1 ≤ x5 then (
      (zgN M x0 [4] 2).bind fun a1 =>
      (zrI M a1 x2).bind fun v2 =>
      if v2 = x3 then (
        f_X4_growMeetings_b107 k4 x0 x2 0 x1 M)
      else (
        f_X4_growMeetings_b107 k4 x0 x2 1 x1 M))
    else (
      (zob M x0 4).bind fun _ =>
      (f_X4_behind x0 x2 0 x5 M).bind fun q1 =>
      (f_X11_holds x4 q1.1 q1.2).bind fun q2 =>
      if q2.1 = 0 then (
        (zob q2.2 x0 4).bind fun _ =>
        (f_X4_behind x0 x2 1 x5 q2.2).bind fun q3 =>
        (f_X11_holds x4 q3.1 q3.2).bind fun q4 =>
        if q4.1 = 0 then (
          f_X4_growMeetings_b85 k4 (f_X4_growMeetings_b31 k4 n) x0 x1 x2 x3 x4 x5 q4.2)
        else (
          f_X4_growMeetings_b72 k4 (f_X4_growMeetings_b31 k4 n) x0 x1 x2 x3 x4 x5 q4.2))
      else (
        f_X4_growMeetings_b72 k4 (f_X4_growMeetings_b31 k4 n) x0 x1 x2 x3 x4 x5 q2.2))
set_option maxHeartbeats 4000000 in
set_option maxRecDepth 100000 in
theorem s_X4_growMeetings_b31 {g : zG} (hC : zC g) {k4 : Nat → Int32 → Int32 → zMe → Option (Int32 × zMe)} (hk4 : ∀ (x0 : Nat) (x1 : Int32) (x2 : Int32) (M : zMe) (q : (Int32 × zMe)), k4 x0 x1 x2 M = some q → zW g mX4_growMeetings 4 [.ref x0, .int x1, .int x2, .retAddr 0, .retAddr 0, .retAddr 0] [] M (some (.int q.1)) q.2) : ∀ (n : Nat) (x0 : Nat) (x1 : Int32) (x2 : Int32) (x3 : Int32) (x4 : Int32) (x5 : Int32) (M : zMe) (q : (Int32 × zMe)), f_X4_growMeetings_b31 k4 n x0 x1 x2 x3 x4 x5 M = some q → zW g mX4_growMeetings 31 [.ref x0, .int x1, .int x2, .int x3, .int x4, .int x5] [] M (some (.int q.1)) q.2 := by
  intro n
  induction n with
  | zero => intro x0 x1 x2 x3 x4 x5 M q h; cases h
  | succ n ih =>
    intro x0 x1 x2 x3 x4 x5 M q h
    rw [f_X4_growMeetings_b31] at h
    refine z_iload (x := x5) rfl dX4_growMeetings_31 ?_
    refine z_aload_n (x := x0) rfl dX4_growMeetings_33 ?_
    obtain ⟨v1, h1, h⟩ := zbind h
    refine z_gI hC fs_X4_21 h1 dX4_growMeetings_34 ?_
    refine z_icmp_ge (tgt := 91) dX4_growMeetings_37 (by decide) (fun c1 => ?_) (fun c1 => ?_)
    · have h := zift h c1
      refine z_iload_n (x := x1) rfl dX4_growMeetings_91 ?_
      refine z_aload_n (x := x0) rfl dX4_growMeetings_92 ?_
      obtain ⟨a1, h2, h⟩ := zbind h
      refine z_gN hC fs_X4_18 h2 dX4_growMeetings_93 ?_
      refine z_iload_n (x := x2) rfl dX4_growMeetings_96 ?_
      obtain ⟨v2, h3, h⟩ := zbind h
      refine z_rI h3 dX4_growMeetings_97 ?_
      refine z_iload_n (x := x3) rfl dX4_growMeetings_98 ?_
      refine z_icmp_eq (tgt := 106) dX4_growMeetings_99 (by decide) (fun c2 => ?_) (fun c2 => ?_)
      · have h := zift h c2
        refine z_iconst 0 (by decide) dX4_growMeetings_106 ?_
        refine zweak [true, false, true, false, false, false] ?_
        exact s_X4_growMeetings_b107 hC hk4 _ _ _ _ _ _ h
      · have h := zife h c2
        refine z_iconst 1 (by decide) dX4_growMeetings_102 ?_
        refine z_goto (tgt := 107) dX4_growMeetings_103 (by decide) ?_
        refine zweak [true, false, true, false, false, false] ?_
        exact s_X4_growMeetings_b107 hC hk4 _ _ _ _ _ _ h
    · have h := zife h c1
      refine z_iload (x := x4) rfl dX4_growMeetings_40 ?_
      refine z_aload_n (x := x0) rfl dX4_growMeetings_42 ?_
      refine z_iload_n (x := x2) rfl dX4_growMeetings_43 ?_
      refine z_iconst 0 (by decide) dX4_growMeetings_44 ?_
      refine z_iload (x := x5) rfl dX4_growMeetings_45 ?_
      obtain ⟨_, hb, h⟩ := zbind h
      obtain ⟨fs, hb⟩ := zob_some hb
      obtain ⟨q1, h4, h⟩ := zbind h
      refine z_callV (av := [.int x2, .int 0, .int x5]) (rest := [.int x4]) hC zcl_4 hb (s_X4_behind hC h4) lk_X4_64 im_X4_behind se_X4_behind cd_X4_behind ⟨by decide, by decide, (Nat.le_of_ble_eq_true rfl)⟩ dX4_growMeetings_47 ?_
      clear hb fs
      refine zeqS (stk2 := [.int q1.1, .int x4]) rfl ?_
      obtain ⟨q2, h5, h⟩ := zbind h
      refine z_callSN (av := [.int x4, .int q1.1]) (rest := []) hC (s_X11_holds hC h5) ln_X4_68 st_X11_holds cd_X11_holds ⟨by decide, by decide, (Nat.le_of_ble_eq_true rfl)⟩ dX4_growMeetings_50 ?_
      refine zeqS (stk2 := [.int q2.1]) rfl ?_
      refine z_if_ne (tgt := 72) dX4_growMeetings_53 (by decide) (fun c3 => ?_) (fun c3 => ?_)
      · have h := zife h c3
        exact s_X4_growMeetings_b72 hC hk4 ih _ _ _ _ _ _ _ _ h
      · have h := zift h c3
        refine z_iload (x := x4) rfl dX4_growMeetings_56 ?_
        refine z_aload_n (x := x0) rfl dX4_growMeetings_58 ?_
        refine z_iload_n (x := x2) rfl dX4_growMeetings_59 ?_
        refine z_iconst 1 (by decide) dX4_growMeetings_60 ?_
        refine z_iload (x := x5) rfl dX4_growMeetings_61 ?_
        obtain ⟨_, hb, h⟩ := zbind h
        obtain ⟨fs, hb⟩ := zob_some hb
        obtain ⟨q3, h6, h⟩ := zbind h
        refine z_callV (av := [.int x2, .int 1, .int x5]) (rest := [.int x4]) hC zcl_4 hb (s_X4_behind hC h6) lk_X4_64 im_X4_behind se_X4_behind cd_X4_behind ⟨by decide, by decide, (Nat.le_of_ble_eq_true rfl)⟩ dX4_growMeetings_63 ?_
        clear hb fs
        refine zeqS (stk2 := [.int q3.1, .int x4]) rfl ?_
        obtain ⟨q4, h7, h⟩ := zbind h
        refine z_callSN (av := [.int x4, .int q3.1]) (rest := []) hC (s_X11_holds hC h7) ln_X4_68 st_X11_holds cd_X11_holds ⟨by decide, by decide, (Nat.le_of_ble_eq_true rfl)⟩ dX4_growMeetings_66 ?_
        refine zeqS (stk2 := [.int q4.1]) rfl ?_
        refine z_if_eq (tgt := 85) dX4_growMeetings_69 (by decide) (fun c4 => ?_) (fun c4 => ?_)
        · have h := zift h c4
          exact s_X4_growMeetings_b85 hC hk4 ih _ _ _ _ _ _ _ _ h
        · have h := zife h c4
          exact s_X4_growMeetings_b72 hC hk4 ih _ _ _ _ _ _ _ _ h
def f_X4_growMeetings_b4  : Nat → Nat → Int32 → Int32 → zMe → Option (Int32 × zMe)
  | 0, _, _, _, _ => none
  | n + 1, x0, x1, x2, M =>
    if x2 < 0 then (
      if x1 = 0 ∨ x1 = 1 then some (x1, M) else none)
    else (
      (zgN M x0 [4] 2).bind fun a1 =>
      (zrI M a1 x2).bind fun v1 =>
      (zgN M x0 [4] 2).bind fun a2 =>
      (f_X11_phaseOf (x2 + 1) M).bind fun q1 =>
      (zrI q1.2 a2 q1.1).bind fun v2 =>
      f_X4_growMeetings_b31 (f_X4_growMeetings_b4 n) zfu x0 x1 x2 v1 v2 1 q1.2)
set_option maxHeartbeats 4000000 in
set_option maxRecDepth 100000 in
theorem s_X4_growMeetings_b4 {g : zG} (hC : zC g)  : ∀ (n : Nat) (x0 : Nat) (x1 : Int32) (x2 : Int32) (M : zMe) (q : (Int32 × zMe)), f_X4_growMeetings_b4  n x0 x1 x2 M = some q → zW g mX4_growMeetings 4 [.ref x0, .int x1, .int x2, .retAddr 0, .retAddr 0, .retAddr 0] [] M (some (.int q.1)) q.2 := by
  intro n
  induction n with
  | zero => intro x0 x1 x2 M q h; cases h
  | succ n ih =>
    intro x0 x1 x2 M q h
    rw [f_X4_growMeetings_b4] at h
    refine z_iload_n (x := x2) rfl dX4_growMeetings_4 ?_
    refine z_if_lt (tgt := 115) dX4_growMeetings_5 (by decide) (fun c1 => ?_) (fun c1 => ?_)
    · have h := zift h c1
      refine z_iload_n (x := x1) rfl dX4_growMeetings_115 ?_
      obtain ⟨hz, h⟩ := zifs h
      obtain rfl := Option.some.inj h
      exact z_iret ⟨.boolean, rfl, zbo hz⟩ dX4_growMeetings_116
    · have h := zife h c1
      refine z_aload_n (x := x0) rfl dX4_growMeetings_8 ?_
      obtain ⟨a1, h1, h⟩ := zbind h
      refine z_gN hC fs_X4_18 h1 dX4_growMeetings_9 ?_
      refine z_iload_n (x := x2) rfl dX4_growMeetings_12 ?_
      obtain ⟨v1, h2, h⟩ := zbind h
      refine z_rI h2 dX4_growMeetings_13 ?_
      refine z_istore_n dX4_growMeetings_14 (by decide) ?_
      refine zeqL (L2 := [.ref x0, .int x1, .int x2, .int v1, .retAddr 0, .retAddr 0]) rfl ?_
      refine z_aload_n (x := x0) rfl dX4_growMeetings_15 ?_
      obtain ⟨a2, h3, h⟩ := zbind h
      refine z_gN hC fs_X4_18 h3 dX4_growMeetings_16 ?_
      refine z_iload_n (x := x2) rfl dX4_growMeetings_19 ?_
      refine z_iconst 1 (by decide) dX4_growMeetings_20 ?_
      refine z_iadd dX4_growMeetings_21 ?_
      obtain ⟨q1, h4, h⟩ := zbind h
      refine z_callSN (av := [.int (x2 + 1)]) (rest := [.ref a2]) hC (s_X11_phaseOf hC h4) ln_X4_44 st_X11_phaseOf cd_X11_phaseOf ⟨by decide, by decide, (Nat.le_of_ble_eq_true rfl)⟩ dX4_growMeetings_22 ?_
      refine zeqS (stk2 := [.int q1.1, .ref a2]) rfl ?_
      obtain ⟨v2, h5, h⟩ := zbind h
      refine z_rI h5 dX4_growMeetings_25 ?_
      refine z_istore dX4_growMeetings_26 (by decide) ?_
      refine zeqL (L2 := [.ref x0, .int x1, .int x2, .int v1, .int v2, .retAddr 0]) rfl ?_
      refine z_iconst 1 (by decide) dX4_growMeetings_28 ?_
      refine z_istore dX4_growMeetings_29 (by decide) ?_
      refine zeqL (L2 := [.ref x0, .int x1, .int x2, .int v1, .int v2, .int 1]) rfl ?_
      exact s_X4_growMeetings_b31 hC ih _ _ _ _ _ _ _ _ _ h
def f_X4_growMeetings (x0 : Nat) (M : zMe) : Option (Int32 × zMe) :=
  f_X4_growMeetings_b4 zfu x0 0 4 M
set_option maxHeartbeats 4000000 in
set_option maxRecDepth 100000 in
theorem s_X4_growMeetings {g : zG} (hC : zC g) {x0 : Nat} {M : zMe} {q : (Int32 × zMe)} (h : f_X4_growMeetings x0 M = some q) : zMet g yX4_growMeetings mX4_growMeetings [.ref x0] M (some (.int q.1)) q.2 := by
  refine z_entry (by decide +kernel) rfl rfl (Nat.le_of_ble_eq_true rfl) ?_
  refine zeqL (L2 := [.ref x0, .retAddr 0, .retAddr 0, .retAddr 0, .retAddr 0, .retAddr 0]) rfl ?_
  unfold f_X4_growMeetings at h
  refine z_iconst 0 (by decide) dX4_growMeetings_0 ?_
  refine z_istore_n dX4_growMeetings_1 (by decide) ?_
  refine zeqL (L2 := [.ref x0, .int 0, .retAddr 0, .retAddr 0, .retAddr 0, .retAddr 0]) rfl ?_
  refine z_iconst 4 (by decide) dX4_growMeetings_2 ?_
  refine z_istore_n dX4_growMeetings_3 (by decide) ?_
  refine zeqL (L2 := [.ref x0, .int 0, .int 4, .retAddr 0, .retAddr 0, .retAddr 0]) rfl ?_
  exact s_X4_growMeetings_b4 hC _ _ _ _ _ _ h
