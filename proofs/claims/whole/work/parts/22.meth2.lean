def f_X11_quiet_b72  (y0 : Int32) (M : zMe) : Option (Int32 × zMe) :=
  some (y0, M)
set_option maxHeartbeats 4000000 in
set_option maxRecDepth 100000 in
theorem s_X11_quiet_b72 {g : zG} (hC : zC g)  (y0 : Int32) (M : zMe) (q : (Int32 × zMe)) (h : f_X11_quiet_b72  y0 M = some q) : zW g mX11_quiet 72 [.retAddr 0, .retAddr 0] [.int y0] M (some (.int q.1)) q.2 := by
  unfold f_X11_quiet_b72 at h
  obtain rfl := Option.some.inj h
  exact z_iret ⟨.int, rfl, rfl⟩ dX11_quiet_72
def f_X11_quiet (x0 : Nat) (x1 : Int32) (M : zMe) : Option (Int32 × zMe) :=
  (zgN M x0 [11] 0).bind fun a1 =>
  (zob M a1 2).bind fun _ =>
  (f_X2_areDogs a1 x1 M).bind fun q1 =>
  if q1.1 = 0 then (
    (zob q1.2 x0 11).bind fun _ =>
    (f_X11_refusedBad x0 (-2) q1.2).bind fun q2 =>
    some (q2.1, q2.2))
  else (
    (zgN q1.2 x0 [11] 9).bind fun a2 =>
    (zgN q1.2 x0 [11] 0).bind fun a3 =>
    (zgN q1.2 x0 [11] 0).bind fun a4 =>
    (zgI q1.2 a4 [2] 1).bind fun v1 =>
    (zob q1.2 a2 0).bind fun _ =>
    (f_X0_follow a2 a3 x1 v1 q1.2).bind fun q3 =>
    (zgN q3 x0 [11] 9).bind fun a5 =>
    (zgN q3 x0 [11] 0).bind fun a6 =>
    (zgI q3 a6 [2] 4).bind fun v2 =>
    (zgN q3 x0 [11] 0).bind fun a7 =>
    (zgI q3 a7 [2] 5).bind fun v3 =>
    (zob q3 a5 0).bind fun _ =>
    (f_X0_seek a5 v2 v3 q3).bind fun q4 =>
    if q4.1 = 0 then (
      f_X11_quiet_b72 (-1) q4.2)
    else (
      (zgN q4.2 x0 [11] 9).bind fun a8 =>
      (zob q4.2 a8 0).bind fun _ =>
      (f_X0_leastBreathFound a8 q4.2).bind fun q5 =>
      f_X11_quiet_b72 q5.1 q5.2))
set_option maxHeartbeats 4000000 in
set_option maxRecDepth 100000 in
theorem s_X11_quiet {g : zG} (hC : zC g) {x0 : Nat} {x1 : Int32} {M : zMe} {q : (Int32 × zMe)} (h : f_X11_quiet x0 x1 M = some q) : zMet g yX11_quiet mX11_quiet [.ref x0, .int x1] M (some (.int q.1)) q.2 := by
  refine z_entry (by decide +kernel) rfl rfl (Nat.le_of_ble_eq_true rfl) ?_
  refine zeqL (L2 := [.ref x0, .int x1]) rfl ?_
  unfold f_X11_quiet at h
  refine z_aload_n (x := x0) rfl dX11_quiet_0 ?_
  obtain ⟨a1, h1, h⟩ := zbind h
  refine z_gN hC fs_X11_12 h1 dX11_quiet_1 ?_
  refine z_iload_n (x := x1) rfl dX11_quiet_4 ?_
  obtain ⟨_, hb, h⟩ := zbind h
  obtain ⟨fs, hb⟩ := zob_some hb
  obtain ⟨q1, h2, h⟩ := zbind h
  refine z_callV (av := [.int x1]) (rest := []) hC zcl_2 hb (s_X2_areDogs hC h2) lk_X11_174 im_X2_areDogs se_X2_areDogs cd_X2_areDogs ⟨by decide, by decide, (Nat.le_of_ble_eq_true rfl)⟩ dX11_quiet_5 ?_
  clear hb fs
  refine zeqS (stk2 := [.int q1.1]) rfl ?_
  refine z_if_ne (tgt := 18) dX11_quiet_8 (by decide) (fun c1 => ?_) (fun c1 => ?_)
  · have h := zife h c1
    refine z_aload_n (x := x0) rfl dX11_quiet_18 ?_
    obtain ⟨a2, h4, h⟩ := zbind h
    refine z_gN hC fs_X11_47 h4 dX11_quiet_19 ?_
    refine z_aload_n (x := x0) rfl dX11_quiet_22 ?_
    obtain ⟨a3, h5, h⟩ := zbind h
    refine z_gN hC fs_X11_12 h5 dX11_quiet_23 ?_
    refine z_iload_n (x := x1) rfl dX11_quiet_26 ?_
    refine z_aload_n (x := x0) rfl dX11_quiet_27 ?_
    obtain ⟨a4, h6, h⟩ := zbind h
    refine z_gN hC fs_X11_12 h6 dX11_quiet_28 ?_
    obtain ⟨v1, h7, h⟩ := zbind h
    refine z_gI hC fs_X11_116 h7 dX11_quiet_31 ?_
    obtain ⟨_, hb, h⟩ := zbind h
    obtain ⟨fs, hb⟩ := zob_some hb
    obtain ⟨q3, h8, h⟩ := zbind h
    refine z_callV (av := [.ref a3, .int x1, .int v1]) (rest := []) hC zcl_0 hb (s_X0_follow hC h8) lk_X11_177 im_X0_follow se_X0_follow cd_X0_follow ⟨by decide, by decide, (Nat.le_of_ble_eq_true rfl)⟩ dX11_quiet_34 ?_
    clear hb fs
    refine zeqS (stk2 := []) rfl ?_
    refine z_aload_n (x := x0) rfl dX11_quiet_37 ?_
    obtain ⟨a5, h9, h⟩ := zbind h
    refine z_gN hC fs_X11_47 h9 dX11_quiet_38 ?_
    refine z_aload_n (x := x0) rfl dX11_quiet_41 ?_
    obtain ⟨a6, h10, h⟩ := zbind h
    refine z_gN hC fs_X11_12 h10 dX11_quiet_42 ?_
    obtain ⟨v2, h11, h⟩ := zbind h
    refine z_gI hC fs_X11_135 h11 dX11_quiet_45 ?_
    refine z_aload_n (x := x0) rfl dX11_quiet_48 ?_
    obtain ⟨a7, h12, h⟩ := zbind h
    refine z_gN hC fs_X11_12 h12 dX11_quiet_49 ?_
    obtain ⟨v3, h13, h⟩ := zbind h
    refine z_gI hC fs_X11_138 h13 dX11_quiet_52 ?_
    obtain ⟨_, hb, h⟩ := zbind h
    obtain ⟨fs, hb⟩ := zob_some hb
    obtain ⟨q4, h14, h⟩ := zbind h
    refine z_callV (av := [.int v2, .int v3]) (rest := []) hC zcl_0 hb (s_X0_seek hC h14) lk_X11_181 im_X0_seek se_X0_seek cd_X0_seek ⟨by decide, by decide, (Nat.le_of_ble_eq_true rfl)⟩ dX11_quiet_55 ?_
    clear hb fs
    refine zeqS (stk2 := [.int q4.1]) rfl ?_
    refine z_if_eq (tgt := 71) dX11_quiet_58 (by decide) (fun c2 => ?_) (fun c2 => ?_)
    · have h := zift h c2
      refine z_iconst (-1) (by decide) dX11_quiet_71 ?_
      refine zweak [false, false] ?_
      exact s_X11_quiet_b72 hC _ _ _ h
    · have h := zife h c2
      refine z_aload_n (x := x0) rfl dX11_quiet_61 ?_
      obtain ⟨a8, h15, h⟩ := zbind h
      refine z_gN hC fs_X11_47 h15 dX11_quiet_62 ?_
      obtain ⟨_, hb, h⟩ := zbind h
      obtain ⟨fs, hb⟩ := zob_some hb
      obtain ⟨q5, h16, h⟩ := zbind h
      refine z_callV (av := []) (rest := []) hC zcl_0 hb (s_X0_leastBreathFound hC h16) lk_X11_187 im_X0_leastBreathFound se_X0_leastBreathFound cd_X0_leastBreathFound ⟨by decide, by decide, (Nat.le_of_ble_eq_true rfl)⟩ dX11_quiet_65 ?_
      clear hb fs
      refine zeqS (stk2 := [.int q5.1]) rfl ?_
      refine z_goto (tgt := 72) dX11_quiet_68 (by decide) ?_
      refine zweak [false, false] ?_
      exact s_X11_quiet_b72 hC _ _ _ h
  · have h := zift h c1
    refine z_aload_n (x := x0) rfl dX11_quiet_11 ?_
    refine z_bipush (-2) (by decide) dX11_quiet_12 ?_
    obtain ⟨_, hb, h⟩ := zbind h
    obtain ⟨fs, hb⟩ := zob_some hb
    obtain ⟨q2, h3, h⟩ := zbind h
    refine z_callV (av := [.int (-2)]) (rest := []) hC zcl_11 hb (s_X11_refusedBad hC h3) lk_X11_72 im_X11_refusedBad se_X11_refusedBad cd_X11_refusedBad ⟨by decide, by decide, (Nat.le_of_ble_eq_true rfl)⟩ dX11_quiet_14 ?_
    clear hb fs
    refine zeqS (stk2 := [.int q2.1]) rfl ?_
    obtain rfl := Option.some.inj h
    exact z_iret ⟨.int, rfl, rfl⟩ dX11_quiet_17
def f_X11_apart_b67 (k51 : Nat → Int32 → zMe → Option (Int32 × zMe)) : Nat → Nat → Int32 → Int32 → zMe → Option (Int32 × zMe)
  | 0, _, _, _, _ => none
  | n + 1, x0, x3, x4, M =>
    (zgN M x0 [11] 0).bind fun a1 =>
    (zgI M a1 [2] 0).bind fun v1 =>
    if v1 ≤ x4 then (
      zlet (x3 + 1) fun v2 =>
      k51 x0 v2 M)
    else (
      (zgN M x0 [11] 10).bind fun a2 =>
      (zob M a2 4).bind fun _ =>
      (f_X4_canMeet a2 x3 x4 M).bind fun q1 =>
      if q1.1 = 0 then (
        some ((10 * x3) + x4, q1.2))
      else (
        zlet (x4 + 1) fun v3 =>
        f_X11_apart_b67 k51 n x0 x3 v3 q1.2))
set_option maxHeartbeats 4000000 in
set_option maxRecDepth 100000 in
theorem s_X11_apart_b67 {g : zG} (hC : zC g) {k51 : Nat → Int32 → zMe → Option (Int32 × zMe)} (hk51 : ∀ (x0 : Nat) (x3 : Int32) (M : zMe) (q : (Int32 × zMe)), k51 x0 x3 M = some q → zW g mX11_apart 51 [.ref x0, .retAddr 0, .retAddr 0, .int x3, .retAddr 0] [] M (some (.int q.1)) q.2) : ∀ (n : Nat) (x0 : Nat) (x3 : Int32) (x4 : Int32) (M : zMe) (q : (Int32 × zMe)), f_X11_apart_b67 k51 n x0 x3 x4 M = some q → zW g mX11_apart 67 [.ref x0, .retAddr 0, .retAddr 0, .int x3, .int x4] [] M (some (.int q.1)) q.2 := by
  intro n
  induction n with
  | zero => intro x0 x3 x4 M q h; cases h
  | succ n ih =>
    intro x0 x3 x4 M q h
    rw [f_X11_apart_b67] at h
    refine z_iload (x := x4) rfl dX11_apart_67 ?_
    refine z_aload_n (x := x0) rfl dX11_apart_69 ?_
    obtain ⟨a1, h1, h⟩ := zbind h
    refine z_gN hC fs_X11_12 h1 dX11_apart_70 ?_
    obtain ⟨v1, h2, h⟩ := zbind h
    refine z_gI hC fs_X11_76 h2 dX11_apart_73 ?_
    refine z_icmp_ge (tgt := 106) dX11_apart_76 (by decide) (fun c1 => ?_) (fun c1 => ?_)
    · have h := zift h c1
      obtain ⟨v2, hv⟩ : ∃ z : Int32, z = x3 + 1 := ⟨_, rfl⟩
      have h := zlet_use h hv
      refine z_iinc (v := v2) dX11_apart_106 (x := x3) rfl (by rw [hv]; rfl) ?_
      clear hv
      refine zeqL (L2 := [.ref x0, .retAddr 0, .retAddr 0, .int v2, .int x4]) rfl ?_
      refine z_goto (tgt := 51) dX11_apart_109 (by decide) ?_
      refine zweak [true, false, false, true, false] ?_
      exact hk51 _ _ _ _ h
    · have h := zife h c1
      refine z_aload_n (x := x0) rfl dX11_apart_79 ?_
      obtain ⟨a2, h3, h⟩ := zbind h
      refine z_gN hC fs_X11_54 h3 dX11_apart_80 ?_
      refine z_iload_n (x := x3) rfl dX11_apart_83 ?_
      refine z_iload (x := x4) rfl dX11_apart_84 ?_
      obtain ⟨_, hb, h⟩ := zbind h
      obtain ⟨fs, hb⟩ := zob_some hb
      obtain ⟨q1, h4, h⟩ := zbind h
      refine z_callV (av := [.int x3, .int x4]) (rest := []) hC zcl_4 hb (s_X4_canMeet hC h4) lk_X11_197 im_X4_canMeet se_X4_canMeet cd_X4_canMeet ⟨by decide, by decide, (Nat.le_of_ble_eq_true rfl)⟩ dX11_apart_86 ?_
      clear hb fs
      refine zeqS (stk2 := [.int q1.1]) rfl ?_
      refine z_if_ne (tgt := 100) dX11_apart_89 (by decide) (fun c2 => ?_) (fun c2 => ?_)
      · have h := zife h c2
        obtain ⟨v3, hv⟩ : ∃ z : Int32, z = x4 + 1 := ⟨_, rfl⟩
        have h := zlet_use h hv
        refine z_iinc (v := v3) dX11_apart_100 (x := x4) rfl (by rw [hv]; rfl) ?_
        clear hv
        refine zeqL (L2 := [.ref x0, .retAddr 0, .retAddr 0, .int x3, .int v3]) rfl ?_
        refine z_goto (tgt := 67) dX11_apart_103 (by decide) ?_
        exact ih _ _ _ _ _ h
      · have h := zift h c2
        refine z_bipush 10 (by decide) dX11_apart_92 ?_
        refine z_iload_n (x := x3) rfl dX11_apart_94 ?_
        refine z_imul dX11_apart_95 ?_
        refine z_iload (x := x4) rfl dX11_apart_96 ?_
        refine z_iadd dX11_apart_98 ?_
        obtain rfl := Option.some.inj h
        exact z_iret ⟨.int, rfl, rfl⟩ dX11_apart_99
def f_X11_apart_b51  : Nat → Nat → Int32 → zMe → Option (Int32 × zMe)
  | 0, _, _, _ => none
  | n + 1, x0, x3, M =>
    (zgN M x0 [11] 0).bind fun a1 =>
    (zgI M a1 [2] 0).bind fun v1 =>
    if v1 ≤ x3 then (
      some ((-1), M))
    else (
      zlet (x3 + 1 : Int32) fun v2 =>
      f_X11_apart_b67 (f_X11_apart_b51 n) zfu x0 x3 v2 M)
set_option maxHeartbeats 4000000 in
set_option maxRecDepth 100000 in
theorem s_X11_apart_b51 {g : zG} (hC : zC g)  : ∀ (n : Nat) (x0 : Nat) (x3 : Int32) (M : zMe) (q : (Int32 × zMe)), f_X11_apart_b51  n x0 x3 M = some q → zW g mX11_apart 51 [.ref x0, .retAddr 0, .retAddr 0, .int x3, .retAddr 0] [] M (some (.int q.1)) q.2 := by
  intro n
  induction n with
  | zero => intro x0 x3 M q h; cases h
  | succ n ih =>
    intro x0 x3 M q h
    rw [f_X11_apart_b51] at h
    refine z_iload_n (x := x3) rfl dX11_apart_51 ?_
    refine z_aload_n (x := x0) rfl dX11_apart_52 ?_
    obtain ⟨a1, h1, h⟩ := zbind h
    refine z_gN hC fs_X11_12 h1 dX11_apart_53 ?_
    obtain ⟨v1, h2, h⟩ := zbind h
    refine z_gI hC fs_X11_76 h2 dX11_apart_56 ?_
    refine z_icmp_ge (tgt := 112) dX11_apart_59 (by decide) (fun c1 => ?_) (fun c1 => ?_)
    · have h := zift h c1
      refine z_iconst (-1) (by decide) dX11_apart_112 ?_
      obtain rfl := Option.some.inj h
      exact z_iret ⟨.int, rfl, rfl⟩ dX11_apart_113
    · have h := zife h c1
      refine z_iload_n (x := x3) rfl dX11_apart_62 ?_
      refine z_iconst 1 (by decide) dX11_apart_63 ?_
      refine z_iadd dX11_apart_64 ?_
      refine z_nameI (fun v2 hv => ?_)
      have h := zlet_use h hv
      clear hv
      refine z_istore dX11_apart_65 (by decide) ?_
      refine zeqL (L2 := [.ref x0, .retAddr 0, .retAddr 0, .int x3, .int v2]) rfl ?_
      exact s_X11_apart_b67 hC ih _ _ _ _ _ _ h
def f_X11_apart (x0 : Nat) (x1 : Int32) (M : zMe) : Option (Int32 × zMe) :=
  (zgN M x0 [11] 0).bind fun a1 =>
  (zob M a1 2).bind fun _ =>
  (f_X2_dogAt a1 x1 M).bind fun q1 =>
  zcase q1.1 (
    (zob q1.2 x0 11).bind fun _ =>
    (f_X11_refusedBad x0 (-2) q1.2).bind fun q2 =>
    some (q2.1, q2.2)) (fun a2 =>
    (zgN q1.2 x0 [11] 10).bind fun a3 =>
    (zgN q1.2 x0 [11] 0).bind fun a4 =>
    (zgI q1.2 a4 [2] 0).bind fun v1 =>
    (zgN q1.2 x0 [11] 0).bind fun a5 =>
    (zgI q1.2 a5 [2] 1).bind fun v2 =>
    (zob q1.2 a3 4).bind fun _ =>
    (f_X4_learn a3 a2 v1 v2 q1.2).bind fun q3 =>
    (zgN q3 x0 [11] 10).bind fun a6 =>
    (zob q3 a6 4).bind fun _ =>
    (f_X4_findMeetings a6 q3).bind fun q4 =>
    f_X11_apart_b51 zfu x0 0 q4)
set_option maxHeartbeats 4000000 in
set_option maxRecDepth 100000 in
theorem s_X11_apart {g : zG} (hC : zC g) {x0 : Nat} {x1 : Int32} {M : zMe} {q : (Int32 × zMe)} (h : f_X11_apart x0 x1 M = some q) : zMet g yX11_apart mX11_apart [.ref x0, .int x1] M (some (.int q.1)) q.2 := by
  refine z_entry (by decide +kernel) rfl rfl (Nat.le_of_ble_eq_true rfl) ?_
  refine zeqL (L2 := [.ref x0, .int x1, .retAddr 0, .retAddr 0, .retAddr 0]) rfl ?_
  unfold f_X11_apart at h
  refine z_aload_n (x := x0) rfl dX11_apart_0 ?_
  obtain ⟨a1, h1, h⟩ := zbind h
  refine z_gN hC fs_X11_12 h1 dX11_apart_1 ?_
  refine z_iload_n (x := x1) rfl dX11_apart_4 ?_
  obtain ⟨_, hb, h⟩ := zbind h
  obtain ⟨fs, hb⟩ := zob_some hb
  obtain ⟨q1, h2, h⟩ := zbind h
  refine z_callV (av := [.int x1]) (rest := []) hC zcl_2 hb (s_X2_dogAt hC h2) lk_X11_158 im_X2_dogAt se_X2_dogAt cd_X2_dogAt ⟨by decide, by decide, (Nat.le_of_ble_eq_true rfl)⟩ dX11_apart_5 ?_
  clear hb fs
  refine zeqS (stk2 := [va_rf q1.1]) rfl ?_
  refine z_astore_nO dX11_apart_8 (by decide) ?_
  refine zeqL (L2 := [.ref x0, .int x1, va_rf q1.1, .retAddr 0, .retAddr 0]) rfl ?_
  refine z_aload_nO (x := q1.1) rfl dX11_apart_9 ?_
  obtain hx1 | ⟨a2, hx1⟩ := zon q1.1
  · have h := zcaseN h hx1
    rw [hx1]
    refine z_ifnonnullN dX11_apart_10 ?_
    refine z_aload_n (x := x0) rfl dX11_apart_13 ?_
    refine z_bipush (-2) (by decide) dX11_apart_14 ?_
    obtain ⟨_, hb, h⟩ := zbind h
    obtain ⟨fs, hb⟩ := zob_some hb
    obtain ⟨q2, h3, h⟩ := zbind h
    refine z_callV (av := [.int (-2)]) (rest := []) hC zcl_11 hb (s_X11_refusedBad hC h3) lk_X11_72 im_X11_refusedBad se_X11_refusedBad cd_X11_refusedBad ⟨by decide, by decide, (Nat.le_of_ble_eq_true rfl)⟩ dX11_apart_16 ?_
    clear hb fs
    refine zeqS (stk2 := [.int q2.1]) rfl ?_
    obtain rfl := Option.some.inj h
    exact z_iret ⟨.int, rfl, rfl⟩ dX11_apart_19
  · have h := zcaseS h hx1
    rw [hx1]
    refine z_ifnonnull (tgt := 20) dX11_apart_10 (by decide) ?_
    refine z_aload_n (x := x0) rfl dX11_apart_20 ?_
    obtain ⟨a3, h4, h⟩ := zbind h
    refine z_gN hC fs_X11_54 h4 dX11_apart_21 ?_
    refine z_aload_n (x := a2) rfl dX11_apart_24 ?_
    refine z_aload_n (x := x0) rfl dX11_apart_25 ?_
    obtain ⟨a4, h5, h⟩ := zbind h
    refine z_gN hC fs_X11_12 h5 dX11_apart_26 ?_
    obtain ⟨v1, h6, h⟩ := zbind h
    refine z_gI hC fs_X11_76 h6 dX11_apart_29 ?_
    refine z_aload_n (x := x0) rfl dX11_apart_32 ?_
    obtain ⟨a5, h7, h⟩ := zbind h
    refine z_gN hC fs_X11_12 h7 dX11_apart_33 ?_
    obtain ⟨v2, h8, h⟩ := zbind h
    refine z_gI hC fs_X11_116 h8 dX11_apart_36 ?_
    obtain ⟨_, hb, h⟩ := zbind h
    obtain ⟨fs, hb⟩ := zob_some hb
    obtain ⟨q3, h9, h⟩ := zbind h
    refine z_callV (av := [.ref a2, .int v1, .int v2]) (rest := []) hC zcl_4 hb (s_X4_learn hC h9) lk_X11_190 im_X4_learn se_X4_learn cd_X4_learn ⟨by decide, by decide, (Nat.le_of_ble_eq_true rfl)⟩ dX11_apart_39 ?_
    clear hb fs
    refine zeqS (stk2 := []) rfl ?_
    refine z_aload_n (x := x0) rfl dX11_apart_42 ?_
    obtain ⟨a6, h10, h⟩ := zbind h
    refine z_gN hC fs_X11_54 h10 dX11_apart_43 ?_
    obtain ⟨_, hb, h⟩ := zbind h
    obtain ⟨fs, hb⟩ := zob_some hb
    obtain ⟨q4, h11, h⟩ := zbind h
    refine z_callV (av := []) (rest := []) hC zcl_4 hb (s_X4_findMeetings hC h11) lk_X11_194 im_X4_findMeetings se_X4_findMeetings cd_X4_findMeetings ⟨by decide, by decide, (Nat.le_of_ble_eq_true rfl)⟩ dX11_apart_46 ?_
    clear hb fs
    refine zeqS (stk2 := []) rfl ?_
    refine z_iconst 0 (by decide) dX11_apart_49 ?_
    refine z_istore_n dX11_apart_50 (by decide) ?_
    refine zeqL (L2 := [.ref x0, .int x1, .ref a2, .int 0, .retAddr 0]) rfl ?_
    refine zweak [true, false, false, true, false] ?_
    exact s_X11_apart_b51 hC _ _ _ _ _ h
def f_X11_shuts_b104 (k28 : Nat → Int32 → Int32 → Int32 → zMe → Option (Int32 × zMe)) (k42 : Nat → Int32 → Int32 → Int32 → Int32 → zMe → Option (Int32 × zMe)) (x0 : Nat) (x1 : Int32) (x2 : Int32) (x3 : Int32) (x4 : Int32) (M : zMe) : Option (Int32 × zMe) :=
  zlet (x4 + 1) fun v1 =>
  k42 x0 x1 x2 x3 v1 M
set_option maxHeartbeats 4000000 in
set_option maxRecDepth 100000 in
theorem s_X11_shuts_b104 {g : zG} (hC : zC g) {k28 : Nat → Int32 → Int32 → Int32 → zMe → Option (Int32 × zMe)} {k42 : Nat → Int32 → Int32 → Int32 → Int32 → zMe → Option (Int32 × zMe)} (hk28 : ∀ (x0 : Nat) (x1 : Int32) (x2 : Int32) (x3 : Int32) (M : zMe) (q : (Int32 × zMe)), k28 x0 x1 x2 x3 M = some q → zW g mX11_shuts 28 [.ref x0, .int x1, .int x2, .int x3, .retAddr 0] [] M (some (.int q.1)) q.2) (hk42 : ∀ (x0 : Nat) (x1 : Int32) (x2 : Int32) (x3 : Int32) (x4 : Int32) (M : zMe) (q : (Int32 × zMe)), k42 x0 x1 x2 x3 x4 M = some q → zW g mX11_shuts 42 [.ref x0, .int x1, .int x2, .int x3, .int x4] [] M (some (.int q.1)) q.2) (x0 : Nat) (x1 : Int32) (x2 : Int32) (x3 : Int32) (x4 : Int32) (M : zMe) (q : (Int32 × zMe)) (h : f_X11_shuts_b104 k28 k42 x0 x1 x2 x3 x4 M = some q) : zW g mX11_shuts 104 [.ref x0, .int x1, .int x2, .int x3, .int x4] [] M (some (.int q.1)) q.2 := by
  unfold f_X11_shuts_b104 at h
  obtain ⟨v1, hv⟩ : ∃ z : Int32, z = x4 + 1 := ⟨_, rfl⟩
  have h := zlet_use h hv
  refine z_iinc (v := v1) dX11_shuts_104 (x := x4) rfl (by rw [hv]; rfl) ?_
  clear hv
  refine zeqL (L2 := [.ref x0, .int x1, .int x2, .int x3, .int v1]) rfl ?_
  refine z_goto (tgt := 42) dX11_shuts_107 (by decide) ?_
  exact hk42 _ _ _ _ _ _ _ h
def f_X11_shuts_b42 (k28 : Nat → Int32 → Int32 → Int32 → zMe → Option (Int32 × zMe)) : Nat → Nat → Int32 → Int32 → Int32 → Int32 → zMe → Option (Int32 × zMe)
  | 0, _, _, _, _, _, _ => none
  | n + 1, x0, x1, x2, x3, x4, M =>
    if x2 < x4 then (
      zlet (x3 + 1) fun v1 =>
      k28 x0 x1 x2 v1 M)
    else (
      (f_J6_bitCount_0f7a4 x4 M).bind fun q1 =>
      if q1.1 = x3 then (
        (zgN q1.2 x0 [11] 0).bind fun a1 =>
        (zgI q1.2 a1 [2] 2).bind fun v2 =>
        (f_X11_holds x4 v2 q1.2).bind fun q2 =>
        if q2.1 = 0 then (
          (zgN q2.2 x0 [11] 9).bind fun a2 =>
          (zgN q2.2 x0 [11] 0).bind fun a3 =>
          (zob q2.2 a2 0).bind fun _ =>
          (f_X0_follow a2 a3 x1 x4 q2.2).bind fun q3 =>
          (zgN q3 x0 [11] 9).bind fun a4 =>
          (zob q3 a4 0).bind fun _ =>
          (f_X0_seek a4 1 1 q3).bind fun q4 =>
          if q4.1 = 0 then (
            f_X11_shuts_b104 k28 (f_X11_shuts_b42 k28 n) x0 x1 x2 x3 x4 q4.2)
          else (
            some (x4, q4.2)))
        else (
          f_X11_shuts_b104 k28 (f_X11_shuts_b42 k28 n) x0 x1 x2 x3 x4 q2.2))
      else (
        f_X11_shuts_b104 k28 (f_X11_shuts_b42 k28 n) x0 x1 x2 x3 x4 q1.2))
set_option maxHeartbeats 4000000 in
set_option maxRecDepth 100000 in
theorem s_X11_shuts_b42 {g : zG} (hC : zC g) {k28 : Nat → Int32 → Int32 → Int32 → zMe → Option (Int32 × zMe)} (hk28 : ∀ (x0 : Nat) (x1 : Int32) (x2 : Int32) (x3 : Int32) (M : zMe) (q : (Int32 × zMe)), k28 x0 x1 x2 x3 M = some q → zW g mX11_shuts 28 [.ref x0, .int x1, .int x2, .int x3, .retAddr 0] [] M (some (.int q.1)) q.2) : ∀ (n : Nat) (x0 : Nat) (x1 : Int32) (x2 : Int32) (x3 : Int32) (x4 : Int32) (M : zMe) (q : (Int32 × zMe)), f_X11_shuts_b42 k28 n x0 x1 x2 x3 x4 M = some q → zW g mX11_shuts 42 [.ref x0, .int x1, .int x2, .int x3, .int x4] [] M (some (.int q.1)) q.2 := by
  intro n
  induction n with
  | zero => intro x0 x1 x2 x3 x4 M q h; cases h
  | succ n ih =>
    intro x0 x1 x2 x3 x4 M q h
    rw [f_X11_shuts_b42] at h
    refine z_iload (x := x4) rfl dX11_shuts_42 ?_
    refine z_iload_n (x := x2) rfl dX11_shuts_44 ?_
    refine z_icmp_gt (tgt := 110) dX11_shuts_45 (by decide) (fun c1 => ?_) (fun c1 => ?_)
    · have h := zift h c1
      obtain ⟨v1, hv⟩ : ∃ z : Int32, z = x3 + 1 := ⟨_, rfl⟩
      have h := zlet_use h hv
      refine z_iinc (v := v1) dX11_shuts_110 (x := x3) rfl (by rw [hv]; rfl) ?_
      clear hv
      refine zeqL (L2 := [.ref x0, .int x1, .int x2, .int v1, .int x4]) rfl ?_
      refine z_goto (tgt := 28) dX11_shuts_113 (by decide) ?_
      refine zweak [true, true, true, true, false] ?_
      exact hk28 _ _ _ _ _ _ h
    · have h := zife h c1
      refine z_iload (x := x4) rfl dX11_shuts_48 ?_
      obtain ⟨q1, h1, h⟩ := zbind h
      refine z_callS (av := [.int x4]) (rest := []) hC (s_J6_bitCount_0f7a4 hC h1) lk_X11_203 st_J6_bitCount_0f7a4 cd_J6_bitCount_0f7a4 ⟨by decide, by decide, (Nat.le_of_ble_eq_true rfl)⟩ dX11_shuts_50 ?_
      refine zeqS (stk2 := [.int q1.1]) rfl ?_
      refine z_iload_n (x := x3) rfl dX11_shuts_53 ?_
      refine z_icmp_ne (tgt := 104) dX11_shuts_54 (by decide) (fun c2 => ?_) (fun c2 => ?_)
      · have h := zife h c2
        exact s_X11_shuts_b104 hC hk28 ih _ _ _ _ _ _ _ h
      · have h := zift h c2
        refine z_iload (x := x4) rfl dX11_shuts_57 ?_
        refine z_aload_n (x := x0) rfl dX11_shuts_59 ?_
        obtain ⟨a1, h2, h⟩ := zbind h
        refine z_gN hC fs_X11_12 h2 dX11_shuts_60 ?_
        obtain ⟨v2, h3, h⟩ := zbind h
        refine z_gI hC fs_X11_129 h3 dX11_shuts_63 ?_
        obtain ⟨q2, h4, h⟩ := zbind h
        refine z_callS (av := [.int x4, .int v2]) (rest := []) hC (s_X11_holds hC h4) lk_X11_119 st_X11_holds cd_X11_holds ⟨by decide, by decide, (Nat.le_of_ble_eq_true rfl)⟩ dX11_shuts_66 ?_
        refine zeqS (stk2 := [.int q2.1]) rfl ?_
        refine z_if_eq (tgt := 75) dX11_shuts_69 (by decide) (fun c3 => ?_) (fun c3 => ?_)
        · have h := zift h c3
          refine z_aload_n (x := x0) rfl dX11_shuts_75 ?_
          obtain ⟨a2, h5, h⟩ := zbind h
          refine z_gN hC fs_X11_47 h5 dX11_shuts_76 ?_
          refine z_aload_n (x := x0) rfl dX11_shuts_79 ?_
          obtain ⟨a3, h6, h⟩ := zbind h
          refine z_gN hC fs_X11_12 h6 dX11_shuts_80 ?_
          refine z_iload_n (x := x1) rfl dX11_shuts_83 ?_
          refine z_iload (x := x4) rfl dX11_shuts_84 ?_
          obtain ⟨_, hb, h⟩ := zbind h
          obtain ⟨fs, hb⟩ := zob_some hb
          obtain ⟨q3, h7, h⟩ := zbind h
          refine z_callV (av := [.ref a3, .int x1, .int x4]) (rest := []) hC zcl_0 hb (s_X0_follow hC h7) lk_X11_177 im_X0_follow se_X0_follow cd_X0_follow ⟨by decide, by decide, (Nat.le_of_ble_eq_true rfl)⟩ dX11_shuts_86 ?_
          clear hb fs
          refine zeqS (stk2 := []) rfl ?_
          refine z_aload_n (x := x0) rfl dX11_shuts_89 ?_
          obtain ⟨a4, h8, h⟩ := zbind h
          refine z_gN hC fs_X11_47 h8 dX11_shuts_90 ?_
          refine z_iconst 1 (by decide) dX11_shuts_93 ?_
          refine z_iconst 1 (by decide) dX11_shuts_94 ?_
          obtain ⟨_, hb, h⟩ := zbind h
          obtain ⟨fs, hb⟩ := zob_some hb
          obtain ⟨q4, h9, h⟩ := zbind h
          refine z_callV (av := [.int 1, .int 1]) (rest := []) hC zcl_0 hb (s_X0_seek hC h9) lk_X11_181 im_X0_seek se_X0_seek cd_X0_seek ⟨by decide, by decide, (Nat.le_of_ble_eq_true rfl)⟩ dX11_shuts_95 ?_
          clear hb fs
          refine zeqS (stk2 := [.int q4.1]) rfl ?_
          refine z_if_eq (tgt := 104) dX11_shuts_98 (by decide) (fun c4 => ?_) (fun c4 => ?_)
          · have h := zift h c4
            exact s_X11_shuts_b104 hC hk28 ih _ _ _ _ _ _ _ h
          · have h := zife h c4
            refine z_iload (x := x4) rfl dX11_shuts_101 ?_
            obtain rfl := Option.some.inj h
            exact z_iret ⟨.int, rfl, rfl⟩ dX11_shuts_103
        · have h := zife h c3
          refine z_goto (tgt := 104) dX11_shuts_72 (by decide) ?_
          exact s_X11_shuts_b104 hC hk28 ih _ _ _ _ _ _ _ h
def f_X11_shuts_b28  : Nat → Nat → Int32 → Int32 → Int32 → zMe → Option (Int32 × zMe)
  | 0, _, _, _, _, _ => none
  | n + 1, x0, x1, x2, x3, M =>
    (zgN M x0 [11] 0).bind fun a1 =>
    (zgI M a1 [2] 0).bind fun v1 =>
    if v1 ≤ x3 then (
      some ((-1), M))
    else (
      f_X11_shuts_b42 (f_X11_shuts_b28 n) zfu x0 x1 x2 x3 0 M)
set_option maxHeartbeats 4000000 in
set_option maxRecDepth 100000 in
theorem s_X11_shuts_b28 {g : zG} (hC : zC g)  : ∀ (n : Nat) (x0 : Nat) (x1 : Int32) (x2 : Int32) (x3 : Int32) (M : zMe) (q : (Int32 × zMe)), f_X11_shuts_b28  n x0 x1 x2 x3 M = some q → zW g mX11_shuts 28 [.ref x0, .int x1, .int x2, .int x3, .retAddr 0] [] M (some (.int q.1)) q.2 := by
  intro n
  induction n with
  | zero => intro x0 x1 x2 x3 M q h; cases h
  | succ n ih =>
    intro x0 x1 x2 x3 M q h
    rw [f_X11_shuts_b28] at h
    refine z_iload_n (x := x3) rfl dX11_shuts_28 ?_
    refine z_aload_n (x := x0) rfl dX11_shuts_29 ?_
    obtain ⟨a1, h1, h⟩ := zbind h
    refine z_gN hC fs_X11_12 h1 dX11_shuts_30 ?_
    obtain ⟨v1, h2, h⟩ := zbind h
    refine z_gI hC fs_X11_76 h2 dX11_shuts_33 ?_
    refine z_icmp_ge (tgt := 116) dX11_shuts_36 (by decide) (fun c1 => ?_) (fun c1 => ?_)
    · have h := zift h c1
      refine z_iconst (-1) (by decide) dX11_shuts_116 ?_
      obtain rfl := Option.some.inj h
      exact z_iret ⟨.int, rfl, rfl⟩ dX11_shuts_117
    · have h := zife h c1
      refine z_iconst 0 (by decide) dX11_shuts_39 ?_
      refine z_istore dX11_shuts_40 (by decide) ?_
      refine zeqL (L2 := [.ref x0, .int x1, .int x2, .int x3, .int 0]) rfl ?_
      exact s_X11_shuts_b42 hC ih _ _ _ _ _ _ _ _ h
def f_X11_shuts (x0 : Nat) (x1 : Int32) (M : zMe) : Option (Int32 × zMe) :=
  (zgN M x0 [11] 0).bind fun a1 =>
  (zob M a1 2).bind fun _ =>
  (f_X2_areDogs a1 x1 M).bind fun q1 =>
  if q1.1 = 0 then (
    (zob q1.2 x0 11).bind fun _ =>
    (f_X11_refusedBad x0 (-2) q1.2).bind fun q2 =>
    some (q2.1, q2.2))
  else (
    (zgN q1.2 x0 [11] 0).bind fun a2 =>
    (zob q1.2 a2 2).bind fun _ =>
    (f_X2_allPlaces a2 q1.2).bind fun q3 =>
    f_X11_shuts_b28 zfu x0 x1 q3.1 0 q3.2)
set_option maxHeartbeats 4000000 in
set_option maxRecDepth 100000 in
theorem s_X11_shuts {g : zG} (hC : zC g) {x0 : Nat} {x1 : Int32} {M : zMe} {q : (Int32 × zMe)} (h : f_X11_shuts x0 x1 M = some q) : zMet g yX11_shuts mX11_shuts [.ref x0, .int x1] M (some (.int q.1)) q.2 := by
  refine z_entry (by decide +kernel) rfl rfl (Nat.le_of_ble_eq_true rfl) ?_
  refine zeqL (L2 := [.ref x0, .int x1, .retAddr 0, .retAddr 0, .retAddr 0]) rfl ?_
  unfold f_X11_shuts at h
  refine z_aload_n (x := x0) rfl dX11_shuts_0 ?_
  obtain ⟨a1, h1, h⟩ := zbind h
  refine z_gN hC fs_X11_12 h1 dX11_shuts_1 ?_
  refine z_iload_n (x := x1) rfl dX11_shuts_4 ?_
  obtain ⟨_, hb, h⟩ := zbind h
  obtain ⟨fs, hb⟩ := zob_some hb
  obtain ⟨q1, h2, h⟩ := zbind h
  refine z_callV (av := [.int x1]) (rest := []) hC zcl_2 hb (s_X2_areDogs hC h2) lk_X11_174 im_X2_areDogs se_X2_areDogs cd_X2_areDogs ⟨by decide, by decide, (Nat.le_of_ble_eq_true rfl)⟩ dX11_shuts_5 ?_
  clear hb fs
  refine zeqS (stk2 := [.int q1.1]) rfl ?_
  refine z_if_ne (tgt := 18) dX11_shuts_8 (by decide) (fun c1 => ?_) (fun c1 => ?_)
  · have h := zife h c1
    refine z_aload_n (x := x0) rfl dX11_shuts_18 ?_
    obtain ⟨a2, h4, h⟩ := zbind h
    refine z_gN hC fs_X11_12 h4 dX11_shuts_19 ?_
    obtain ⟨_, hb, h⟩ := zbind h
    obtain ⟨fs, hb⟩ := zob_some hb
    obtain ⟨q3, h5, h⟩ := zbind h
    refine z_callV (av := []) (rest := []) hC zcl_2 hb (s_X2_allPlaces hC h5) lk_X11_200 im_X2_allPlaces se_X2_allPlaces cd_X2_allPlaces ⟨by decide, by decide, (Nat.le_of_ble_eq_true rfl)⟩ dX11_shuts_22 ?_
    clear hb fs
    refine zeqS (stk2 := [.int q3.1]) rfl ?_
    refine z_istore_n dX11_shuts_25 (by decide) ?_
    refine zeqL (L2 := [.ref x0, .int x1, .int q3.1, .retAddr 0, .retAddr 0]) rfl ?_
    refine z_iconst 0 (by decide) dX11_shuts_26 ?_
    refine z_istore_n dX11_shuts_27 (by decide) ?_
    refine zeqL (L2 := [.ref x0, .int x1, .int q3.1, .int 0, .retAddr 0]) rfl ?_
    exact s_X11_shuts_b28 hC _ _ _ _ _ _ _ h
  · have h := zift h c1
    refine z_aload_n (x := x0) rfl dX11_shuts_11 ?_
    refine z_bipush (-2) (by decide) dX11_shuts_12 ?_
    obtain ⟨_, hb, h⟩ := zbind h
    obtain ⟨fs, hb⟩ := zob_some hb
    obtain ⟨q2, h3, h⟩ := zbind h
    refine z_callV (av := [.int (-2)]) (rest := []) hC zcl_11 hb (s_X11_refusedBad hC h3) lk_X11_72 im_X11_refusedBad se_X11_refusedBad cd_X11_refusedBad ⟨by decide, by decide, (Nat.le_of_ble_eq_true rfl)⟩ dX11_shuts_14 ?_
    clear hb fs
    refine zeqS (stk2 := [.int q2.1]) rfl ?_
    obtain rfl := Option.some.inj h
    exact z_iret ⟨.int, rfl, rfl⟩ dX11_shuts_17
def f_X11_neighbour_b140  (y0 : Int32) (M : zMe) : Option (Int32 × zMe) :=
  some (y0, M)
set_option maxHeartbeats 4000000 in
set_option maxRecDepth 100000 in
theorem s_X11_neighbour_b140 {g : zG} (hC : zC g)  (y0 : Int32) (M : zMe) (q : (Int32 × zMe)) (h : f_X11_neighbour_b140  y0 M = some q) : zW g mX11_neighbour 140 [.retAddr 0, .retAddr 0, .retAddr 0, .retAddr 0, .retAddr 0, .retAddr 0] [.int y0] M (some (.int q.1)) q.2 := by
  unfold f_X11_neighbour_b140 at h
  obtain rfl := Option.some.inj h
  exact z_iret ⟨.int, rfl, rfl⟩ dX11_neighbour_140
def f_X11_neighbour_b63  (x0 : Nat) (M : zMe) : Option (Int32 × zMe) :=
  (zob M x0 11).bind fun _ =>
  (f_X11_refusedBad x0 (-10) M).bind fun q1 =>
  some (q1.1, q1.2)
set_option maxHeartbeats 4000000 in
set_option maxRecDepth 100000 in
theorem s_X11_neighbour_b63 {g : zG} (hC : zC g)  (x0 : Nat) (M : zMe) (q : (Int32 × zMe)) (h : f_X11_neighbour_b63  x0 M = some q) : zW g mX11_neighbour 63 [.ref x0, .retAddr 0, .retAddr 0, .retAddr 0, .retAddr 0, .retAddr 0] [] M (some (.int q.1)) q.2 := by
  unfold f_X11_neighbour_b63 at h
  refine z_aload_n (x := x0) rfl dX11_neighbour_63 ?_
  refine z_bipush (-10) (by decide) dX11_neighbour_64 ?_
  obtain ⟨_, hb, h⟩ := zbind h
  obtain ⟨fs, hb⟩ := zob_some hb
  obtain ⟨q1, h1, h⟩ := zbind h
  refine z_callV (av := [.int (-10)]) (rest := []) hC zcl_11 hb (s_X11_refusedBad hC h1) lk_X11_72 im_X11_refusedBad se_X11_refusedBad cd_X11_refusedBad ⟨by decide, by decide, (Nat.le_of_ble_eq_true rfl)⟩ dX11_neighbour_66 ?_
  clear hb fs
  refine zeqS (stk2 := [.int q1.1]) rfl ?_
  obtain rfl := Option.some.inj h
  exact z_iret ⟨.int, rfl, rfl⟩ dX11_neighbour_69
def f_X11_neighbour_b34  (x0 : Nat) (M : zMe) : Option (Int32 × zMe) :=
  (zob M x0 11).bind fun _ =>
  (f_X11_refusedBad x0 (-10) M).bind fun q1 =>
  some (q1.1, q1.2)
set_option maxHeartbeats 4000000 in
set_option maxRecDepth 100000 in
theorem s_X11_neighbour_b34 {g : zG} (hC : zC g)  (x0 : Nat) (M : zMe) (q : (Int32 × zMe)) (h : f_X11_neighbour_b34  x0 M = some q) : zW g mX11_neighbour 34 [.ref x0, .retAddr 0, .retAddr 0, .retAddr 0, .retAddr 0, .retAddr 0] [] M (some (.int q.1)) q.2 := by
  unfold f_X11_neighbour_b34 at h
  refine z_aload_n (x := x0) rfl dX11_neighbour_34 ?_
  refine z_bipush (-10) (by decide) dX11_neighbour_35 ?_
  obtain ⟨_, hb, h⟩ := zbind h
  obtain ⟨fs, hb⟩ := zob_some hb
  obtain ⟨q1, h1, h⟩ := zbind h
  refine z_callV (av := [.int (-10)]) (rest := []) hC zcl_11 hb (s_X11_refusedBad hC h1) lk_X11_72 im_X11_refusedBad se_X11_refusedBad cd_X11_refusedBad ⟨by decide, by decide, (Nat.le_of_ble_eq_true rfl)⟩ dX11_neighbour_37 ?_
  clear hb fs
  refine zeqS (stk2 := [.int q1.1]) rfl ?_
  obtain rfl := Option.some.inj h
  exact z_iret ⟨.int, rfl, rfl⟩ dX11_neighbour_40
def f_X11_neighbour (x0 : Nat) (x1 : Int32) (x2 : Int32) (x3 : Int32) (x4 : Int32) (M : zMe) : Option (Int32 × zMe) :=
  (zgN M x0 [11] 0).bind fun a1 =>
  (zob M a1 2).bind fun _ =>
  (f_X2_dogAt a1 x2 M).bind fun q1 =>
  zcase q1.1 (
    f_X11_neighbour_b34 x0 q1.2) (fun a2 =>
    (zgN q1.2 x0 [11] 0).bind fun a3 =>
    (zob q1.2 a3 2).bind fun _ =>
    (f_X2_areDogs a3 x1 q1.2).bind fun q2 =>
    if q2.1 = 0 then (
      f_X11_neighbour_b34 x0 q2.2)
    else (
      (f_X11_holds x1 x2 q2.2).bind fun q3 =>
      if q3.1 = 0 then (
        (zgN q3.2 x0 [11] 0).bind fun a4 =>
        (zob q3.2 a4 2).bind fun _ =>
        (f_X2_isPlace a4 x3 q3.2).bind fun q4 =>
        if q4.1 = 0 then (
          f_X11_neighbour_b63 x0 q4.2)
        else (
          if x4 < 0 then (
            f_X11_neighbour_b63 x0 q4.2)
          else (
            if x4 ≤ 1 then (
              (zgN q4.2 x0 [11] 9).bind fun a5 =>
              (zgN q4.2 x0 [11] 0).bind fun a6 =>
              (zgN q4.2 x0 [11] 0).bind fun a7 =>
              (zgI q4.2 a7 [2] 1).bind fun v1 =>
              (zob q4.2 a5 0).bind fun _ =>
              (f_X0_follow a5 a6 x1 v1 q4.2).bind fun q5 =>
              (zgN q5 x0 [11] 9).bind fun a8 =>
              (zgN q5 x0 [11] 0).bind fun a9 =>
              (zgN q5 x0 [11] 0).bind fun a10 =>
              (zgI q5 a10 [2] 1).bind fun v2 =>
              (zob q5 a8 0).bind fun _ =>
              (f_X0_addLane a8 a2 a9 v2 ((1 : Int32) <<< (x3 &&& 31)) ((1 : Int32) <<< (x3 &&& 31)) q5).bind fun q6 =>
              (zgN q6 x0 [11] 9).bind fun a11 =>
              (zob q6 a11 0).bind fun _ =>
              (f_X0_seek a11 1 1 q6).bind fun q7 =>
              if q7.1 = 0 then (
                f_X11_neighbour_b140 (-1) q7.2)
              else (
                (zgN q7.2 x0 [11] 9).bind fun a12 =>
                (zob q7.2 a12 0).bind fun _ =>
                (f_X0_shortest a12 x4 q7.2).bind fun q8 =>
                f_X11_neighbour_b140 q8.1 q8.2))
            else (
              f_X11_neighbour_b63 x0 q4.2))))
      else (
        f_X11_neighbour_b34 x0 q3.2)))
set_option maxHeartbeats 4000000 in
set_option maxRecDepth 100000 in
theorem s_X11_neighbour {g : zG} (hC : zC g) {x0 : Nat} {x1 : Int32} {x2 : Int32} {x3 : Int32} {x4 : Int32} {M : zMe} {q : (Int32 × zMe)} (h : f_X11_neighbour x0 x1 x2 x3 x4 M = some q) : zMet g yX11_neighbour mX11_neighbour [.ref x0, .int x1, .int x2, .int x3, .int x4] M (some (.int q.1)) q.2 := by
  refine z_entry (by decide +kernel) rfl rfl (Nat.le_of_ble_eq_true rfl) ?_
  refine zeqL (L2 := [.ref x0, .int x1, .int x2, .int x3, .int x4, .retAddr 0]) rfl ?_
  unfold f_X11_neighbour at h
  refine z_aload_n (x := x0) rfl dX11_neighbour_0 ?_
  obtain ⟨a1, h1, h⟩ := zbind h
  refine z_gN hC fs_X11_12 h1 dX11_neighbour_1 ?_
  refine z_iload_n (x := x2) rfl dX11_neighbour_4 ?_
  obtain ⟨_, hb, h⟩ := zbind h
  obtain ⟨fs, hb⟩ := zob_some hb
  obtain ⟨q1, h2, h⟩ := zbind h
  refine z_callV (av := [.int x2]) (rest := []) hC zcl_2 hb (s_X2_dogAt hC h2) lk_X11_158 im_X2_dogAt se_X2_dogAt cd_X2_dogAt ⟨by decide, by decide, (Nat.le_of_ble_eq_true rfl)⟩ dX11_neighbour_5 ?_
  clear hb fs
  refine zeqS (stk2 := [va_rf q1.1]) rfl ?_
  refine z_astoreO dX11_neighbour_8 (by decide) ?_
  refine zeqL (L2 := [.ref x0, .int x1, .int x2, .int x3, .int x4, va_rf q1.1]) rfl ?_
  refine z_aloadO (x := q1.1) rfl dX11_neighbour_10 ?_
  obtain hx1 | ⟨a2, hx1⟩ := zon q1.1
  · have h := zcaseN h hx1
    rw [hx1]
    refine z_ifnullN (tgt := 34) dX11_neighbour_12 (by decide) ?_
    refine zweak [true, false, false, false, false, false] ?_
    exact s_X11_neighbour_b34 hC _ _ _ h
  · have h := zcaseS h hx1
    rw [hx1]
    refine z_ifnull dX11_neighbour_12 ?_
    refine z_aload_n (x := x0) rfl dX11_neighbour_15 ?_
    obtain ⟨a3, h3, h⟩ := zbind h
    refine z_gN hC fs_X11_12 h3 dX11_neighbour_16 ?_
    refine z_iload_n (x := x1) rfl dX11_neighbour_19 ?_
    obtain ⟨_, hb, h⟩ := zbind h
    obtain ⟨fs, hb⟩ := zob_some hb
    obtain ⟨q2, h4, h⟩ := zbind h
    refine z_callV (av := [.int x1]) (rest := []) hC zcl_2 hb (s_X2_areDogs hC h4) lk_X11_174 im_X2_areDogs se_X2_areDogs cd_X2_areDogs ⟨by decide, by decide, (Nat.le_of_ble_eq_true rfl)⟩ dX11_neighbour_20 ?_
    clear hb fs
    refine zeqS (stk2 := [.int q2.1]) rfl ?_
    refine z_if_eq (tgt := 34) dX11_neighbour_23 (by decide) (fun c1 => ?_) (fun c1 => ?_)
    · have h := zift h c1
      refine zweak [true, false, false, false, false, false] ?_
      exact s_X11_neighbour_b34 hC _ _ _ h
    · have h := zife h c1
      refine z_iload_n (x := x1) rfl dX11_neighbour_26 ?_
      refine z_iload_n (x := x2) rfl dX11_neighbour_27 ?_
      obtain ⟨q3, h5, h⟩ := zbind h
      refine z_callS (av := [.int x1, .int x2]) (rest := []) hC (s_X11_holds hC h5) lk_X11_119 st_X11_holds cd_X11_holds ⟨by decide, by decide, (Nat.le_of_ble_eq_true rfl)⟩ dX11_neighbour_28 ?_
      refine zeqS (stk2 := [.int q3.1]) rfl ?_
      refine z_if_eq (tgt := 41) dX11_neighbour_31 (by decide) (fun c2 => ?_) (fun c2 => ?_)
      · have h := zift h c2
        refine z_aload_n (x := x0) rfl dX11_neighbour_41 ?_
        obtain ⟨a4, h6, h⟩ := zbind h
        refine z_gN hC fs_X11_12 h6 dX11_neighbour_42 ?_
        refine z_iload_n (x := x3) rfl dX11_neighbour_45 ?_
        obtain ⟨_, hb, h⟩ := zbind h
        obtain ⟨fs, hb⟩ := zob_some hb
        obtain ⟨q4, h7, h⟩ := zbind h
        refine z_callV (av := [.int x3]) (rest := []) hC zcl_2 hb (s_X2_isPlace hC h7) lk_X11_113 im_X2_isPlace se_X2_isPlace cd_X2_isPlace ⟨by decide, by decide, (Nat.le_of_ble_eq_true rfl)⟩ dX11_neighbour_46 ?_
        clear hb fs
        refine zeqS (stk2 := [.int q4.1]) rfl ?_
        refine z_if_eq (tgt := 63) dX11_neighbour_49 (by decide) (fun c3 => ?_) (fun c3 => ?_)
        · have h := zift h c3
          refine zweak [true, false, false, false, false, false] ?_
          exact s_X11_neighbour_b63 hC _ _ _ h
        · have h := zife h c3
          refine z_iload (x := x4) rfl dX11_neighbour_52 ?_
          refine z_if_lt (tgt := 63) dX11_neighbour_54 (by decide) (fun c4 => ?_) (fun c4 => ?_)
          · have h := zift h c4
            refine zweak [true, false, false, false, false, false] ?_
            exact s_X11_neighbour_b63 hC _ _ _ h
          · have h := zife h c4
            refine z_iload (x := x4) rfl dX11_neighbour_57 ?_
            refine z_iconst 1 (by decide) dX11_neighbour_59 ?_
            refine z_icmp_le (tgt := 70) dX11_neighbour_60 (by decide) (fun c5 => ?_) (fun c5 => ?_)
            · have h := zift h c5
              refine z_aload_n (x := x0) rfl dX11_neighbour_70 ?_
              obtain ⟨a5, h8, h⟩ := zbind h
              refine z_gN hC fs_X11_47 h8 dX11_neighbour_71 ?_
              refine z_aload_n (x := x0) rfl dX11_neighbour_74 ?_
              obtain ⟨a6, h9, h⟩ := zbind h
              refine z_gN hC fs_X11_12 h9 dX11_neighbour_75 ?_
              refine z_iload_n (x := x1) rfl dX11_neighbour_78 ?_
              refine z_aload_n (x := x0) rfl dX11_neighbour_79 ?_
              obtain ⟨a7, h10, h⟩ := zbind h
              refine z_gN hC fs_X11_12 h10 dX11_neighbour_80 ?_
              obtain ⟨v1, h11, h⟩ := zbind h
              refine z_gI hC fs_X11_116 h11 dX11_neighbour_83 ?_
              obtain ⟨_, hb, h⟩ := zbind h
              obtain ⟨fs, hb⟩ := zob_some hb
              obtain ⟨q5, h12, h⟩ := zbind h
              refine z_callV (av := [.ref a6, .int x1, .int v1]) (rest := []) hC zcl_0 hb (s_X0_follow hC h12) lk_X11_177 im_X0_follow se_X0_follow cd_X0_follow ⟨by decide, by decide, (Nat.le_of_ble_eq_true rfl)⟩ dX11_neighbour_86 ?_
              clear hb fs
              refine zeqS (stk2 := []) rfl ?_
              refine z_aload_n (x := x0) rfl dX11_neighbour_89 ?_
              obtain ⟨a8, h13, h⟩ := zbind h
              refine z_gN hC fs_X11_47 h13 dX11_neighbour_90 ?_
              refine z_aload (x := a2) rfl dX11_neighbour_93 ?_
              refine z_aload_n (x := x0) rfl dX11_neighbour_95 ?_
              obtain ⟨a9, h14, h⟩ := zbind h
              refine z_gN hC fs_X11_12 h14 dX11_neighbour_96 ?_
              refine z_aload_n (x := x0) rfl dX11_neighbour_99 ?_
              obtain ⟨a10, h15, h⟩ := zbind h
              refine z_gN hC fs_X11_12 h15 dX11_neighbour_100 ?_
              obtain ⟨v2, h16, h⟩ := zbind h
              refine z_gI hC fs_X11_116 h16 dX11_neighbour_103 ?_
              refine z_iconst 1 (by decide) dX11_neighbour_106 ?_
              refine z_iload_n (x := x3) rfl dX11_neighbour_107 ?_
              refine z_ishl dX11_neighbour_108 ?_
              refine z_iconst 1 (by decide) dX11_neighbour_109 ?_
              refine z_iload_n (x := x3) rfl dX11_neighbour_110 ?_
              refine z_ishl dX11_neighbour_111 ?_
              obtain ⟨_, hb, h⟩ := zbind h
              obtain ⟨fs, hb⟩ := zob_some hb
              obtain ⟨q6, h17, h⟩ := zbind h
              refine z_callV (av := [.ref a2, .ref a9, .int v2, .int ((1 : Int32) <<< (x3 &&& 31)), .int ((1 : Int32) <<< (x3 &&& 31))]) (rest := []) hC zcl_0 hb (s_X0_addLane hC h17) lk_X11_208 im_X0_addLane se_X0_addLane cd_X0_addLane ⟨by decide, by decide, (Nat.le_of_ble_eq_true rfl)⟩ dX11_neighbour_112 ?_
              clear hb fs
              refine zeqS (stk2 := []) rfl ?_
              refine z_aload_n (x := x0) rfl dX11_neighbour_115 ?_
              obtain ⟨a11, h18, h⟩ := zbind h
              refine z_gN hC fs_X11_47 h18 dX11_neighbour_116 ?_
              refine z_iconst 1 (by decide) dX11_neighbour_119 ?_
              refine z_iconst 1 (by decide) dX11_neighbour_120 ?_
              obtain ⟨_, hb, h⟩ := zbind h
              obtain ⟨fs, hb⟩ := zob_some hb
              obtain ⟨q7, h19, h⟩ := zbind h
              refine z_callV (av := [.int 1, .int 1]) (rest := []) hC zcl_0 hb (s_X0_seek hC h19) lk_X11_181 im_X0_seek se_X0_seek cd_X0_seek ⟨by decide, by decide, (Nat.le_of_ble_eq_true rfl)⟩ dX11_neighbour_121 ?_
              clear hb fs
              refine zeqS (stk2 := [.int q7.1]) rfl ?_
              refine z_if_eq (tgt := 139) dX11_neighbour_124 (by decide) (fun c6 => ?_) (fun c6 => ?_)
              · have h := zift h c6
                refine z_iconst (-1) (by decide) dX11_neighbour_139 ?_
                refine zweak [false, false, false, false, false, false] ?_
                exact s_X11_neighbour_b140 hC _ _ _ h
              · have h := zife h c6
                refine z_aload_n (x := x0) rfl dX11_neighbour_127 ?_
                obtain ⟨a12, h20, h⟩ := zbind h
                refine z_gN hC fs_X11_47 h20 dX11_neighbour_128 ?_
                refine z_iload (x := x4) rfl dX11_neighbour_131 ?_
                obtain ⟨_, hb, h⟩ := zbind h
                obtain ⟨fs, hb⟩ := zob_some hb
                obtain ⟨q8, h21, h⟩ := zbind h
                refine z_callV (av := [.int x4]) (rest := []) hC zcl_0 hb (s_X0_shortest hC h21) lk_X11_184 im_X0_shortest se_X0_shortest cd_X0_shortest ⟨by decide, by decide, (Nat.le_of_ble_eq_true rfl)⟩ dX11_neighbour_133 ?_
                clear hb fs
                refine zeqS (stk2 := [.int q8.1]) rfl ?_
                refine z_goto (tgt := 140) dX11_neighbour_136 (by decide) ?_
                refine zweak [false, false, false, false, false, false] ?_
                exact s_X11_neighbour_b140 hC _ _ _ h
            · have h := zife h c5
              refine zweak [true, false, false, false, false, false] ?_
              exact s_X11_neighbour_b63 hC _ _ _ h
      · have h := zife h c2
        refine zweak [true, false, false, false, false, false] ?_
        exact s_X11_neighbour_b34 hC _ _ _ h
def f_X11_tells_b195  (y0 : Int32) (M : zMe) : Option (Int32 × zMe) :=
  some (y0, M)
set_option maxHeartbeats 4000000 in
set_option maxRecDepth 100000 in
theorem s_X11_tells_b195 {g : zG} (hC : zC g)  (y0 : Int32) (M : zMe) (q : (Int32 × zMe)) (h : f_X11_tells_b195  y0 M = some q) : zW g mX11_tells 195 [.retAddr 0, .retAddr 0, .retAddr 0, .retAddr 0, .retAddr 0, .retAddr 0, .retAddr 0, .retAddr 0] [.int y0] M (some (.int q.1)) q.2 := by
  unfold f_X11_tells_b195 at h
  obtain rfl := Option.some.inj h
  exact z_iret ⟨.int, rfl, rfl⟩ dX11_tells_195
def f_X11_tells_b40  (x0 : Nat) (M : zMe) : Option (Int32 × zMe) :=
  (zob M x0 11).bind fun _ =>
  (f_X11_refusedBad x0 (-10) M).bind fun q1 =>
  some (q1.1, q1.2)
set_option maxHeartbeats 4000000 in
set_option maxRecDepth 100000 in
theorem s_X11_tells_b40 {g : zG} (hC : zC g)  (x0 : Nat) (M : zMe) (q : (Int32 × zMe)) (h : f_X11_tells_b40  x0 M = some q) : zW g mX11_tells 40 [.ref x0, .retAddr 0, .retAddr 0, .retAddr 0, .retAddr 0, .retAddr 0, .retAddr 0, .retAddr 0] [] M (some (.int q.1)) q.2 := by
  unfold f_X11_tells_b40 at h
  refine z_aload_n (x := x0) rfl dX11_tells_40 ?_
  refine z_bipush (-10) (by decide) dX11_tells_41 ?_
  obtain ⟨_, hb, h⟩ := zbind h
  obtain ⟨fs, hb⟩ := zob_some hb
  obtain ⟨q1, h1, h⟩ := zbind h
  refine z_callV (av := [.int (-10)]) (rest := []) hC zcl_11 hb (s_X11_refusedBad hC h1) lk_X11_72 im_X11_refusedBad se_X11_refusedBad cd_X11_refusedBad ⟨by decide, by decide, (Nat.le_of_ble_eq_true rfl)⟩ dX11_tells_43 ?_
  clear hb fs
  refine zeqS (stk2 := [.int q1.1]) rfl ?_
  obtain rfl := Option.some.inj h
  exact z_iret ⟨.int, rfl, rfl⟩ dX11_tells_46
def f_X11_tells (x0 : Nat) (x1 : Int32) (x2 : Int32) (x3 : Int32) (M : zMe) : Option (Int32 × zMe) :=
  (zgN M x0 [11] 0).bind fun a1 =>
  (zob M a1 2).bind fun _ =>
  (f_X2_dogAt a1 x1 M).bind fun q1 =>
  zcase q1.1 (
    f_X11_tells_b40 x0 q1.2) (fun a2 =>
    if x2 < 1 then (
      f_X11_tells_b40 x0 q1.2)
    else (
      (zgN q1.2 x0 [11] 0).bind fun a3 =>
      (zob q1.2 a3 2).bind fun _ =>
      (f_X2_allPlaces a3 q1.2).bind fun q2 =>
      if q2.1 < x2 then (
        f_X11_tells_b40 x0 q2.2)
      else (
        if x3 < 0 then (
          f_X11_tells_b40 x0 q2.2)
        else (
          if x3 ≤ 2 then (
            (zgN q2.2 x0 [11] 10).bind fun a4 =>
            (zgN q2.2 x0 [11] 0).bind fun a5 =>
            (zgI q2.2 a5 [2] 0).bind fun v1 =>
            (zgN q2.2 x0 [11] 0).bind fun a6 =>
            (zgI q2.2 a6 [2] 1).bind fun v2 =>
            (zob q2.2 a4 4).bind fun _ =>
            (f_X4_learn a4 a2 v1 v2 q2.2).bind fun q3 =>
            (zgN q3 x0 [11] 11).bind fun a7 =>
            (zgN q3 x0 [11] 10).bind fun a8 =>
            (zgN q3 x0 [11] 0).bind fun a9 =>
            (zob q3 a9 2).bind fun _ =>
            (f_X2_allPlaces a9 q3).bind fun q4 =>
            (zgN q4.2 x0 [11] 0).bind fun a10 =>
            (zgI q4.2 a10 [2] 3).bind fun v3 =>
            (zob q4.2 a7 10).bind fun _ =>
            (f_X10_weigh a7 a8 q4.1 v3 q4.2).bind fun q5 =>
            (zgN q5 x0 [11] 0).bind fun a11 =>
            (zgI q5 a11 [2] 3).bind fun v4 =>
            zlet (x2 &&& v4 : Int32) fun v5 =>
            (zgN q5 x0 [11] 0).bind fun a12 =>
            (zgI q5 a12 [2] 3).bind fun v6 =>
            zlet (x2 &&& (v6 ^^^ (-1)) : Int32) fun v7 =>
            if x3 = 1 then (
              (zgN q5 x0 [11] 11).bind fun a13 =>
              (zgN q5 x0 [11] 10).bind fun a14 =>
              (zob q5 a13 10).bind fun _ =>
              (f_X10_firstWhistle a13 a14 v5 q5).bind fun q6 =>
              some (q6.1, q6.2))
            else (
              if x3 = 2 then (
                (zgN q5 x0 [11] 11).bind fun a15 =>
                (zgN q5 x0 [11] 10).bind fun a16 =>
                (zob q5 a15 10).bind fun _ =>
                (f_X10_firstWhistle a15 a16 v7 q5).bind fun q7 =>
                some (q7.1, q7.2))
              else (
                (zgN q5 x0 [11] 11).bind fun a17 =>
                (zob q5 a17 10).bind fun _ =>
                (f_X10_fewestFor a17 0 v5 q5).bind fun q8 =>
                (zgN q8.2 x0 [11] 11).bind fun a18 =>
                (zob q8.2 a18 10).bind fun _ =>
                (f_X10_fewestFor a18 0 v7 q8.2).bind fun q9 =>
                zlet (if (q8.1 : Int32) < q9.1 then q9.1 else q8.1 : Int32) fun v8 =>
                if v8 = 99 then (
                  f_X11_tells_b195 (-1) q9.2)
                else (
                  f_X11_tells_b195 v8 q9.2))))
          else (
            f_X11_tells_b40 x0 q2.2)))))
set_option maxHeartbeats 4000000 in
set_option maxRecDepth 100000 in
theorem s_X11_tells {g : zG} (hC : zC g) {x0 : Nat} {x1 : Int32} {x2 : Int32} {x3 : Int32} {M : zMe} {q : (Int32 × zMe)} (h : f_X11_tells x0 x1 x2 x3 M = some q) : zMet g yX11_tells mX11_tells [.ref x0, .int x1, .int x2, .int x3] M (some (.int q.1)) q.2 := by
  refine z_entry (by decide +kernel) rfl rfl (Nat.le_of_ble_eq_true rfl) ?_
  refine zeqL (L2 := [.ref x0, .int x1, .int x2, .int x3, .retAddr 0, .retAddr 0, .retAddr 0, .retAddr 0]) rfl ?_
  unfold f_X11_tells at h
  refine z_aload_n (x := x0) rfl dX11_tells_0 ?_
  obtain ⟨a1, h1, h⟩ := zbind h
  refine z_gN hC fs_X11_12 h1 dX11_tells_1 ?_
  refine z_iload_n (x := x1) rfl dX11_tells_4 ?_
  obtain ⟨_, hb, h⟩ := zbind h
  obtain ⟨fs, hb⟩ := zob_some hb
  obtain ⟨q1, h2, h⟩ := zbind h
  refine z_callV (av := [.int x1]) (rest := []) hC zcl_2 hb (s_X2_dogAt hC h2) lk_X11_158 im_X2_dogAt se_X2_dogAt cd_X2_dogAt ⟨by decide, by decide, (Nat.le_of_ble_eq_true rfl)⟩ dX11_tells_5 ?_
  clear hb fs
  refine zeqS (stk2 := [va_rf q1.1]) rfl ?_
  refine z_astoreO dX11_tells_8 (by decide) ?_
  refine zeqL (L2 := [.ref x0, .int x1, .int x2, .int x3, va_rf q1.1, .retAddr 0, .retAddr 0, .retAddr 0]) rfl ?_
  refine z_aloadO (x := q1.1) rfl dX11_tells_10 ?_
  obtain hx1 | ⟨a2, hx1⟩ := zon q1.1
  · have h := zcaseN h hx1
    rw [hx1]
    refine z_ifnullN (tgt := 40) dX11_tells_12 (by decide) ?_
    refine zweak [true, false, false, false, false, false, false, false] ?_
    exact s_X11_tells_b40 hC _ _ _ h
  · have h := zcaseS h hx1
    rw [hx1]
    refine z_ifnull dX11_tells_12 ?_
    refine z_iload_n (x := x2) rfl dX11_tells_15 ?_
    refine z_iconst 1 (by decide) dX11_tells_16 ?_
    refine z_icmp_lt (tgt := 40) dX11_tells_17 (by decide) (fun c1 => ?_) (fun c1 => ?_)
    · have h := zift h c1
      refine zweak [true, false, false, false, false, false, false, false] ?_
      exact s_X11_tells_b40 hC _ _ _ h
    · have h := zife h c1
      refine z_iload_n (x := x2) rfl dX11_tells_20 ?_
      refine z_aload_n (x := x0) rfl dX11_tells_21 ?_
      obtain ⟨a3, h3, h⟩ := zbind h
      refine z_gN hC fs_X11_12 h3 dX11_tells_22 ?_
      obtain ⟨_, hb, h⟩ := zbind h
      obtain ⟨fs, hb⟩ := zob_some hb
      obtain ⟨q2, h4, h⟩ := zbind h
      refine z_callV (av := []) (rest := [.int x2]) hC zcl_2 hb (s_X2_allPlaces hC h4) lk_X11_200 im_X2_allPlaces se_X2_allPlaces cd_X2_allPlaces ⟨by decide, by decide, (Nat.le_of_ble_eq_true rfl)⟩ dX11_tells_25 ?_
      clear hb fs
      refine zeqS (stk2 := [.int q2.1, .int x2]) rfl ?_
      refine z_icmp_gt (tgt := 40) dX11_tells_28 (by decide) (fun c2 => ?_) (fun c2 => ?_)
      · have h := zift h c2
        refine zweak [true, false, false, false, false, false, false, false] ?_
        exact s_X11_tells_b40 hC _ _ _ h
      · have h := zife h c2
        refine z_iload_n (x := x3) rfl dX11_tells_31 ?_
        refine z_if_lt (tgt := 40) dX11_tells_32 (by decide) (fun c3 => ?_) (fun c3 => ?_)
        · have h := zift h c3
          refine zweak [true, false, false, false, false, false, false, false] ?_
          exact s_X11_tells_b40 hC _ _ _ h
        · have h := zife h c3
          refine z_iload_n (x := x3) rfl dX11_tells_35 ?_
          refine z_iconst 2 (by decide) dX11_tells_36 ?_
          refine z_icmp_le (tgt := 47) dX11_tells_37 (by decide) (fun c4 => ?_) (fun c4 => ?_)
          · have h := zift h c4
            refine z_aload_n (x := x0) rfl dX11_tells_47 ?_
            obtain ⟨a4, h5, h⟩ := zbind h
            refine z_gN hC fs_X11_54 h5 dX11_tells_48 ?_
            refine z_aload (x := a2) rfl dX11_tells_51 ?_
            refine z_aload_n (x := x0) rfl dX11_tells_53 ?_
            obtain ⟨a5, h6, h⟩ := zbind h
            refine z_gN hC fs_X11_12 h6 dX11_tells_54 ?_
            obtain ⟨v1, h7, h⟩ := zbind h
            refine z_gI hC fs_X11_76 h7 dX11_tells_57 ?_
            refine z_aload_n (x := x0) rfl dX11_tells_60 ?_
            obtain ⟨a6, h8, h⟩ := zbind h
            refine z_gN hC fs_X11_12 h8 dX11_tells_61 ?_
            obtain ⟨v2, h9, h⟩ := zbind h
            refine z_gI hC fs_X11_116 h9 dX11_tells_64 ?_
            obtain ⟨_, hb, h⟩ := zbind h
            obtain ⟨fs, hb⟩ := zob_some hb
            obtain ⟨q3, h10, h⟩ := zbind h
            refine z_callV (av := [.ref a2, .int v1, .int v2]) (rest := []) hC zcl_4 hb (s_X4_learn hC h10) lk_X11_190 im_X4_learn se_X4_learn cd_X4_learn ⟨by decide, by decide, (Nat.le_of_ble_eq_true rfl)⟩ dX11_tells_67 ?_
            clear hb fs
            refine zeqS (stk2 := []) rfl ?_
            refine z_aload_n (x := x0) rfl dX11_tells_70 ?_
            obtain ⟨a7, h11, h⟩ := zbind h
            refine z_gN hC fs_X11_61 h11 dX11_tells_71 ?_
            refine z_aload_n (x := x0) rfl dX11_tells_74 ?_
            obtain ⟨a8, h12, h⟩ := zbind h
            refine z_gN hC fs_X11_54 h12 dX11_tells_75 ?_
            refine z_aload_n (x := x0) rfl dX11_tells_78 ?_
            obtain ⟨a9, h13, h⟩ := zbind h
            refine z_gN hC fs_X11_12 h13 dX11_tells_79 ?_
            obtain ⟨_, hb, h⟩ := zbind h
            obtain ⟨fs, hb⟩ := zob_some hb
            obtain ⟨q4, h14, h⟩ := zbind h
            refine z_callV (av := []) (rest := [.ref a8, .ref a7]) hC zcl_2 hb (s_X2_allPlaces hC h14) lk_X11_200 im_X2_allPlaces se_X2_allPlaces cd_X2_allPlaces ⟨by decide, by decide, (Nat.le_of_ble_eq_true rfl)⟩ dX11_tells_82 ?_
            clear hb fs
            refine zeqS (stk2 := [.int q4.1, .ref a8, .ref a7]) rfl ?_
            refine z_aload_n (x := x0) rfl dX11_tells_85 ?_
            obtain ⟨a10, h15, h⟩ := zbind h
            refine z_gN hC fs_X11_12 h15 dX11_tells_86 ?_
            obtain ⟨v3, h16, h⟩ := zbind h
            refine z_gI hC fs_X11_132 h16 dX11_tells_89 ?_
            obtain ⟨_, hb, h⟩ := zbind h
            obtain ⟨fs, hb⟩ := zob_some hb
            obtain ⟨q5, h17, h⟩ := zbind h
            refine z_callV (av := [.ref a8, .int q4.1, .int v3]) (rest := []) hC zcl_10 hb (s_X10_weigh hC h17) lk_X11_212 im_X10_weigh se_X10_weigh cd_X10_weigh ⟨by decide, by decide, (Nat.le_of_ble_eq_true rfl)⟩ dX11_tells_92 ?_
            clear hb fs
            refine zeqS (stk2 := []) rfl ?_
            refine z_iload_n (x := x2) rfl dX11_tells_95 ?_
            refine z_aload_n (x := x0) rfl dX11_tells_96 ?_
            obtain ⟨a11, h18, h⟩ := zbind h
            refine z_gN hC fs_X11_12 h18 dX11_tells_97 ?_
            obtain ⟨v4, h19, h⟩ := zbind h
            refine z_gI hC fs_X11_132 h19 dX11_tells_100 ?_
            refine z_iand dX11_tells_103 ?_
            refine z_nameI (fun v5 hv => ?_)
            have h := zlet_use h hv
            clear hv
            refine z_istore dX11_tells_104 (by decide) ?_
            refine zeqL (L2 := [.ref x0, .int x1, .int x2, .int x3, .ref a2, .int v5, .retAddr 0, .retAddr 0]) rfl ?_
            refine z_iload_n (x := x2) rfl dX11_tells_106 ?_
            refine z_aload_n (x := x0) rfl dX11_tells_107 ?_
            obtain ⟨a12, h20, h⟩ := zbind h
            refine z_gN hC fs_X11_12 h20 dX11_tells_108 ?_
            obtain ⟨v6, h21, h⟩ := zbind h
            refine z_gI hC fs_X11_132 h21 dX11_tells_111 ?_
            refine z_iconst (-1) (by decide) dX11_tells_114 ?_
            refine z_ixor dX11_tells_115 ?_
            refine z_iand dX11_tells_116 ?_
            refine z_nameI (fun v7 hv => ?_)
            have h := zlet_use h hv
            clear hv
            refine z_istore dX11_tells_117 (by decide) ?_
            refine zeqL (L2 := [.ref x0, .int x1, .int x2, .int x3, .ref a2, .int v5, .int v7, .retAddr 0]) rfl ?_
            refine z_iload_n (x := x3) rfl dX11_tells_119 ?_
            refine z_iconst 1 (by decide) dX11_tells_120 ?_
            refine z_icmp_ne (tgt := 138) dX11_tells_121 (by decide) (fun c5 => ?_) (fun c5 => ?_)
            · have h := zife h c5
              refine z_iload_n (x := x3) rfl dX11_tells_138 ?_
              refine z_iconst 2 (by decide) dX11_tells_139 ?_
              refine z_icmp_ne (tgt := 157) dX11_tells_140 (by decide) (fun c6 => ?_) (fun c6 => ?_)
              · have h := zife h c6
                refine z_aload_n (x := x0) rfl dX11_tells_157 ?_
                obtain ⟨a17, h28, h⟩ := zbind h
                refine z_gN hC fs_X11_61 h28 dX11_tells_158 ?_
                refine z_iconst 0 (by decide) dX11_tells_161 ?_
                refine z_iload (x := v5) rfl dX11_tells_162 ?_
                obtain ⟨_, hb, h⟩ := zbind h
                obtain ⟨fs, hb⟩ := zob_some hb
                obtain ⟨q8, h29, h⟩ := zbind h
                refine z_callV (av := [.int 0, .int v5]) (rest := []) hC zcl_10 hb (s_X10_fewestFor hC h29) lk_X11_220 im_X10_fewestFor se_X10_fewestFor cd_X10_fewestFor ⟨by decide, by decide, (Nat.le_of_ble_eq_true rfl)⟩ dX11_tells_164 ?_
                clear hb fs
                refine zeqS (stk2 := [.int q8.1]) rfl ?_
                refine z_aload_n (x := x0) rfl dX11_tells_167 ?_
                obtain ⟨a18, h30, h⟩ := zbind h
                refine z_gN hC fs_X11_61 h30 dX11_tells_168 ?_
                refine z_iconst 0 (by decide) dX11_tells_171 ?_
                refine z_iload (x := v7) rfl dX11_tells_172 ?_
                obtain ⟨_, hb, h⟩ := zbind h
                obtain ⟨fs, hb⟩ := zob_some hb
                obtain ⟨q9, h31, h⟩ := zbind h
                refine z_callV (av := [.int 0, .int v7]) (rest := [.int q8.1]) hC zcl_10 hb (s_X10_fewestFor hC h31) lk_X11_220 im_X10_fewestFor se_X10_fewestFor cd_X10_fewestFor ⟨by decide, by decide, (Nat.le_of_ble_eq_true rfl)⟩ dX11_tells_174 ?_
                clear hb fs
                refine zeqS (stk2 := [.int q9.1, .int q8.1]) rfl ?_
                refine z_mmax hC lk_X11_224 (by decide) (Nat.le_of_ble_eq_true rfl) dX11_tells_177 ?_
                refine z_nameI (fun v8 hv => ?_)
                have h := zlet_use h hv
                clear hv
                refine z_istore dX11_tells_180 (by decide) ?_
                refine zeqL (L2 := [.ref x0, .int x1, .int x2, .int x3, .ref a2, .int v5, .int v7, .int v8]) rfl ?_
                refine z_iload (x := v8) rfl dX11_tells_182 ?_
                refine z_bipush 99 (by decide) dX11_tells_184 ?_
                refine z_icmp_ne (tgt := 193) dX11_tells_186 (by decide) (fun c7 => ?_) (fun c7 => ?_)
                · have h := zife h c7
                  refine z_iload (x := v8) rfl dX11_tells_193 ?_
                  refine zweak [false, false, false, false, false, false, false, false] ?_
                  exact s_X11_tells_b195 hC _ _ _ h
                · have h := zift h c7
                  refine z_iconst (-1) (by decide) dX11_tells_189 ?_
                  refine z_goto (tgt := 195) dX11_tells_190 (by decide) ?_
                  refine zweak [false, false, false, false, false, false, false, false] ?_
                  exact s_X11_tells_b195 hC _ _ _ h
              · have h := zift h c6
                refine z_aload_n (x := x0) rfl dX11_tells_143 ?_
                obtain ⟨a15, h25, h⟩ := zbind h
                refine z_gN hC fs_X11_61 h25 dX11_tells_144 ?_
                refine z_aload_n (x := x0) rfl dX11_tells_147 ?_
                obtain ⟨a16, h26, h⟩ := zbind h
                refine z_gN hC fs_X11_54 h26 dX11_tells_148 ?_
                refine z_iload (x := v7) rfl dX11_tells_151 ?_
                obtain ⟨_, hb, h⟩ := zbind h
                obtain ⟨fs, hb⟩ := zob_some hb
                obtain ⟨q7, h27, h⟩ := zbind h
                refine z_callV (av := [.ref a16, .int v7]) (rest := []) hC zcl_10 hb (s_X10_firstWhistle hC h27) lk_X11_216 im_X10_firstWhistle se_X10_firstWhistle cd_X10_firstWhistle ⟨by decide, by decide, (Nat.le_of_ble_eq_true rfl)⟩ dX11_tells_153 ?_
                clear hb fs
                refine zeqS (stk2 := [.int q7.1]) rfl ?_
                obtain rfl := Option.some.inj h
                exact z_iret ⟨.int, rfl, rfl⟩ dX11_tells_156
            · have h := zift h c5
              refine z_aload_n (x := x0) rfl dX11_tells_124 ?_
              obtain ⟨a13, h22, h⟩ := zbind h
              refine z_gN hC fs_X11_61 h22 dX11_tells_125 ?_
              refine z_aload_n (x := x0) rfl dX11_tells_128 ?_
              obtain ⟨a14, h23, h⟩ := zbind h
              refine z_gN hC fs_X11_54 h23 dX11_tells_129 ?_
              refine z_iload (x := v5) rfl dX11_tells_132 ?_
              obtain ⟨_, hb, h⟩ := zbind h
              obtain ⟨fs, hb⟩ := zob_some hb
              obtain ⟨q6, h24, h⟩ := zbind h
              refine z_callV (av := [.ref a14, .int v5]) (rest := []) hC zcl_10 hb (s_X10_firstWhistle hC h24) lk_X11_216 im_X10_firstWhistle se_X10_firstWhistle cd_X10_firstWhistle ⟨by decide, by decide, (Nat.le_of_ble_eq_true rfl)⟩ dX11_tells_134 ?_
              clear hb fs
              refine zeqS (stk2 := [.int q6.1]) rfl ?_
              obtain rfl := Option.some.inj h
              exact z_iret ⟨.int, rfl, rfl⟩ dX11_tells_137
          · have h := zife h c4
            refine zweak [true, false, false, false, false, false, false, false] ?_
            exact s_X11_tells_b40 hC _ _ _ h
def f_X11_isHeard_b32  (y0 : Int32) (M : zMe) : Option (Int32 × zMe) :=
  if y0 = 0 ∨ y0 = 1 then some (y0, M) else none
set_option maxHeartbeats 4000000 in
set_option maxRecDepth 100000 in
theorem s_X11_isHeard_b32 {g : zG} (hC : zC g)  (y0 : Int32) (M : zMe) (q : (Int32 × zMe)) (h : f_X11_isHeard_b32  y0 M = some q) : zW g mX11_isHeard 32 [.retAddr 0, .retAddr 0, .retAddr 0] [.int y0] M (some (.int q.1)) q.2 := by
  unfold f_X11_isHeard_b32 at h
  obtain ⟨hz, h⟩ := zifs h
  obtain rfl := Option.some.inj h
  exact z_iret ⟨.boolean, rfl, zbo hz⟩ dX11_isHeard_32
def f_X11_isHeard_b31   (M : zMe) : Option (Int32 × zMe) :=
  f_X11_isHeard_b32 0 M
set_option maxHeartbeats 4000000 in
set_option maxRecDepth 100000 in
theorem s_X11_isHeard_b31 {g : zG} (hC : zC g)   (M : zMe) (q : (Int32 × zMe)) (h : f_X11_isHeard_b31   M = some q) : zW g mX11_isHeard 31 [.retAddr 0, .retAddr 0, .retAddr 0] [] M (some (.int q.1)) q.2 := by
  unfold f_X11_isHeard_b31 at h
  refine z_iconst 0 (by decide) dX11_isHeard_31 ?_
  exact s_X11_isHeard_b32 hC _ _ _ h
def f_X11_isHeard (x0 : Int32) (x1 : Int32) (x2 : Int32) (M : zMe) : Option (Int32 × zMe) :=
  if x1 < 1 then (
    f_X11_isHeard_b31 M)
  else (
    if 16 < x1 then (
      f_X11_isHeard_b31 M)
    else (
      (f_X11_areBits x0 x1 M).bind fun q1 =>
      if q1.1 = 0 then (
        f_X11_isHeard_b31 q1.2)
      else (
        (f_X11_areBits x2 x1 q1.2).bind fun q2 =>
        if q2.1 = 0 then (
          f_X11_isHeard_b31 q2.2)
        else (
          f_X11_isHeard_b32 1 q2.2))))
set_option maxHeartbeats 4000000 in
set_option maxRecDepth 100000 in
theorem s_X11_isHeard {g : zG} (hC : zC g) {x0 : Int32} {x1 : Int32} {x2 : Int32} {M : zMe} {q : (Int32 × zMe)} (h : f_X11_isHeard x0 x1 x2 M = some q) : zMet g yX11_isHeard mX11_isHeard [.int x0, .int x1, .int x2] M (some (.int q.1)) q.2 := by
  refine z_entry (by decide +kernel) rfl rfl (Nat.le_of_ble_eq_true rfl) ?_
  refine zeqL (L2 := [.int x0, .int x1, .int x2]) rfl ?_
  unfold f_X11_isHeard at h
  refine z_iload_n (x := x1) rfl dX11_isHeard_0 ?_
  refine z_iconst 1 (by decide) dX11_isHeard_1 ?_
  refine z_icmp_lt (tgt := 31) dX11_isHeard_2 (by decide) (fun c1 => ?_) (fun c1 => ?_)
  · have h := zift h c1
    refine zweak [false, false, false] ?_
    exact s_X11_isHeard_b31 hC _ _ h
  · have h := zife h c1
    refine z_iload_n (x := x1) rfl dX11_isHeard_5 ?_
    refine z_bipush 16 (by decide) dX11_isHeard_6 ?_
    refine z_icmp_gt (tgt := 31) dX11_isHeard_8 (by decide) (fun c2 => ?_) (fun c2 => ?_)
    · have h := zift h c2
      refine zweak [false, false, false] ?_
      exact s_X11_isHeard_b31 hC _ _ h
    · have h := zife h c2
      refine z_iload_n (x := x0) rfl dX11_isHeard_11 ?_
      refine z_iload_n (x := x1) rfl dX11_isHeard_12 ?_
      obtain ⟨q1, h1, h⟩ := zbind h
      refine z_callS (av := [.int x0, .int x1]) (rest := []) hC (s_X11_areBits hC h1) lk_X11_264 st_X11_areBits cd_X11_areBits ⟨by decide, by decide, (Nat.le_of_ble_eq_true rfl)⟩ dX11_isHeard_13 ?_
      refine zeqS (stk2 := [.int q1.1]) rfl ?_
      refine z_if_eq (tgt := 31) dX11_isHeard_16 (by decide) (fun c3 => ?_) (fun c3 => ?_)
      · have h := zift h c3
        refine zweak [false, false, false] ?_
        exact s_X11_isHeard_b31 hC _ _ h
      · have h := zife h c3
        refine z_iload_n (x := x2) rfl dX11_isHeard_19 ?_
        refine z_iload_n (x := x1) rfl dX11_isHeard_20 ?_
        obtain ⟨q2, h2, h⟩ := zbind h
        refine z_callS (av := [.int x2, .int x1]) (rest := []) hC (s_X11_areBits hC h2) lk_X11_264 st_X11_areBits cd_X11_areBits ⟨by decide, by decide, (Nat.le_of_ble_eq_true rfl)⟩ dX11_isHeard_21 ?_
        refine zeqS (stk2 := [.int q2.1]) rfl ?_
        refine z_if_eq (tgt := 31) dX11_isHeard_24 (by decide) (fun c4 => ?_) (fun c4 => ?_)
        · have h := zift h c4
          refine zweak [false, false, false] ?_
          exact s_X11_isHeard_b31 hC _ _ h
        · have h := zife h c4
          refine z_iconst 1 (by decide) dX11_isHeard_27 ?_
          refine z_goto (tgt := 32) dX11_isHeard_28 (by decide) ?_
          refine zweak [false, false, false] ?_
          exact s_X11_isHeard_b32 hC _ _ _ h
def f_X11_soundsSo_b6  : Nat → Nat → Nat → Int32 → Int32 → Int32 → Int32 → Int32 → zMe → Option (Int32 × zMe)
  | 0, _, _, _, _, _, _, _, _ => none
  | n + 1, x0, x1, x3, x4, x5, x6, x7, M =>
    if x4 ≤ x7 then (
      some (1, M))
    else (
      (zgN M x0 [11] 0).bind fun a1 =>
      (zgI M a1 [2] 1).bind fun v1 =>
      (fv_X5_next x1 x6 ((x3 >>> (x7 &&& 31)) &&& 1) x7 v1 M).bind fun q1 =>
      (zgN q1.2 x0 [11] 0).bind fun a2 =>
      (zgI q1.2 a2 [2] 3).bind fun v2 =>
      (f_X11_holds v2 q1.1 q1.2).bind fun q2 =>
      (f_X11_holds x5 x7 q2.2).bind fun q3 =>
      if q2.1 = q3.1 then (
        zlet (x7 + 1) fun v3 =>
        f_X11_soundsSo_b6 n x0 x1 x3 x4 x5 q1.1 v3 q3.2)
      else (
        some (0, q3.2)))
set_option maxHeartbeats 4000000 in
set_option maxRecDepth 100000 in
theorem s_X11_soundsSo_b6 {g : zG} (hC : zC g)  : ∀ (n : Nat) (x0 : Nat) (x1 : Nat) (x3 : Int32) (x4 : Int32) (x5 : Int32) (x6 : Int32) (x7 : Int32) (M : zMe) (q : (Int32 × zMe)), f_X11_soundsSo_b6  n x0 x1 x3 x4 x5 x6 x7 M = some q → zW g mX11_soundsSo 6 [.ref x0, .ref x1, .retAddr 0, .int x3, .int x4, .int x5, .int x6, .int x7] [] M (some (.int q.1)) q.2 := by
  intro n
  induction n with
  | zero => intro x0 x1 x3 x4 x5 x6 x7 M q h; cases h
  | succ n ih =>
    intro x0 x1 x3 x4 x5 x6 x7 M q h
    rw [f_X11_soundsSo_b6] at h
    refine z_iload (x := x7) rfl dX11_soundsSo_6 ?_
    refine z_iload (x := x4) rfl dX11_soundsSo_8 ?_
    refine z_icmp_ge (tgt := 66) dX11_soundsSo_10 (by decide) (fun c1 => ?_) (fun c1 => ?_)
    · have h := zift h c1
      refine z_iconst 1 (by decide) dX11_soundsSo_66 ?_
      obtain rfl := Option.some.inj h
      exact z_iret ⟨.boolean, rfl, rfl⟩ dX11_soundsSo_67
    · have h := zife h c1
      refine z_aload_n (x := x1) rfl dX11_soundsSo_13 ?_
      refine z_iload (x := x6) rfl dX11_soundsSo_14 ?_
      refine z_iload_n (x := x3) rfl dX11_soundsSo_16 ?_
      refine z_iload (x := x7) rfl dX11_soundsSo_17 ?_
      refine z_ishr dX11_soundsSo_19 ?_
      refine z_iconst 1 (by decide) dX11_soundsSo_20 ?_
      refine z_iand dX11_soundsSo_21 ?_
      refine z_iload (x := x7) rfl dX11_soundsSo_22 ?_
      refine z_aload_n (x := x0) rfl dX11_soundsSo_24 ?_
      obtain ⟨a1, h1, h⟩ := zbind h
      refine z_gN hC fs_X11_12 h1 dX11_soundsSo_25 ?_
      obtain ⟨v1, h2, h⟩ := zbind h
      refine z_gI hC fs_X11_116 h2 dX11_soundsSo_28 ?_
      obtain ⟨q1, h3, h⟩ := zbind h
      refine cv_X11_162 (rest := []) hC h3 ⟨rfl, ⟨by decide, by decide⟩, ⟨by decide, by decide⟩, ⟨by decide, by decide⟩, ⟨by decide, by decide⟩⟩ (Nat.le_of_ble_eq_true rfl) dX11_soundsSo_31 ?_
      refine zeqS (stk2 := [.int q1.1]) rfl ?_
      refine z_istore dX11_soundsSo_34 (by decide) ?_
      refine zeqL (L2 := [.ref x0, .ref x1, .retAddr 0, .int x3, .int x4, .int x5, .int q1.1, .int x7]) rfl ?_
      refine z_aload_n (x := x0) rfl dX11_soundsSo_36 ?_
      obtain ⟨a2, h4, h⟩ := zbind h
      refine z_gN hC fs_X11_12 h4 dX11_soundsSo_37 ?_
      obtain ⟨v2, h5, h⟩ := zbind h
      refine z_gI hC fs_X11_132 h5 dX11_soundsSo_40 ?_
      refine z_iload (x := q1.1) rfl dX11_soundsSo_43 ?_
      obtain ⟨q2, h6, h⟩ := zbind h
      refine z_callS (av := [.int v2, .int q1.1]) (rest := []) hC (s_X11_holds hC h6) lk_X11_119 st_X11_holds cd_X11_holds ⟨by decide, by decide, (Nat.le_of_ble_eq_true rfl)⟩ dX11_soundsSo_45 ?_
      refine zeqS (stk2 := [.int q2.1]) rfl ?_
      refine z_iload (x := x5) rfl dX11_soundsSo_48 ?_
      refine z_iload (x := x7) rfl dX11_soundsSo_50 ?_
      obtain ⟨q3, h7, h⟩ := zbind h
      refine z_callS (av := [.int x5, .int x7]) (rest := [.int q2.1]) hC (s_X11_holds hC h7) lk_X11_119 st_X11_holds cd_X11_holds ⟨by decide, by decide, (Nat.le_of_ble_eq_true rfl)⟩ dX11_soundsSo_52 ?_
      refine zeqS (stk2 := [.int q3.1, .int q2.1]) rfl ?_
      refine z_icmp_eq (tgt := 60) dX11_soundsSo_55 (by decide) (fun c2 => ?_) (fun c2 => ?_)
      · have h := zift h c2
        obtain ⟨v3, hv⟩ : ∃ z : Int32, z = x7 + 1 := ⟨_, rfl⟩
        have h := zlet_use h hv
        refine z_iinc (v := v3) dX11_soundsSo_60 (x := x7) rfl (by rw [hv]; rfl) ?_
        clear hv
        refine zeqL (L2 := [.ref x0, .ref x1, .retAddr 0, .int x3, .int x4, .int x5, .int q1.1, .int v3]) rfl ?_
        refine z_goto (tgt := 6) dX11_soundsSo_63 (by decide) ?_
        exact ih _ _ _ _ _ _ _ _ _ h
      · have h := zife h c2
        refine z_iconst 0 (by decide) dX11_soundsSo_58 ?_
        obtain rfl := Option.some.inj h
        exact z_iret ⟨.boolean, rfl, rfl⟩ dX11_soundsSo_59
def f_X11_soundsSo (x0 : Nat) (x1 : Nat) (x2 : Int32) (x3 : Int32) (x4 : Int32) (x5 : Int32) (M : zMe) : Option (Int32 × zMe) :=
  f_X11_soundsSo_b6 zfu x0 x1 x3 x4 x5 x2 0 M
set_option maxHeartbeats 4000000 in
set_option maxRecDepth 100000 in
theorem s_X11_soundsSo {g : zG} (hC : zC g) {x0 : Nat} {x1 : Nat} {x2 : Int32} {x3 : Int32} {x4 : Int32} {x5 : Int32} {M : zMe} {q : (Int32 × zMe)} (h : f_X11_soundsSo x0 x1 x2 x3 x4 x5 M = some q) : zMet g yX11_soundsSo mX11_soundsSo [.ref x0, .ref x1, .int x2, .int x3, .int x4, .int x5] M (some (.int q.1)) q.2 := by
  refine z_entry (by decide +kernel) rfl rfl (Nat.le_of_ble_eq_true rfl) ?_
  refine zeqL (L2 := [.ref x0, .ref x1, .int x2, .int x3, .int x4, .int x5, .retAddr 0, .retAddr 0]) rfl ?_
  unfold f_X11_soundsSo at h
  refine z_iload_n (x := x2) rfl dX11_soundsSo_0 ?_
  refine z_istore dX11_soundsSo_1 (by decide) ?_
  refine zeqL (L2 := [.ref x0, .ref x1, .int x2, .int x3, .int x4, .int x5, .int x2, .retAddr 0]) rfl ?_
  refine z_iconst 0 (by decide) dX11_soundsSo_3 ?_
  refine z_istore dX11_soundsSo_4 (by decide) ?_
  refine zeqL (L2 := [.ref x0, .ref x1, .int x2, .int x3, .int x4, .int x5, .int x2, .int 0]) rfl ?_
  refine zweak [true, true, false, true, true, true, true, true] ?_
  exact s_X11_soundsSo_b6 hC _ _ _ _ _ _ _ _ _ _ h
def f_X11_origins_b41 (k6 : Nat → Nat → Int32 → Int32 → Int32 → Int32 → Int32 → zMe → Option (Int32 × zMe)) (x0 : Nat) (x1 : Nat) (x2 : Int32) (x3 : Int32) (x4 : Int32) (x5 : Int32) (x6 : Int32) (M : zMe) : Option (Int32 × zMe) :=
  zlet (x6 + 1) fun v1 =>
  k6 x0 x1 x2 x3 x4 x5 v1 M
set_option maxHeartbeats 4000000 in
set_option maxRecDepth 100000 in
theorem s_X11_origins_b41 {g : zG} (hC : zC g) {k6 : Nat → Nat → Int32 → Int32 → Int32 → Int32 → Int32 → zMe → Option (Int32 × zMe)} (hk6 : ∀ (x0 : Nat) (x1 : Nat) (x2 : Int32) (x3 : Int32) (x4 : Int32) (x5 : Int32) (x6 : Int32) (M : zMe) (q : (Int32 × zMe)), k6 x0 x1 x2 x3 x4 x5 x6 M = some q → zW g mX11_origins 6 [.ref x0, .ref x1, .int x2, .int x3, .int x4, .int x5, .int x6] [] M (some (.int q.1)) q.2) (x0 : Nat) (x1 : Nat) (x2 : Int32) (x3 : Int32) (x4 : Int32) (x5 : Int32) (x6 : Int32) (M : zMe) (q : (Int32 × zMe)) (h : f_X11_origins_b41 k6 x0 x1 x2 x3 x4 x5 x6 M = some q) : zW g mX11_origins 41 [.ref x0, .ref x1, .int x2, .int x3, .int x4, .int x5, .int x6] [] M (some (.int q.1)) q.2 := by
  unfold f_X11_origins_b41 at h
  obtain ⟨v1, hv⟩ : ∃ z : Int32, z = x6 + 1 := ⟨_, rfl⟩
  have h := zlet_use h hv
  refine z_iinc (v := v1) dX11_origins_41 (x := x6) rfl (by rw [hv]; rfl) ?_
  clear hv
  refine zeqL (L2 := [.ref x0, .ref x1, .int x2, .int x3, .int x4, .int x5, .int v1]) rfl ?_
  refine z_goto (tgt := 6) dX11_origins_44 (by decide) ?_
  exact hk6 _ _ _ _ _ _ _ _ _ h
def f_X11_origins_b6  : Nat → Nat → Nat → Int32 → Int32 → Int32 → Int32 → Int32 → zMe → Option (Int32 × zMe)
  | 0, _, _, _, _, _, _, _, _ => none
  | n + 1, x0, x1, x2, x3, x4, x5, x6, M =>
    (zgN M x0 [11] 0).bind fun a1 =>
    (zgI M a1 [2] 0).bind fun v1 =>
    if v1 ≤ x6 then (
      some (x5, M))
    else (
      (zob M x0 11).bind fun _ =>
      (f_X11_soundsSo x0 x1 x6 x2 x3 x4 M).bind fun q1 =>
      if q1.1 = 0 then (
        f_X11_origins_b41 (f_X11_origins_b6 n) x0 x1 x2 x3 x4 x5 x6 q1.2)
      else (
        zlet (x5 ||| ((1 : Int32) <<< (x6 &&& 31)) : Int32) fun v2 =>
        f_X11_origins_b41 (f_X11_origins_b6 n) x0 x1 x2 x3 x4 v2 x6 q1.2))
set_option maxHeartbeats 4000000 in
set_option maxRecDepth 100000 in
theorem s_X11_origins_b6 {g : zG} (hC : zC g)  : ∀ (n : Nat) (x0 : Nat) (x1 : Nat) (x2 : Int32) (x3 : Int32) (x4 : Int32) (x5 : Int32) (x6 : Int32) (M : zMe) (q : (Int32 × zMe)), f_X11_origins_b6  n x0 x1 x2 x3 x4 x5 x6 M = some q → zW g mX11_origins 6 [.ref x0, .ref x1, .int x2, .int x3, .int x4, .int x5, .int x6] [] M (some (.int q.1)) q.2 := by
  intro n
  induction n with
  | zero => intro x0 x1 x2 x3 x4 x5 x6 M q h; cases h
  | succ n ih =>
    intro x0 x1 x2 x3 x4 x5 x6 M q h
    rw [f_X11_origins_b6] at h
    refine z_iload (x := x6) rfl dX11_origins_6 ?_
    refine z_aload_n (x := x0) rfl dX11_origins_8 ?_
    obtain ⟨a1, h1, h⟩ := zbind h
    refine z_gN hC fs_X11_12 h1 dX11_origins_9 ?_
    obtain ⟨v1, h2, h⟩ := zbind h
    refine z_gI hC fs_X11_76 h2 dX11_origins_12 ?_
    refine z_icmp_ge (tgt := 47) dX11_origins_15 (by decide) (fun c1 => ?_) (fun c1 => ?_)
    · have h := zift h c1
      refine z_iload (x := x5) rfl dX11_origins_47 ?_
      obtain rfl := Option.some.inj h
      exact z_iret ⟨.int, rfl, rfl⟩ dX11_origins_49
    · have h := zife h c1
      refine z_aload_n (x := x0) rfl dX11_origins_18 ?_
      refine z_aload_n (x := x1) rfl dX11_origins_19 ?_
      refine z_iload (x := x6) rfl dX11_origins_20 ?_
      refine z_iload_n (x := x2) rfl dX11_origins_22 ?_
      refine z_iload_n (x := x3) rfl dX11_origins_23 ?_
      refine z_iload (x := x4) rfl dX11_origins_24 ?_
      obtain ⟨_, hb, h⟩ := zbind h
      obtain ⟨fs, hb⟩ := zob_some hb
      obtain ⟨q1, h3, h⟩ := zbind h
      refine z_callV (av := [.ref x1, .int x6, .int x2, .int x3, .int x4]) (rest := []) hC zcl_11 hb (s_X11_soundsSo hC h3) lk_X11_267 im_X11_soundsSo se_X11_soundsSo cd_X11_soundsSo ⟨by decide, by decide, (Nat.le_of_ble_eq_true rfl)⟩ dX11_origins_26 ?_
      clear hb fs
      refine zeqS (stk2 := [.int q1.1]) rfl ?_
      refine z_if_eq (tgt := 41) dX11_origins_29 (by decide) (fun c2 => ?_) (fun c2 => ?_)
      · have h := zift h c2
        exact s_X11_origins_b41 hC ih _ _ _ _ _ _ _ _ _ h
      · have h := zife h c2
        refine z_iload (x := x5) rfl dX11_origins_32 ?_
        refine z_iconst 1 (by decide) dX11_origins_34 ?_
        refine z_iload (x := x6) rfl dX11_origins_35 ?_
        refine z_ishl dX11_origins_37 ?_
        refine z_ior dX11_origins_38 ?_
        refine z_nameI (fun v2 hv => ?_)
        have h := zlet_use h hv
        clear hv
        refine z_istore dX11_origins_39 (by decide) ?_
        refine zeqL (L2 := [.ref x0, .ref x1, .int x2, .int x3, .int x4, .int v2, .int x6]) rfl ?_
        exact s_X11_origins_b41 hC ih _ _ _ _ _ _ _ _ _ h
def f_X11_origins (x0 : Nat) (x1 : Nat) (x2 : Int32) (x3 : Int32) (x4 : Int32) (M : zMe) : Option (Int32 × zMe) :=
  f_X11_origins_b6 zfu x0 x1 x2 x3 x4 0 0 M
set_option maxHeartbeats 4000000 in
set_option maxRecDepth 100000 in
theorem s_X11_origins {g : zG} (hC : zC g) {x0 : Nat} {x1 : Nat} {x2 : Int32} {x3 : Int32} {x4 : Int32} {M : zMe} {q : (Int32 × zMe)} (h : f_X11_origins x0 x1 x2 x3 x4 M = some q) : zMet g yX11_origins mX11_origins [.ref x0, .ref x1, .int x2, .int x3, .int x4] M (some (.int q.1)) q.2 := by
  refine z_entry (by decide +kernel) rfl rfl (Nat.le_of_ble_eq_true rfl) ?_
  refine zeqL (L2 := [.ref x0, .ref x1, .int x2, .int x3, .int x4, .retAddr 0, .retAddr 0]) rfl ?_
  unfold f_X11_origins at h
  refine z_iconst 0 (by decide) dX11_origins_0 ?_
  refine z_istore dX11_origins_1 (by decide) ?_
  refine zeqL (L2 := [.ref x0, .ref x1, .int x2, .int x3, .int x4, .int 0, .retAddr 0]) rfl ?_
  refine z_iconst 0 (by decide) dX11_origins_3 ?_
  refine z_istore dX11_origins_4 (by decide) ?_
  refine zeqL (L2 := [.ref x0, .ref x1, .int x2, .int x3, .int x4, .int 0, .int 0]) rfl ?_
  exact s_X11_origins_b6 hC _ _ _ _ _ _ _ _ _ _ h
def f_X11_which_b71 (k22 : Nat → Int32 → Int32 → Int32 → Int32 → Int32 → zMe → Option (Int32 × zMe)) (x0 : Nat) (x1 : Int32) (x2 : Int32) (x3 : Int32) (x4 : Int32) (x5 : Int32) (M : zMe) : Option (Int32 × zMe) :=
  zlet (x5 + 1) fun v1 =>
  k22 x0 x1 x2 x3 x4 v1 M
set_option maxHeartbeats 4000000 in
set_option maxRecDepth 100000 in
theorem s_X11_which_b71 {g : zG} (hC : zC g) {k22 : Nat → Int32 → Int32 → Int32 → Int32 → Int32 → zMe → Option (Int32 × zMe)} (hk22 : ∀ (x0 : Nat) (x1 : Int32) (x2 : Int32) (x3 : Int32) (x4 : Int32) (x5 : Int32) (M : zMe) (q : (Int32 × zMe)), k22 x0 x1 x2 x3 x4 x5 M = some q → zW g mX11_which 22 [.ref x0, .int x1, .int x2, .int x3, .int x4, .int x5, .retAddr 0] [] M (some (.int q.1)) q.2) (x0 : Nat) (x1 : Int32) (x2 : Int32) (x3 : Int32) (x4 : Int32) (x5 : Int32) (M : zMe) (q : (Int32 × zMe)) (h : f_X11_which_b71 k22 x0 x1 x2 x3 x4 x5 M = some q) : zW g mX11_which 71 [.ref x0, .int x1, .int x2, .int x3, .int x4, .int x5, .retAddr 0] [] M (some (.int q.1)) q.2 := by
  unfold f_X11_which_b71 at h
  obtain ⟨v1, hv⟩ : ∃ z : Int32, z = x5 + 1 := ⟨_, rfl⟩
  have h := zlet_use h hv
  refine z_iinc (v := v1) dX11_which_71 (x := x5) rfl (by rw [hv]; rfl) ?_
  clear hv
  refine zeqL (L2 := [.ref x0, .int x1, .int x2, .int x3, .int x4, .int v1, .retAddr 0]) rfl ?_
  refine z_goto (tgt := 22) dX11_which_74 (by decide) ?_
  exact hk22 _ _ _ _ _ _ _ _ h
def f_X11_which_b22  : Nat → Nat → Int32 → Int32 → Int32 → Int32 → Int32 → zMe → Option (Int32 × zMe)
  | 0, _, _, _, _, _, _, _ => none
  | n + 1, x0, x1, x2, x3, x4, x5, M =>
    (zgN M x0 [11] 0).bind fun a1 =>
    (zgI M a1 [2] 6).bind fun v1 =>
    if v1 ≤ x5 then (
      some (x4, M))
    else (
      (zgN M x0 [11] 0).bind fun a2 =>
      (zob M a2 2).bind fun _ =>
      (f_X2_dogAt a2 x5 M).bind fun q1 =>
      zcase q1.1 (
        f_X11_which_b71 (f_X11_which_b22 n) x0 x1 x2 x3 x4 x5 q1.2) (fun a3 =>
        (zob q1.2 x0 11).bind fun _ =>
        (f_X11_origins x0 a3 x1 x2 x3 q1.2).bind fun q2 =>
        if q2.1 = 0 then (
          f_X11_which_b71 (f_X11_which_b22 n) x0 x1 x2 x3 x4 x5 q2.2)
        else (
          zlet (x4 ||| ((1 : Int32) <<< (x5 &&& 31)) : Int32) fun v2 =>
          f_X11_which_b71 (f_X11_which_b22 n) x0 x1 x2 x3 v2 x5 q2.2)))
set_option maxHeartbeats 4000000 in
set_option maxRecDepth 100000 in
theorem s_X11_which_b22 {g : zG} (hC : zC g)  : ∀ (n : Nat) (x0 : Nat) (x1 : Int32) (x2 : Int32) (x3 : Int32) (x4 : Int32) (x5 : Int32) (M : zMe) (q : (Int32 × zMe)), f_X11_which_b22  n x0 x1 x2 x3 x4 x5 M = some q → zW g mX11_which 22 [.ref x0, .int x1, .int x2, .int x3, .int x4, .int x5, .retAddr 0] [] M (some (.int q.1)) q.2 := by
  intro n
  induction n with
  | zero => intro x0 x1 x2 x3 x4 x5 M q h; cases h
  | succ n ih =>
    intro x0 x1 x2 x3 x4 x5 M q h
    rw [f_X11_which_b22] at h
    refine z_iload (x := x5) rfl dX11_which_22 ?_
    refine z_aload_n (x := x0) rfl dX11_which_24 ?_
    obtain ⟨a1, h1, h⟩ := zbind h
    refine z_gN hC fs_X11_12 h1 dX11_which_25 ?_
    obtain ⟨v1, h2, h⟩ := zbind h
    refine z_gI hC fs_X11_155 h2 dX11_which_28 ?_
    refine z_icmp_ge (tgt := 77) dX11_which_31 (by decide) (fun c1 => ?_) (fun c1 => ?_)
    · have h := zift h c1
      refine z_iload (x := x4) rfl dX11_which_77 ?_
      obtain rfl := Option.some.inj h
      exact z_iret ⟨.int, rfl, rfl⟩ dX11_which_79
    · have h := zife h c1
      refine z_aload_n (x := x0) rfl dX11_which_34 ?_
      obtain ⟨a2, h3, h⟩ := zbind h
      refine z_gN hC fs_X11_12 h3 dX11_which_35 ?_
      refine z_iload (x := x5) rfl dX11_which_38 ?_
      obtain ⟨_, hb, h⟩ := zbind h
      obtain ⟨fs, hb⟩ := zob_some hb
      obtain ⟨q1, h4, h⟩ := zbind h
      refine z_callV (av := [.int x5]) (rest := []) hC zcl_2 hb (s_X2_dogAt hC h4) lk_X11_158 im_X2_dogAt se_X2_dogAt cd_X2_dogAt ⟨by decide, by decide, (Nat.le_of_ble_eq_true rfl)⟩ dX11_which_40 ?_
      clear hb fs
      refine zeqS (stk2 := [va_rf q1.1]) rfl ?_
      refine z_astoreO dX11_which_43 (by decide) ?_
      refine zeqL (L2 := [.ref x0, .int x1, .int x2, .int x3, .int x4, .int x5, va_rf q1.1]) rfl ?_
      refine z_aloadO (x := q1.1) rfl dX11_which_45 ?_
      obtain hx1 | ⟨a3, hx1⟩ := zon q1.1
      · have h := zcaseN h hx1
        rw [hx1]
        refine z_ifnullN (tgt := 71) dX11_which_47 (by decide) ?_
        refine zweak [true, true, true, true, true, true, false] ?_
        exact s_X11_which_b71 hC ih _ _ _ _ _ _ _ _ h
      · have h := zcaseS h hx1
        rw [hx1]
        refine z_ifnull dX11_which_47 ?_
        refine z_aload_n (x := x0) rfl dX11_which_50 ?_
        refine z_aload (x := a3) rfl dX11_which_51 ?_
        refine z_iload_n (x := x1) rfl dX11_which_53 ?_
        refine z_iload_n (x := x2) rfl dX11_which_54 ?_
        refine z_iload_n (x := x3) rfl dX11_which_55 ?_
        obtain ⟨_, hb, h⟩ := zbind h
        obtain ⟨fs, hb⟩ := zob_some hb
        obtain ⟨q2, h5, h⟩ := zbind h
        refine z_callV (av := [.ref a3, .int x1, .int x2, .int x3]) (rest := []) hC zcl_11 hb (s_X11_origins hC h5) lk_X11_233 im_X11_origins se_X11_origins cd_X11_origins ⟨by decide, by decide, (Nat.le_of_ble_eq_true rfl)⟩ dX11_which_56 ?_
        clear hb fs
        refine zeqS (stk2 := [.int q2.1]) rfl ?_
        refine z_if_eq (tgt := 71) dX11_which_59 (by decide) (fun c2 => ?_) (fun c2 => ?_)
        · have h := zift h c2
          refine zweak [true, true, true, true, true, true, false] ?_
          exact s_X11_which_b71 hC ih _ _ _ _ _ _ _ _ h
        · have h := zife h c2
          refine z_iload (x := x4) rfl dX11_which_62 ?_
          refine z_iconst 1 (by decide) dX11_which_64 ?_
          refine z_iload (x := x5) rfl dX11_which_65 ?_
          refine z_ishl dX11_which_67 ?_
          refine z_ior dX11_which_68 ?_
          refine z_nameI (fun v2 hv => ?_)
          have h := zlet_use h hv
          clear hv
          refine z_istore dX11_which_69 (by decide) ?_
          refine zeqL (L2 := [.ref x0, .int x1, .int x2, .int x3, .int v2, .int x5, .ref a3]) rfl ?_
          refine zweak [true, true, true, true, true, true, false] ?_
          exact s_X11_which_b71 hC ih _ _ _ _ _ _ _ _ h
def f_X11_which (x0 : Nat) (x1 : Int32) (x2 : Int32) (x3 : Int32) (M : zMe) : Option (Int32 × zMe) :=
  (f_X11_isHeard x1 x2 x3 M).bind fun q1 =>
  if q1.1 = 0 then (
    (zob q1.2 x0 11).bind fun _ =>
    (f_X11_refusedBad x0 (-2) q1.2).bind fun q2 =>
    some (q2.1, q2.2))
  else (
    f_X11_which_b22 zfu x0 x1 x2 x3 0 0 q1.2)
set_option maxHeartbeats 4000000 in
set_option maxRecDepth 100000 in
theorem s_X11_which {g : zG} (hC : zC g) {x0 : Nat} {x1 : Int32} {x2 : Int32} {x3 : Int32} {M : zMe} {q : (Int32 × zMe)} (h : f_X11_which x0 x1 x2 x3 M = some q) : zMet g yX11_which mX11_which [.ref x0, .int x1, .int x2, .int x3] M (some (.int q.1)) q.2 := by
  refine z_entry (by decide +kernel) rfl rfl (Nat.le_of_ble_eq_true rfl) ?_
  refine zeqL (L2 := [.ref x0, .int x1, .int x2, .int x3, .retAddr 0, .retAddr 0, .retAddr 0]) rfl ?_
  unfold f_X11_which at h
  refine z_iload_n (x := x1) rfl dX11_which_0 ?_
  refine z_iload_n (x := x2) rfl dX11_which_1 ?_
  refine z_iload_n (x := x3) rfl dX11_which_2 ?_
  obtain ⟨q1, h1, h⟩ := zbind h
  refine z_callS (av := [.int x1, .int x2, .int x3]) (rest := []) hC (s_X11_isHeard hC h1) lk_X11_229 st_X11_isHeard cd_X11_isHeard ⟨by decide, by decide, (Nat.le_of_ble_eq_true rfl)⟩ dX11_which_3 ?_
  refine zeqS (stk2 := [.int q1.1]) rfl ?_
  refine z_if_ne (tgt := 16) dX11_which_6 (by decide) (fun c1 => ?_) (fun c1 => ?_)
  · have h := zife h c1
    refine z_iconst 0 (by decide) dX11_which_16 ?_
    refine z_istore dX11_which_17 (by decide) ?_
    refine zeqL (L2 := [.ref x0, .int x1, .int x2, .int x3, .int 0, .retAddr 0, .retAddr 0]) rfl ?_
    refine z_iconst 0 (by decide) dX11_which_19 ?_
    refine z_istore dX11_which_20 (by decide) ?_
    refine zeqL (L2 := [.ref x0, .int x1, .int x2, .int x3, .int 0, .int 0, .retAddr 0]) rfl ?_
    exact s_X11_which_b22 hC _ _ _ _ _ _ _ _ _ h
  · have h := zift h c1
    refine z_aload_n (x := x0) rfl dX11_which_9 ?_
    refine z_bipush (-2) (by decide) dX11_which_10 ?_
    obtain ⟨_, hb, h⟩ := zbind h
    obtain ⟨fs, hb⟩ := zob_some hb
    obtain ⟨q2, h2, h⟩ := zbind h
    refine z_callV (av := [.int (-2)]) (rest := []) hC zcl_11 hb (s_X11_refusedBad hC h2) lk_X11_72 im_X11_refusedBad se_X11_refusedBad cd_X11_refusedBad ⟨by decide, by decide, (Nat.le_of_ble_eq_true rfl)⟩ dX11_which_12 ?_
    clear hb fs
    refine zeqS (stk2 := [.int q2.1]) rfl ?_
    obtain rfl := Option.some.inj h
    exact z_iret ⟨.int, rfl, rfl⟩ dX11_which_15
def f_X11_starts_b25  (x0 : Nat) (M : zMe) : Option (Int32 × zMe) :=
  (zob M x0 11).bind fun _ =>
  (f_X11_refusedBad x0 (-2) M).bind fun q1 =>
  some (q1.1, q1.2)
set_option maxHeartbeats 4000000 in
set_option maxRecDepth 100000 in
theorem s_X11_starts_b25 {g : zG} (hC : zC g)  (x0 : Nat) (M : zMe) (q : (Int32 × zMe)) (h : f_X11_starts_b25  x0 M = some q) : zW g mX11_starts 25 [.ref x0, .retAddr 0, .retAddr 0, .retAddr 0, .retAddr 0, .retAddr 0] [] M (some (.int q.1)) q.2 := by
  unfold f_X11_starts_b25 at h
  refine z_aload_n (x := x0) rfl dX11_starts_25 ?_
  refine z_bipush (-2) (by decide) dX11_starts_26 ?_
  obtain ⟨_, hb, h⟩ := zbind h
  obtain ⟨fs, hb⟩ := zob_some hb
  obtain ⟨q1, h1, h⟩ := zbind h
  refine z_callV (av := [.int (-2)]) (rest := []) hC zcl_11 hb (s_X11_refusedBad hC h1) lk_X11_72 im_X11_refusedBad se_X11_refusedBad cd_X11_refusedBad ⟨by decide, by decide, (Nat.le_of_ble_eq_true rfl)⟩ dX11_starts_28 ?_
  clear hb fs
  refine zeqS (stk2 := [.int q1.1]) rfl ?_
  obtain rfl := Option.some.inj h
  exact z_iret ⟨.int, rfl, rfl⟩ dX11_starts_31
def f_X11_starts (x0 : Nat) (x1 : Int32) (x2 : Int32) (x3 : Int32) (x4 : Int32) (M : zMe) : Option (Int32 × zMe) :=
  (zgN M x0 [11] 0).bind fun a1 =>
  (zob M a1 2).bind fun _ =>
  (f_X2_dogAt a1 x1 M).bind fun q1 =>
  zcase q1.1 (
    f_X11_starts_b25 x0 q1.2) (fun a2 =>
    (f_X11_isHeard x2 x3 x4 q1.2).bind fun q2 =>
    if q2.1 = 0 then (
      f_X11_starts_b25 x0 q2.2)
    else (
      (zob q2.2 x0 11).bind fun _ =>
      (f_X11_origins x0 a2 x2 x3 x4 q2.2).bind fun q3 =>
      some (q3.1, q3.2)))
set_option maxHeartbeats 4000000 in
set_option maxRecDepth 100000 in
theorem s_X11_starts {g : zG} (hC : zC g) {x0 : Nat} {x1 : Int32} {x2 : Int32} {x3 : Int32} {x4 : Int32} {M : zMe} {q : (Int32 × zMe)} (h : f_X11_starts x0 x1 x2 x3 x4 M = some q) : zMet g yX11_starts mX11_starts [.ref x0, .int x1, .int x2, .int x3, .int x4] M (some (.int q.1)) q.2 := by
  refine z_entry (by decide +kernel) rfl rfl (Nat.le_of_ble_eq_true rfl) ?_
  refine zeqL (L2 := [.ref x0, .int x1, .int x2, .int x3, .int x4, .retAddr 0]) rfl ?_
  unfold f_X11_starts at h
  refine z_aload_n (x := x0) rfl dX11_starts_0 ?_
  obtain ⟨a1, h1, h⟩ := zbind h
  refine z_gN hC fs_X11_12 h1 dX11_starts_1 ?_
  refine z_iload_n (x := x1) rfl dX11_starts_4 ?_
  obtain ⟨_, hb, h⟩ := zbind h
  obtain ⟨fs, hb⟩ := zob_some hb
  obtain ⟨q1, h2, h⟩ := zbind h
  refine z_callV (av := [.int x1]) (rest := []) hC zcl_2 hb (s_X2_dogAt hC h2) lk_X11_158 im_X2_dogAt se_X2_dogAt cd_X2_dogAt ⟨by decide, by decide, (Nat.le_of_ble_eq_true rfl)⟩ dX11_starts_5 ?_
  clear hb fs
  refine zeqS (stk2 := [va_rf q1.1]) rfl ?_
  refine z_astoreO dX11_starts_8 (by decide) ?_
  refine zeqL (L2 := [.ref x0, .int x1, .int x2, .int x3, .int x4, va_rf q1.1]) rfl ?_
  refine z_aloadO (x := q1.1) rfl dX11_starts_10 ?_
  obtain hx1 | ⟨a2, hx1⟩ := zon q1.1
  · have h := zcaseN h hx1
    rw [hx1]
    refine z_ifnullN (tgt := 25) dX11_starts_12 (by decide) ?_
    refine zweak [true, false, false, false, false, false] ?_
    exact s_X11_starts_b25 hC _ _ _ h
  · have h := zcaseS h hx1
    rw [hx1]
    refine z_ifnull dX11_starts_12 ?_
    refine z_iload_n (x := x2) rfl dX11_starts_15 ?_
    refine z_iload_n (x := x3) rfl dX11_starts_16 ?_
    refine z_iload (x := x4) rfl dX11_starts_17 ?_
    obtain ⟨q2, h3, h⟩ := zbind h
    refine z_callS (av := [.int x2, .int x3, .int x4]) (rest := []) hC (s_X11_isHeard hC h3) lk_X11_229 st_X11_isHeard cd_X11_isHeard ⟨by decide, by decide, (Nat.le_of_ble_eq_true rfl)⟩ dX11_starts_19 ?_
    refine zeqS (stk2 := [.int q2.1]) rfl ?_
    refine z_if_ne (tgt := 32) dX11_starts_22 (by decide) (fun c1 => ?_) (fun c1 => ?_)
    · have h := zife h c1
      refine z_aload_n (x := x0) rfl dX11_starts_32 ?_
      refine z_aload (x := a2) rfl dX11_starts_33 ?_
      refine z_iload_n (x := x2) rfl dX11_starts_35 ?_
      refine z_iload_n (x := x3) rfl dX11_starts_36 ?_
      refine z_iload (x := x4) rfl dX11_starts_37 ?_
      obtain ⟨_, hb, h⟩ := zbind h
      obtain ⟨fs, hb⟩ := zob_some hb
      obtain ⟨q3, h4, h⟩ := zbind h
      refine z_callV (av := [.ref a2, .int x2, .int x3, .int x4]) (rest := []) hC zcl_11 hb (s_X11_origins hC h4) lk_X11_233 im_X11_origins se_X11_origins cd_X11_origins ⟨by decide, by decide, (Nat.le_of_ble_eq_true rfl)⟩ dX11_starts_39 ?_
      clear hb fs
      refine zeqS (stk2 := [.int q3.1]) rfl ?_
      obtain rfl := Option.some.inj h
      exact z_iret ⟨.int, rfl, rfl⟩ dX11_starts_42
    · have h := zift h c1
      refine zweak [true, false, false, false, false, false] ?_
      exact s_X11_starts_b25 hC _ _ _ h
def f_J7_fill_d0a16_b6  : Nat → Nat → Int64 → Int32 → Int32 → zMe → Option zMe
  | 0, _, _, _, _, _ => none
  | n + 1, x0, x1, x3, x4, M =>
    if x4 ≤ x3 then (
      some M)
    else (
      (zwL M x0 x3 x1).bind fun M1 =>
      zlet (x3 + 1) fun v1 =>
      f_J7_fill_d0a16_b6 n x0 x1 v1 x4 M1)
set_option maxHeartbeats 4000000 in
set_option maxRecDepth 100000 in
theorem s_J7_fill_d0a16_b6 {g : zG} (hC : zC g)  : ∀ (n : Nat) (x0 : Nat) (x1 : Int64) (x3 : Int32) (x4 : Int32) (M : zMe) (q : zMe), f_J7_fill_d0a16_b6  n x0 x1 x3 x4 M = some q → zW g mJ7_fill_d0a16 6 [.ref x0, .long x1, .retAddr 0, .int x3, .int x4] [] M none q := by
  intro n
  induction n with
  | zero => intro x0 x1 x3 x4 M q h; cases h
  | succ n ih =>
    intro x0 x1 x3 x4 M q h
    rw [f_J7_fill_d0a16_b6] at h
    refine z_iload_n (x := x3) rfl dJ7_fill_d0a16_6 ?_
    refine z_iload (x := x4) rfl dJ7_fill_d0a16_7 ?_
    refine z_icmp_ge (tgt := 22) dJ7_fill_d0a16_9 (by decide) (fun c1 => ?_) (fun c1 => ?_)
    · have h := zift h c1
      obtain rfl := Option.some.inj h
      exact z_ret rfl dJ7_fill_d0a16_22
    · have h := zife h c1
      refine z_aload_n (x := x0) rfl dJ7_fill_d0a16_12 ?_
      refine z_iload_n (x := x3) rfl dJ7_fill_d0a16_13 ?_
      refine z_lload_n (x := x1) rfl dJ7_fill_d0a16_14 ?_
      obtain ⟨M1, h1, h⟩ := zbind h
      refine z_wL h1 dJ7_fill_d0a16_15 ?_
      obtain ⟨v1, hv⟩ : ∃ z : Int32, z = x3 + 1 := ⟨_, rfl⟩
      have h := zlet_use h hv
      refine z_iinc (v := v1) dJ7_fill_d0a16_16 (x := x3) rfl (by rw [hv]; rfl) ?_
      clear hv
      refine zeqL (L2 := [.ref x0, .long x1, .retAddr 0, .int v1, .int x4]) rfl ?_
      refine z_goto (tgt := 6) dJ7_fill_d0a16_19 (by decide) ?_
      exact ih _ _ _ _ _ _ h
def f_J7_fill_d0a16 (x0 : Nat) (x1 : Int64) (M : zMe) : Option zMe :=
  (zln M x0).bind fun v1 =>
  f_J7_fill_d0a16_b6 zfu x0 x1 0 v1 M
set_option maxHeartbeats 4000000 in
set_option maxRecDepth 100000 in
theorem s_J7_fill_d0a16 {g : zG} (hC : zC g) {x0 : Nat} {x1 : Int64} {M : zMe} {q : zMe} (h : f_J7_fill_d0a16 x0 x1 M = some q) : zMet g yJ7_fill_d0a16 mJ7_fill_d0a16 [.ref x0, .long x1] M none q := by
  refine z_entry (by decide +kernel) rfl rfl (Nat.le_of_ble_eq_true rfl) ?_
  refine zeqL (L2 := [.ref x0, .long x1, .retAddr 0, .retAddr 0, .retAddr 0]) rfl ?_
  unfold f_J7_fill_d0a16 at h
  refine z_iconst 0 (by decide) dJ7_fill_d0a16_0 ?_
  refine z_istore_n dJ7_fill_d0a16_1 (by decide) ?_
  refine zeqL (L2 := [.ref x0, .long x1, .retAddr 0, .int 0, .retAddr 0]) rfl ?_
  refine z_aload_n (x := x0) rfl dJ7_fill_d0a16_2 ?_
  obtain ⟨v1, h1, h⟩ := zbind h
  refine z_ln h1 dJ7_fill_d0a16_3 ?_
  refine z_istore dJ7_fill_d0a16_4 (by decide) ?_
  refine zeqL (L2 := [.ref x0, .long x1, .retAddr 0, .int 0, .int v1]) rfl ?_
  exact s_J7_fill_d0a16_b6 hC _ _ _ _ _ _ _ h
def f_X11_drawOne_b124 (k11 : Nat → Nat → Int32 → Int32 → Int32 → zMe → Option zMe) (x0 : Nat) (x1 : Nat) (x2 : Int32) (x3 : Int32) (x4 : Int32) (M : zMe) : Option zMe :=
  zlet (x4 + 1) fun v1 =>
  k11 x0 x1 x2 x3 v1 M
set_option maxHeartbeats 4000000 in
set_option maxRecDepth 100000 in
theorem s_X11_drawOne_b124 {g : zG} (hC : zC g) {k11 : Nat → Nat → Int32 → Int32 → Int32 → zMe → Option zMe} (hk11 : ∀ (x0 : Nat) (x1 : Nat) (x2 : Int32) (x3 : Int32) (x4 : Int32) (M : zMe) (q : zMe), k11 x0 x1 x2 x3 x4 M = some q → zW g mX11_drawOne 11 [.ref x0, .ref x1, .int x2, .int x3, .int x4, .retAddr 0, .retAddr 0] [] M none q) (x0 : Nat) (x1 : Nat) (x2 : Int32) (x3 : Int32) (x4 : Int32) (M : zMe) (q : zMe) (h : f_X11_drawOne_b124 k11 x0 x1 x2 x3 x4 M = some q) : zW g mX11_drawOne 124 [.ref x0, .ref x1, .int x2, .int x3, .int x4, .retAddr 0, .retAddr 0] [] M none q := by
  unfold f_X11_drawOne_b124 at h
  obtain ⟨v1, hv⟩ : ∃ z : Int32, z = x4 + 1 := ⟨_, rfl⟩
  have h := zlet_use h hv
  refine z_iinc (v := v1) dX11_drawOne_124 (x := x4) rfl (by rw [hv]; rfl) ?_
  clear hv
  refine zeqL (L2 := [.ref x0, .ref x1, .int x2, .int x3, .int v1, .retAddr 0, .retAddr 0]) rfl ?_
  refine z_goto (tgt := 11) dX11_drawOne_127 (by decide) ?_
  exact hk11 _ _ _ _ _ _ _ h
def f_X11_drawOne_b11  : Nat → Nat → Nat → Int32 → Int32 → Int32 → zMe → Option zMe
  | 0, _, _, _, _, _, _ => none
  | n + 1, x0, x1, x2, x3, x4, M =>
    (zgN M x0 [11] 0).bind fun a1 =>
    (zgI M a1 [2] 0).bind fun v1 =>
    if v1 ≤ x4 then (
      (zgN M x0 [11] 13).bind fun a2 =>
      (zgN M x0 [11] 12).bind fun a3 =>
      (zcp M a2 0 a3 0 5).bind fun M1 =>
      some M1)
    else (
      (zgN M x0 [11] 0).bind fun a4 =>
      (zgI M a4 [2] 1).bind fun v2 =>
      (fv_X5_next x1 x4 0 x2 v2 M).bind fun q1 =>
      (zgN q1.2 x0 [11] 0).bind fun a5 =>
      (zgI q1.2 a5 [2] 1).bind fun v3 =>
      (fv_X5_next x1 x4 1 x2 v3 q1.2).bind fun q2 =>
      (zgN q2.2 x0 [11] 0).bind fun a6 =>
      (zob q2.2 a6 2).bind fun _ =>
      (f_X2_isPlace a6 q1.1 q2.2).bind fun q3 =>
      if q3.1 = 0 then (
        f_X11_drawOne_b124 (f_X11_drawOne_b11 n) x0 x1 x2 x3 x4 q3.2)
      else (
        (zgN q3.2 x0 [11] 0).bind fun a7 =>
        (zob q3.2 a7 2).bind fun _ =>
        (f_X2_isPlace a7 q2.1 q3.2).bind fun q4 =>
        if q4.1 = 0 then (
          f_X11_drawOne_b124 (f_X11_drawOne_b11 n) x0 x1 x2 x3 x4 q4.2)
        else (
          (zgN q4.2 x0 [11] 13).bind fun a8 =>
          (zrL q4.2 a8 q1.1).bind fun v4 =>
          (zgN q4.2 x0 [11] 12).bind fun a9 =>
          (zrL q4.2 a9 x4).bind fun v5 =>
          (zwL q4.2 a8 q1.1 (v4 + (((10 - x3).toInt64) * v5))).bind fun M2 =>
          (zgN M2 x0 [11] 13).bind fun a10 =>
          (zrL M2 a10 q2.1).bind fun v6 =>
          (zgN M2 x0 [11] 12).bind fun a11 =>
          (zrL M2 a11 x4).bind fun v7 =>
          (zwL M2 a10 q2.1 (v6 + (x3.toInt64 * v7))).bind fun M3 =>
          f_X11_drawOne_b124 (f_X11_drawOne_b11 n) x0 x1 x2 x3 x4 M3)))
set_option maxHeartbeats 4000000 in
set_option maxRecDepth 100000 in
theorem s_X11_drawOne_b11 {g : zG} (hC : zC g)  : ∀ (n : Nat) (x0 : Nat) (x1 : Nat) (x2 : Int32) (x3 : Int32) (x4 : Int32) (M : zMe) (q : zMe), f_X11_drawOne_b11  n x0 x1 x2 x3 x4 M = some q → zW g mX11_drawOne 11 [.ref x0, .ref x1, .int x2, .int x3, .int x4, .retAddr 0, .retAddr 0] [] M none q := by
  intro n
  induction n with
  | zero => intro x0 x1 x2 x3 x4 M q h; cases h
  | succ n ih =>
    intro x0 x1 x2 x3 x4 M q h
    rw [f_X11_drawOne_b11] at h
    refine z_iload (x := x4) rfl dX11_drawOne_11 ?_
    refine z_aload_n (x := x0) rfl dX11_drawOne_13 ?_
    obtain ⟨a1, h1, h⟩ := zbind h
    refine z_gN hC fs_X11_12 h1 dX11_drawOne_14 ?_
    obtain ⟨v1, h2, h⟩ := zbind h
    refine z_gI hC fs_X11_76 h2 dX11_drawOne_17 ?_
    refine z_icmp_ge (tgt := 130) dX11_drawOne_20 (by decide) (fun c1 => ?_) (fun c1 => ?_)
    · have h := zift h c1
      refine z_aload_n (x := x0) rfl dX11_drawOne_130 ?_
      obtain ⟨a2, h3, h⟩ := zbind h
      refine z_gN hC fs_X11_69 h3 dX11_drawOne_131 ?_
      refine z_iconst 0 (by decide) dX11_drawOne_134 ?_
      refine z_aload_n (x := x0) rfl dX11_drawOne_135 ?_
      obtain ⟨a3, h4, h⟩ := zbind h
      refine z_gN hC fs_X11_65 h4 dX11_drawOne_136 ?_
      refine z_iconst 0 (by decide) dX11_drawOne_139 ?_
      refine z_iconst 5 (by decide) dX11_drawOne_140 ?_
      obtain ⟨M1, h5, h⟩ := zbind h
      refine z_cp hC lk_X11_271 nat_copy st_copy ini_sys (by decide) (Nat.le_of_ble_eq_true rfl) h5 dX11_drawOne_141 ?_
      obtain rfl := Option.some.inj h
      exact z_ret rfl dX11_drawOne_144
    · have h := zife h c1
      refine z_aload_n (x := x1) rfl dX11_drawOne_23 ?_
      refine z_iload (x := x4) rfl dX11_drawOne_24 ?_
      refine z_iconst 0 (by decide) dX11_drawOne_26 ?_
      refine z_iload_n (x := x2) rfl dX11_drawOne_27 ?_
      refine z_aload_n (x := x0) rfl dX11_drawOne_28 ?_
      obtain ⟨a4, h6, h⟩ := zbind h
      refine z_gN hC fs_X11_12 h6 dX11_drawOne_29 ?_
      obtain ⟨v2, h7, h⟩ := zbind h
      refine z_gI hC fs_X11_116 h7 dX11_drawOne_32 ?_
      obtain ⟨q1, h8, h⟩ := zbind h
      refine cv_X11_162 (rest := []) hC h8 ⟨rfl, ⟨by decide, by decide⟩, ⟨by decide, by decide⟩, ⟨by decide, by decide⟩, ⟨by decide, by decide⟩⟩ (Nat.le_of_ble_eq_true rfl) dX11_drawOne_35 ?_
      refine zeqS (stk2 := [.int q1.1]) rfl ?_
      refine z_istore dX11_drawOne_38 (by decide) ?_
      refine zeqL (L2 := [.ref x0, .ref x1, .int x2, .int x3, .int x4, .int q1.1, .retAddr 0]) rfl ?_
      refine z_aload_n (x := x1) rfl dX11_drawOne_40 ?_
      refine z_iload (x := x4) rfl dX11_drawOne_41 ?_
      refine z_iconst 1 (by decide) dX11_drawOne_43 ?_
      refine z_iload_n (x := x2) rfl dX11_drawOne_44 ?_
      refine z_aload_n (x := x0) rfl dX11_drawOne_45 ?_
      obtain ⟨a5, h9, h⟩ := zbind h
      refine z_gN hC fs_X11_12 h9 dX11_drawOne_46 ?_
      obtain ⟨v3, h10, h⟩ := zbind h
      refine z_gI hC fs_X11_116 h10 dX11_drawOne_49 ?_
      obtain ⟨q2, h11, h⟩ := zbind h
      refine cv_X11_162 (rest := []) hC h11 ⟨rfl, ⟨by decide, by decide⟩, ⟨by decide, by decide⟩, ⟨by decide, by decide⟩, ⟨by decide, by decide⟩⟩ (Nat.le_of_ble_eq_true rfl) dX11_drawOne_52 ?_
      refine zeqS (stk2 := [.int q2.1]) rfl ?_
      refine z_istore dX11_drawOne_55 (by decide) ?_
      refine zeqL (L2 := [.ref x0, .ref x1, .int x2, .int x3, .int x4, .int q1.1, .int q2.1]) rfl ?_
      refine z_aload_n (x := x0) rfl dX11_drawOne_57 ?_
      obtain ⟨a6, h12, h⟩ := zbind h
      refine z_gN hC fs_X11_12 h12 dX11_drawOne_58 ?_
      refine z_iload (x := q1.1) rfl dX11_drawOne_61 ?_
      obtain ⟨_, hb, h⟩ := zbind h
      obtain ⟨fs, hb⟩ := zob_some hb
      obtain ⟨q3, h13, h⟩ := zbind h
      refine z_callV (av := [.int q1.1]) (rest := []) hC zcl_2 hb (s_X2_isPlace hC h13) lk_X11_113 im_X2_isPlace se_X2_isPlace cd_X2_isPlace ⟨by decide, by decide, (Nat.le_of_ble_eq_true rfl)⟩ dX11_drawOne_63 ?_
      clear hb fs
      refine zeqS (stk2 := [.int q3.1]) rfl ?_
      refine z_if_eq (tgt := 124) dX11_drawOne_66 (by decide) (fun c2 => ?_) (fun c2 => ?_)
      · have h := zift h c2
        refine zweak [true, true, true, true, true, false, false] ?_
        exact s_X11_drawOne_b124 hC ih _ _ _ _ _ _ _ h
      · have h := zife h c2
        refine z_aload_n (x := x0) rfl dX11_drawOne_69 ?_
        obtain ⟨a7, h14, h⟩ := zbind h
        refine z_gN hC fs_X11_12 h14 dX11_drawOne_70 ?_
        refine z_iload (x := q2.1) rfl dX11_drawOne_73 ?_
        obtain ⟨_, hb, h⟩ := zbind h
        obtain ⟨fs, hb⟩ := zob_some hb
        obtain ⟨q4, h15, h⟩ := zbind h
        refine z_callV (av := [.int q2.1]) (rest := []) hC zcl_2 hb (s_X2_isPlace hC h15) lk_X11_113 im_X2_isPlace se_X2_isPlace cd_X2_isPlace ⟨by decide, by decide, (Nat.le_of_ble_eq_true rfl)⟩ dX11_drawOne_75 ?_
        clear hb fs
        refine zeqS (stk2 := [.int q4.1]) rfl ?_
        refine z_if_eq (tgt := 124) dX11_drawOne_78 (by decide) (fun c3 => ?_) (fun c3 => ?_)
        · have h := zift h c3
          refine zweak [true, true, true, true, true, false, false] ?_
          exact s_X11_drawOne_b124 hC ih _ _ _ _ _ _ _ h
        · have h := zife h c3
          refine z_aload_n (x := x0) rfl dX11_drawOne_81 ?_
          obtain ⟨a8, h16, h⟩ := zbind h
          refine z_gN hC fs_X11_69 h16 dX11_drawOne_82 ?_
          refine z_iload (x := q1.1) rfl dX11_drawOne_85 ?_
          refine z_dup2 rfl rfl dX11_drawOne_87 ?_
          obtain ⟨v4, h17, h⟩ := zbind h
          refine z_rL h17 dX11_drawOne_88 ?_
          refine z_bipush 10 (by decide) dX11_drawOne_89 ?_
          refine z_iload_n (x := x3) rfl dX11_drawOne_91 ?_
          refine z_isub dX11_drawOne_92 ?_
          refine z_i2l dX11_drawOne_93 ?_
          refine z_aload_n (x := x0) rfl dX11_drawOne_94 ?_
          obtain ⟨a9, h18, h⟩ := zbind h
          refine z_gN hC fs_X11_65 h18 dX11_drawOne_95 ?_
          refine z_iload (x := x4) rfl dX11_drawOne_98 ?_
          obtain ⟨v5, h19, h⟩ := zbind h
          refine z_rL h19 dX11_drawOne_100 ?_
          refine z_lmul dX11_drawOne_101 ?_
          refine z_ladd dX11_drawOne_102 ?_
          obtain ⟨M2, h20, h⟩ := zbind h
          refine z_wL h20 dX11_drawOne_103 ?_
          refine z_aload_n (x := x0) rfl dX11_drawOne_104 ?_
          obtain ⟨a10, h21, h⟩ := zbind h
          refine z_gN hC fs_X11_69 h21 dX11_drawOne_105 ?_
          refine z_iload (x := q2.1) rfl dX11_drawOne_108 ?_
          refine z_dup2 rfl rfl dX11_drawOne_110 ?_
          obtain ⟨v6, h22, h⟩ := zbind h
          refine z_rL h22 dX11_drawOne_111 ?_
          refine z_iload_n (x := x3) rfl dX11_drawOne_112 ?_
          refine z_i2l dX11_drawOne_113 ?_
          refine z_aload_n (x := x0) rfl dX11_drawOne_114 ?_
          obtain ⟨a11, h23, h⟩ := zbind h
          refine z_gN hC fs_X11_65 h23 dX11_drawOne_115 ?_
          refine z_iload (x := x4) rfl dX11_drawOne_118 ?_
          obtain ⟨v7, h24, h⟩ := zbind h
          refine z_rL h24 dX11_drawOne_120 ?_
          refine z_lmul dX11_drawOne_121 ?_
          refine z_ladd dX11_drawOne_122 ?_
          obtain ⟨M3, h25, h⟩ := zbind h
          refine z_wL h25 dX11_drawOne_123 ?_
          refine zweak [true, true, true, true, true, false, false] ?_
          exact s_X11_drawOne_b124 hC ih _ _ _ _ _ _ _ h
def f_X11_drawOne (x0 : Nat) (x1 : Nat) (x2 : Int32) (x3 : Int32) (M : zMe) : Option zMe :=
  (zgN M x0 [11] 13).bind fun a1 =>
  (f_J7_fill_d0a16 a1 (0 : Int64) M).bind fun q1 =>
  f_X11_drawOne_b11 zfu x0 x1 x2 x3 0 q1
set_option maxHeartbeats 4000000 in
set_option maxRecDepth 100000 in
theorem s_X11_drawOne {g : zG} (hC : zC g) {x0 : Nat} {x1 : Nat} {x2 : Int32} {x3 : Int32} {M : zMe} {q : zMe} (h : f_X11_drawOne x0 x1 x2 x3 M = some q) : zMet g yX11_drawOne mX11_drawOne [.ref x0, .ref x1, .int x2, .int x3] M none q := by
  refine z_entry (by decide +kernel) rfl rfl (Nat.le_of_ble_eq_true rfl) ?_
  refine zeqL (L2 := [.ref x0, .ref x1, .int x2, .int x3, .retAddr 0, .retAddr 0, .retAddr 0]) rfl ?_
  unfold f_X11_drawOne at h
  refine z_aload_n (x := x0) rfl dX11_drawOne_0 ?_
  obtain ⟨a1, h1, h⟩ := zbind h
  refine z_gN hC fs_X11_69 h1 dX11_drawOne_1 ?_
  refine z_lconst (0 : Int64) (by decide) dX11_drawOne_4 ?_
  obtain ⟨q1, h2, h⟩ := zbind h
  refine z_callS (av := [.ref a1, .long (0 : Int64)]) (rest := []) hC (s_J7_fill_d0a16 hC h2) lk_X11_237 st_J7_fill_d0a16 cd_J7_fill_d0a16 ⟨by decide, by decide, (Nat.le_of_ble_eq_true rfl)⟩ dX11_drawOne_5 ?_
  refine zeqS (stk2 := []) rfl ?_
  refine z_iconst 0 (by decide) dX11_drawOne_8 ?_
  refine z_istore dX11_drawOne_9 (by decide) ?_
  refine zeqL (L2 := [.ref x0, .ref x1, .int x2, .int x3, .int 0, .retAddr 0, .retAddr 0]) rfl ?_
  exact s_X11_drawOne_b11 hC _ _ _ _ _ _ _ _ h
def f_X11_commonDivisor_b45  (x4 : Int64) (M : zMe) : Option (Int64 × zMe) :=
  some (x4, M)
set_option maxHeartbeats 4000000 in
set_option maxRecDepth 100000 in
theorem s_X11_commonDivisor_b45 {g : zG} (hC : zC g)  (x4 : Int64) (M : zMe) (q : (Int64 × zMe)) (h : f_X11_commonDivisor_b45  x4 M = some q) : zW g mX11_commonDivisor 45 [.retAddr 0, .retAddr 0, .retAddr 0, .retAddr 0, .long x4, .retAddr 0, .retAddr 0, .retAddr 0, .retAddr 0, .retAddr 0, .retAddr 0] [] M (some (.long q.1)) q.2 := by
  unfold f_X11_commonDivisor_b45 at h
  refine z_lload (x := x4) rfl dX11_commonDivisor_45 ?_
  obtain rfl := Option.some.inj h
  exact z_lret rfl dX11_commonDivisor_47
def f_X11_commonDivisor_b9  : Nat → Int64 → Int64 → Int32 → zMe → Option (Int64 × zMe)
  | 0, _, _, _, _ => none
  | n + 1, x4, x6, x8, M =>
    if 128 ≤ x8 then (
      f_X11_commonDivisor_b45 x4 M)
    else (
      if (lg_cmp x6 (0 : Int64)) = 0 then (
        f_X11_commonDivisor_b45 x4 M)
      else (
        if x6 = 0 then none else
        zlet (x4 - x4 / x6 * x6) fun v1 =>
        zlet (x8 + 1) fun v2 =>
        f_X11_commonDivisor_b9 n x6 v1 v2 M))
set_option maxHeartbeats 4000000 in
set_option maxRecDepth 100000 in
theorem s_X11_commonDivisor_b9 {g : zG} (hC : zC g)  : ∀ (n : Nat) (x4 : Int64) (x6 : Int64) (x8 : Int32) (M : zMe) (q : (Int64 × zMe)), f_X11_commonDivisor_b9  n x4 x6 x8 M = some q → zW g mX11_commonDivisor 9 [.retAddr 0, .retAddr 0, .retAddr 0, .retAddr 0, .long x4, .retAddr 0, .long x6, .retAddr 0, .int x8, .retAddr 0, .retAddr 0] [] M (some (.long q.1)) q.2 := by
  intro n
  induction n with
  | zero => intro x4 x6 x8 M q h; cases h
  | succ n ih =>
    intro x4 x6 x8 M q h
    rw [f_X11_commonDivisor_b9] at h
    refine z_iload (x := x8) rfl dX11_commonDivisor_9 ?_
    refine z_sipush 128 (by decide) dX11_commonDivisor_11 ?_
    refine z_icmp_ge (tgt := 45) dX11_commonDivisor_14 (by decide) (fun c1 => ?_) (fun c1 => ?_)
    · have h := zift h c1
      refine zweak [false, false, false, false, true, false, false, false, false, false, false] ?_
      exact s_X11_commonDivisor_b45 hC _ _ _ h
    · have h := zife h c1
      refine z_lload (x := x6) rfl dX11_commonDivisor_17 ?_
      refine z_lconst (0 : Int64) (by decide) dX11_commonDivisor_19 ?_
      refine z_lcmp dX11_commonDivisor_20 ?_
      refine z_if_eq (tgt := 45) dX11_commonDivisor_21 (by decide) (fun c2 => ?_) (fun c2 => ?_)
      · have h := zift h c2
        refine zweak [false, false, false, false, true, false, false, false, false, false, false] ?_
        exact s_X11_commonDivisor_b45 hC _ _ _ h
      · have h := zife h c2
        refine z_lload (x := x4) rfl dX11_commonDivisor_24 ?_
        refine z_lload (x := x6) rfl dX11_commonDivisor_26 ?_
        have hne : ¬ x6 = 0 := fun z => by rw [if_pos z] at h; cases h
        have h := zife h hne
        refine z_lrem hne dX11_commonDivisor_28 ?_
        refine z_nameL (fun v1 hv => ?_)
        have h := zlet_use h hv
        clear hv
        refine z_lstore dX11_commonDivisor_29 (by decide) ?_
        refine zeqL (L2 := [.retAddr 0, .retAddr 0, .retAddr 0, .retAddr 0, .long x4, .retAddr 0, .long x6, .retAddr 0, .int x8, .long v1, .retAddr 0]) rfl ?_
        refine z_lload (x := x6) rfl dX11_commonDivisor_31 ?_
        refine z_lstore dX11_commonDivisor_33 (by decide) ?_
        refine zeqL (L2 := [.retAddr 0, .retAddr 0, .retAddr 0, .retAddr 0, .long x6, .retAddr 0, .long x6, .retAddr 0, .int x8, .long v1, .retAddr 0]) rfl ?_
        refine z_lload (x := v1) rfl dX11_commonDivisor_35 ?_
        refine z_lstore dX11_commonDivisor_37 (by decide) ?_
        refine zeqL (L2 := [.retAddr 0, .retAddr 0, .retAddr 0, .retAddr 0, .long x6, .retAddr 0, .long v1, .retAddr 0, .int x8, .long v1, .retAddr 0]) rfl ?_
        obtain ⟨v2, hv⟩ : ∃ z : Int32, z = x8 + 1 := ⟨_, rfl⟩
        have h := zlet_use h hv
        refine z_iinc (v := v2) dX11_commonDivisor_39 (x := x8) rfl (by rw [hv]; rfl) ?_
        clear hv
        refine zeqL (L2 := [.retAddr 0, .retAddr 0, .retAddr 0, .retAddr 0, .long x6, .retAddr 0, .long v1, .retAddr 0, .int v2, .long v1, .retAddr 0]) rfl ?_
        refine z_goto (tgt := 9) dX11_commonDivisor_42 (by decide) ?_
        refine zweak [false, false, false, false, true, false, true, false, true, false, false] ?_
        exact ih _ _ _ _ _ h
def f_X11_commonDivisor (x0 : Int64) (x2 : Int64) (M : zMe) : Option (Int64 × zMe) :=
  f_X11_commonDivisor_b9 zfu x0 x2 0 M
set_option maxHeartbeats 4000000 in
set_option maxRecDepth 100000 in
theorem s_X11_commonDivisor {g : zG} (hC : zC g) {x0 : Int64} {x2 : Int64} {M : zMe} {q : (Int64 × zMe)} (h : f_X11_commonDivisor x0 x2 M = some q) : zMet g yX11_commonDivisor mX11_commonDivisor [.long x0, .long x2] M (some (.long q.1)) q.2 := by
  refine z_entry (by decide +kernel) rfl rfl (Nat.le_of_ble_eq_true rfl) ?_
  refine zeqL (L2 := [.long x0, .retAddr 0, .long x2, .retAddr 0, .retAddr 0, .retAddr 0, .retAddr 0, .retAddr 0, .retAddr 0, .retAddr 0, .retAddr 0]) rfl ?_
  unfold f_X11_commonDivisor at h
  refine z_lload_n (x := x0) rfl dX11_commonDivisor_0 ?_
  refine z_lstore dX11_commonDivisor_1 (by decide) ?_
  refine zeqL (L2 := [.long x0, .retAddr 0, .long x2, .retAddr 0, .long x0, .retAddr 0, .retAddr 0, .retAddr 0, .retAddr 0, .retAddr 0, .retAddr 0]) rfl ?_
  refine z_lload_n (x := x2) rfl dX11_commonDivisor_3 ?_
  refine z_lstore dX11_commonDivisor_4 (by decide) ?_
  refine zeqL (L2 := [.long x0, .retAddr 0, .long x2, .retAddr 0, .long x0, .retAddr 0, .long x2, .retAddr 0, .retAddr 0, .retAddr 0, .retAddr 0]) rfl ?_
  refine z_iconst 0 (by decide) dX11_commonDivisor_6 ?_
  refine z_istore dX11_commonDivisor_7 (by decide) ?_
  refine zeqL (L2 := [.long x0, .retAddr 0, .long x2, .retAddr 0, .long x0, .retAddr 0, .long x2, .retAddr 0, .int 0, .retAddr 0, .retAddr 0]) rfl ?_
  refine zweak [false, false, false, false, true, false, true, false, true, false, false] ?_
  exact s_X11_commonDivisor_b9 hC _ _ _ _ _ _ h
def f_X11_keepFraction_b30   (M : zMe) : Option zMe :=
  some M
set_option maxHeartbeats 4000000 in
set_option maxRecDepth 100000 in
theorem s_X11_keepFraction_b30 {g : zG} (hC : zC g)   (M : zMe) (q : zMe) (h : f_X11_keepFraction_b30   M = some q) : zW g mX11_keepFraction 30 [.retAddr 0, .retAddr 0, .retAddr 0, .retAddr 0, .retAddr 0, .retAddr 0, .retAddr 0] [] M none q := by
  unfold f_X11_keepFraction_b30 at h
  obtain rfl := Option.some.inj h
  exact z_ret rfl dX11_keepFraction_30
def f_X11_keepFraction (x0 : Nat) (x1 : Int64) (x3 : Int64) (M : zMe) : Option zMe :=
  (f_X11_commonDivisor x1 x3 M).bind fun q1 =>
  if (lg_cmp q1.1 (0 : Int64)) ≤ 0 then (
    f_X11_keepFraction_b30 q1.2)
  else (
    if q1.1 = 0 then none else
    (zpL q1.2 x0 [11] 4 (x1 / q1.1)).bind fun M1 =>
    if q1.1 = 0 then none else
    (zpL M1 x0 [11] 5 (x3 / q1.1)).bind fun M2 =>
    f_X11_keepFraction_b30 M2)
set_option maxHeartbeats 4000000 in
set_option maxRecDepth 100000 in
theorem s_X11_keepFraction {g : zG} (hC : zC g) {x0 : Nat} {x1 : Int64} {x3 : Int64} {M : zMe} {q : zMe} (h : f_X11_keepFraction x0 x1 x3 M = some q) : zMet g yX11_keepFraction mX11_keepFraction [.ref x0, .long x1, .long x3] M none q := by
  refine z_entry (by decide +kernel) rfl rfl (Nat.le_of_ble_eq_true rfl) ?_
  refine zeqL (L2 := [.ref x0, .long x1, .retAddr 0, .long x3, .retAddr 0, .retAddr 0, .retAddr 0]) rfl ?_
  unfold f_X11_keepFraction at h
  refine z_lload_n (x := x1) rfl dX11_keepFraction_0 ?_
  refine z_lload_n (x := x3) rfl dX11_keepFraction_1 ?_
  obtain ⟨q1, h1, h⟩ := zbind h
  refine z_callS (av := [.long x1, .long x3]) (rest := []) hC (s_X11_commonDivisor hC h1) lk_X11_277 st_X11_commonDivisor cd_X11_commonDivisor ⟨by decide, by decide, (Nat.le_of_ble_eq_true rfl)⟩ dX11_keepFraction_2 ?_
  refine zeqS (stk2 := [.long q1.1]) rfl ?_
  refine z_lstore dX11_keepFraction_5 (by decide) ?_
  refine zeqL (L2 := [.ref x0, .long x1, .retAddr 0, .long x3, .retAddr 0, .long q1.1, .retAddr 0]) rfl ?_
  refine z_lload (x := q1.1) rfl dX11_keepFraction_7 ?_
  refine z_lconst (0 : Int64) (by decide) dX11_keepFraction_9 ?_
  refine z_lcmp dX11_keepFraction_10 ?_
  refine z_if_le (tgt := 30) dX11_keepFraction_11 (by decide) (fun c1 => ?_) (fun c1 => ?_)
  · have h := zift h c1
    refine zweak [false, false, false, false, false, false, false] ?_
    exact s_X11_keepFraction_b30 hC _ _ h
  · have h := zife h c1
    refine z_aload_n (x := x0) rfl dX11_keepFraction_14 ?_
    refine z_lload_n (x := x1) rfl dX11_keepFraction_15 ?_
    refine z_lload (x := q1.1) rfl dX11_keepFraction_16 ?_
    have hne : ¬ q1.1 = 0 := fun z => by rw [if_pos z] at h; cases h
    have h := zife h hne
    refine z_ldiv hne dX11_keepFraction_18 ?_
    obtain ⟨M1, h2, h⟩ := zbind h
    refine z_pL hC fp_X11_28 h2 dX11_keepFraction_19 ?_
    refine z_aload_n (x := x0) rfl dX11_keepFraction_22 ?_
    refine z_lload_n (x := x3) rfl dX11_keepFraction_23 ?_
    refine z_lload (x := q1.1) rfl dX11_keepFraction_24 ?_
    have hne : ¬ q1.1 = 0 := fun z => by rw [if_pos z] at h; cases h
    have h := zife h hne
    refine z_ldiv hne dX11_keepFraction_26 ?_
    obtain ⟨M2, h3, h⟩ := zbind h
    refine z_pL hC fp_X11_32 h3 dX11_keepFraction_27 ?_
    refine zweak [false, false, false, false, false, false, false] ?_
    exact s_X11_keepFraction_b30 hC _ _ h
def f_X11_drawn_b126  (x5 : Int64) (y0 : Int64) (y1 : Nat) (M : zMe) : Option (Int32 × zMe) :=
  (zob M y1 11).bind fun _ =>
  (f_X11_keepFraction y1 y0 x5 M).bind fun q1 =>
  some (1, q1)
set_option maxHeartbeats 4000000 in
set_option maxRecDepth 100000 in
theorem s_X11_drawn_b126 {g : zG} (hC : zC g)  (x5 : Int64) (y0 : Int64) (y1 : Nat) (M : zMe) (q : (Int32 × zMe)) (h : f_X11_drawn_b126  x5 y0 y1 M = some q) : zW g mX11_drawn 126 [.retAddr 0, .retAddr 0, .retAddr 0, .retAddr 0, .retAddr 0, .long x5, .retAddr 0, .retAddr 0] [.long y0, .ref y1] M (some (.int q.1)) q.2 := by
  unfold f_X11_drawn_b126 at h
  refine z_lload (x := x5) rfl dX11_drawn_126 ?_
  obtain ⟨_, hb, h⟩ := zbind h
  obtain ⟨fs, hb⟩ := zob_some hb
  obtain ⟨q1, h1, h⟩ := zbind h
  refine z_callV (av := [.long y0, .long x5]) (rest := []) hC zcl_11 hb (s_X11_keepFraction hC h1) lk_X11_248 im_X11_keepFraction se_X11_keepFraction cd_X11_keepFraction ⟨by decide, by decide, (Nat.le_of_ble_eq_true rfl)⟩ dX11_drawn_128 ?_
  clear hb fs
  refine zeqS (stk2 := []) rfl ?_
  refine z_iconst 1 (by decide) dX11_drawn_131 ?_
  obtain rfl := Option.some.inj h
  exact z_iret ⟨.int, rfl, rfl⟩ dX11_drawn_132
def f_X11_drawn_b63  : Nat → Nat → Int32 → Int32 → Nat → Int64 → Int32 → zMe → Option (Int32 × zMe)
  | 0, _, _, _, _, _, _, _ => none
  | n + 1, x0, x2, x3, x4, x5, x7, M =>
    if x2 ≤ x7 then (
      (zgN M x0 [11] 0).bind fun a1 =>
      (zgN M x0 [11] 0).bind fun a2 =>
      (zgI M a2 [2] 2).bind fun v1 =>
      (zob M a1 2).bind fun _ =>
      (f_X2_isPlace a1 v1 M).bind fun q1 =>
      if q1.1 = 0 then (
        f_X11_drawn_b126 x5 (0 : Int64) x0 q1.2)
      else (
        (zgN q1.2 x0 [11] 12).bind fun a3 =>
        (zgN q1.2 x0 [11] 0).bind fun a4 =>
        (zgI q1.2 a4 [2] 2).bind fun v2 =>
        (zrL q1.2 a3 v2).bind fun v3 =>
        f_X11_drawn_b126 x5 v3 x0 q1.2))
    else (
      (zob M x0 11).bind fun _ =>
      (f_X11_drawOne x0 x4 x7 x3 M).bind fun q2 =>
      zlet (x5 * (10 : Int64) : Int64) fun v4 =>
      zlet (x7 + 1) fun v5 =>
      f_X11_drawn_b63 n x0 x2 x3 x4 v4 v5 q2)
set_option maxHeartbeats 4000000 in
set_option maxRecDepth 100000 in
theorem s_X11_drawn_b63 {g : zG} (hC : zC g)  : ∀ (n : Nat) (x0 : Nat) (x2 : Int32) (x3 : Int32) (x4 : Nat) (x5 : Int64) (x7 : Int32) (M : zMe) (q : (Int32 × zMe)), f_X11_drawn_b63  n x0 x2 x3 x4 x5 x7 M = some q → zW g mX11_drawn 63 [.ref x0, .retAddr 0, .int x2, .int x3, .ref x4, .long x5, .retAddr 0, .int x7] [] M (some (.int q.1)) q.2 := by
  intro n
  induction n with
  | zero => intro x0 x2 x3 x4 x5 x7 M q h; cases h
  | succ n ih =>
    intro x0 x2 x3 x4 x5 x7 M q h
    rw [f_X11_drawn_b63] at h
    refine z_iload (x := x7) rfl dX11_drawn_63 ?_
    refine z_iload_n (x := x2) rfl dX11_drawn_65 ?_
    refine z_icmp_ge (tgt := 92) dX11_drawn_66 (by decide) (fun c1 => ?_) (fun c1 => ?_)
    · have h := zift h c1
      refine z_aload_n (x := x0) rfl dX11_drawn_92 ?_
      refine z_aload_n (x := x0) rfl dX11_drawn_93 ?_
      obtain ⟨a1, h1, h⟩ := zbind h
      refine z_gN hC fs_X11_12 h1 dX11_drawn_94 ?_
      refine z_aload_n (x := x0) rfl dX11_drawn_97 ?_
      obtain ⟨a2, h2, h⟩ := zbind h
      refine z_gN hC fs_X11_12 h2 dX11_drawn_98 ?_
      obtain ⟨v1, h3, h⟩ := zbind h
      refine z_gI hC fs_X11_129 h3 dX11_drawn_101 ?_
      obtain ⟨_, hb, h⟩ := zbind h
      obtain ⟨fs, hb⟩ := zob_some hb
      obtain ⟨q1, h4, h⟩ := zbind h
      refine z_callV (av := [.int v1]) (rest := [.ref x0]) hC zcl_2 hb (s_X2_isPlace hC h4) lk_X11_113 im_X2_isPlace se_X2_isPlace cd_X2_isPlace ⟨by decide, by decide, (Nat.le_of_ble_eq_true rfl)⟩ dX11_drawn_104 ?_
      clear hb fs
      refine zeqS (stk2 := [.int q1.1, .ref x0]) rfl ?_
      refine z_if_eq (tgt := 125) dX11_drawn_107 (by decide) (fun c2 => ?_) (fun c2 => ?_)
      · have h := zift h c2
        refine z_lconst (0 : Int64) (by decide) dX11_drawn_125 ?_
        refine zweak [false, false, false, false, false, true, false, false] ?_
        exact s_X11_drawn_b126 hC _ _ _ _ _ h
      · have h := zife h c2
        refine z_aload_n (x := x0) rfl dX11_drawn_110 ?_
        obtain ⟨a3, h5, h⟩ := zbind h
        refine z_gN hC fs_X11_65 h5 dX11_drawn_111 ?_
        refine z_aload_n (x := x0) rfl dX11_drawn_114 ?_
        obtain ⟨a4, h6, h⟩ := zbind h
        refine z_gN hC fs_X11_12 h6 dX11_drawn_115 ?_
        obtain ⟨v2, h7, h⟩ := zbind h
        refine z_gI hC fs_X11_129 h7 dX11_drawn_118 ?_
        obtain ⟨v3, h8, h⟩ := zbind h
        refine z_rL h8 dX11_drawn_121 ?_
        refine z_goto (tgt := 126) dX11_drawn_122 (by decide) ?_
        refine zweak [false, false, false, false, false, true, false, false] ?_
        exact s_X11_drawn_b126 hC _ _ _ _ _ h
    · have h := zife h c1
      refine z_aload_n (x := x0) rfl dX11_drawn_69 ?_
      refine z_aload (x := x4) rfl dX11_drawn_70 ?_
      refine z_iload (x := x7) rfl dX11_drawn_72 ?_
      refine z_iload_n (x := x3) rfl dX11_drawn_74 ?_
      obtain ⟨_, hb, h⟩ := zbind h
      obtain ⟨fs, hb⟩ := zob_some hb
      obtain ⟨q2, h9, h⟩ := zbind h
      refine z_callV (av := [.ref x4, .int x7, .int x3]) (rest := []) hC zcl_11 hb (s_X11_drawOne hC h9) lk_X11_243 im_X11_drawOne se_X11_drawOne cd_X11_drawOne ⟨by decide, by decide, (Nat.le_of_ble_eq_true rfl)⟩ dX11_drawn_75 ?_
      clear hb fs
      refine zeqS (stk2 := []) rfl ?_
      refine z_lload (x := x5) rfl dX11_drawn_78 ?_
      refine z_ldc2 hC dX11_drawn_80 kl_X11_246 ?_
      refine z_lmul dX11_drawn_83 ?_
      refine z_nameL (fun v4 hv => ?_)
      have h := zlet_use h hv
      clear hv
      refine z_lstore dX11_drawn_84 (by decide) ?_
      refine zeqL (L2 := [.ref x0, .retAddr 0, .int x2, .int x3, .ref x4, .long v4, .retAddr 0, .int x7]) rfl ?_
      obtain ⟨v5, hv⟩ : ∃ z : Int32, z = x7 + 1 := ⟨_, rfl⟩
      have h := zlet_use h hv
      refine z_iinc (v := v5) dX11_drawn_86 (x := x7) rfl (by rw [hv]; rfl) ?_
      clear hv
      refine zeqL (L2 := [.ref x0, .retAddr 0, .int x2, .int x3, .ref x4, .long v4, .retAddr 0, .int v5]) rfl ?_
      refine z_goto (tgt := 63) dX11_drawn_89 (by decide) ?_
      exact ih _ _ _ _ _ _ _ _ h
def f_X11_drawn_b35  (x0 : Nat) (M : zMe) : Option (Int32 × zMe) :=
  (zob M x0 11).bind fun _ =>
  (f_X11_refusedBad x0 (-2) M).bind fun q1 =>
  some (q1.1, q1.2)
set_option maxHeartbeats 4000000 in
set_option maxRecDepth 100000 in
theorem s_X11_drawn_b35 {g : zG} (hC : zC g)  (x0 : Nat) (M : zMe) (q : (Int32 × zMe)) (h : f_X11_drawn_b35  x0 M = some q) : zW g mX11_drawn 35 [.ref x0, .retAddr 0, .retAddr 0, .retAddr 0, .retAddr 0, .retAddr 0, .retAddr 0, .retAddr 0] [] M (some (.int q.1)) q.2 := by
  unfold f_X11_drawn_b35 at h
  refine z_aload_n (x := x0) rfl dX11_drawn_35 ?_
  refine z_bipush (-2) (by decide) dX11_drawn_36 ?_
  obtain ⟨_, hb, h⟩ := zbind h
  obtain ⟨fs, hb⟩ := zob_some hb
  obtain ⟨q1, h1, h⟩ := zbind h
  refine z_callV (av := [.int (-2)]) (rest := []) hC zcl_11 hb (s_X11_refusedBad hC h1) lk_X11_72 im_X11_refusedBad se_X11_refusedBad cd_X11_refusedBad ⟨by decide, by decide, (Nat.le_of_ble_eq_true rfl)⟩ dX11_drawn_38 ?_
  clear hb fs
  refine zeqS (stk2 := [.int q1.1]) rfl ?_
  obtain rfl := Option.some.inj h
  exact z_iret ⟨.int, rfl, rfl⟩ dX11_drawn_41
def f_X11_drawn (x0 : Nat) (x1 : Int32) (x2 : Int32) (x3 : Int32) (M : zMe) : Option (Int32 × zMe) :=
  (zgN M x0 [11] 0).bind fun a1 =>
  (zob M a1 2).bind fun _ =>
  (f_X2_dogAt a1 x1 M).bind fun q1 =>
  zcase q1.1 (
    f_X11_drawn_b35 x0 q1.2) (fun a2 =>
    if x2 < 0 then (
      f_X11_drawn_b35 x0 q1.2)
    else (
      if 12 < x2 then (
        f_X11_drawn_b35 x0 q1.2)
      else (
        if x3 < 0 then (
          f_X11_drawn_b35 x0 q1.2)
        else (
          if x3 ≤ 10 then (
            (zgN q1.2 x0 [11] 0).bind fun a3 =>
            (zgI q1.2 a3 [2] 0).bind fun v1 =>
            (zgN q1.2 x0 [11] 12).bind fun a4 =>
            (f_J7_fill_d0a16 a4 (1 : Int64) q1.2).bind fun q2 =>
            f_X11_drawn_b63 zfu x0 x2 x3 a2 v1.toInt64 0 q2)
          else (
            f_X11_drawn_b35 x0 q1.2)))))
set_option maxHeartbeats 4000000 in
set_option maxRecDepth 100000 in
theorem s_X11_drawn {g : zG} (hC : zC g) {x0 : Nat} {x1 : Int32} {x2 : Int32} {x3 : Int32} {M : zMe} {q : (Int32 × zMe)} (h : f_X11_drawn x0 x1 x2 x3 M = some q) : zMet g yX11_drawn mX11_drawn [.ref x0, .int x1, .int x2, .int x3] M (some (.int q.1)) q.2 := by
  refine z_entry (by decide +kernel) rfl rfl (Nat.le_of_ble_eq_true rfl) ?_
  refine zeqL (L2 := [.ref x0, .int x1, .int x2, .int x3, .retAddr 0, .retAddr 0, .retAddr 0, .retAddr 0]) rfl ?_
  unfold f_X11_drawn at h
  refine z_aload_n (x := x0) rfl dX11_drawn_0 ?_
  obtain ⟨a1, h1, h⟩ := zbind h
  refine z_gN hC fs_X11_12 h1 dX11_drawn_1 ?_
  refine z_iload_n (x := x1) rfl dX11_drawn_4 ?_
  obtain ⟨_, hb, h⟩ := zbind h
  obtain ⟨fs, hb⟩ := zob_some hb
  obtain ⟨q1, h2, h⟩ := zbind h
  refine z_callV (av := [.int x1]) (rest := []) hC zcl_2 hb (s_X2_dogAt hC h2) lk_X11_158 im_X2_dogAt se_X2_dogAt cd_X2_dogAt ⟨by decide, by decide, (Nat.le_of_ble_eq_true rfl)⟩ dX11_drawn_5 ?_
  clear hb fs
  refine zeqS (stk2 := [va_rf q1.1]) rfl ?_
  refine z_astoreO dX11_drawn_8 (by decide) ?_
  refine zeqL (L2 := [.ref x0, .int x1, .int x2, .int x3, va_rf q1.1, .retAddr 0, .retAddr 0, .retAddr 0]) rfl ?_
  refine z_aloadO (x := q1.1) rfl dX11_drawn_10 ?_
  obtain hx1 | ⟨a2, hx1⟩ := zon q1.1
  · have h := zcaseN h hx1
    rw [hx1]
    refine z_ifnullN (tgt := 35) dX11_drawn_12 (by decide) ?_
    refine zweak [true, false, false, false, false, false, false, false] ?_
    exact s_X11_drawn_b35 hC _ _ _ h
  · have h := zcaseS h hx1
    rw [hx1]
    refine z_ifnull dX11_drawn_12 ?_
    refine z_iload_n (x := x2) rfl dX11_drawn_15 ?_
    refine z_if_lt (tgt := 35) dX11_drawn_16 (by decide) (fun c1 => ?_) (fun c1 => ?_)
    · have h := zift h c1
      refine zweak [true, false, false, false, false, false, false, false] ?_
      exact s_X11_drawn_b35 hC _ _ _ h
    · have h := zife h c1
      refine z_iload_n (x := x2) rfl dX11_drawn_19 ?_
      refine z_bipush 12 (by decide) dX11_drawn_20 ?_
      refine z_icmp_gt (tgt := 35) dX11_drawn_22 (by decide) (fun c2 => ?_) (fun c2 => ?_)
      · have h := zift h c2
        refine zweak [true, false, false, false, false, false, false, false] ?_
        exact s_X11_drawn_b35 hC _ _ _ h
      · have h := zife h c2
        refine z_iload_n (x := x3) rfl dX11_drawn_25 ?_
        refine z_if_lt (tgt := 35) dX11_drawn_26 (by decide) (fun c3 => ?_) (fun c3 => ?_)
        · have h := zift h c3
          refine zweak [true, false, false, false, false, false, false, false] ?_
          exact s_X11_drawn_b35 hC _ _ _ h
        · have h := zife h c3
          refine z_iload_n (x := x3) rfl dX11_drawn_29 ?_
          refine z_bipush 10 (by decide) dX11_drawn_30 ?_
          refine z_icmp_le (tgt := 42) dX11_drawn_32 (by decide) (fun c4 => ?_) (fun c4 => ?_)
          · have h := zift h c4
            refine z_aload_n (x := x0) rfl dX11_drawn_42 ?_
            obtain ⟨a3, h3, h⟩ := zbind h
            refine z_gN hC fs_X11_12 h3 dX11_drawn_43 ?_
            obtain ⟨v1, h4, h⟩ := zbind h
            refine z_gI hC fs_X11_76 h4 dX11_drawn_46 ?_
            refine z_i2l dX11_drawn_49 ?_
            refine z_lstore dX11_drawn_50 (by decide) ?_
            refine zeqL (L2 := [.ref x0, .int x1, .int x2, .int x3, .ref a2, .long v1.toInt64, .retAddr 0, .retAddr 0]) rfl ?_
            refine z_aload_n (x := x0) rfl dX11_drawn_52 ?_
            obtain ⟨a4, h5, h⟩ := zbind h
            refine z_gN hC fs_X11_65 h5 dX11_drawn_53 ?_
            refine z_lconst (1 : Int64) (by decide) dX11_drawn_56 ?_
            obtain ⟨q2, h6, h⟩ := zbind h
            refine z_callS (av := [.ref a4, .long (1 : Int64)]) (rest := []) hC (s_J7_fill_d0a16 hC h6) lk_X11_237 st_J7_fill_d0a16 cd_J7_fill_d0a16 ⟨by decide, by decide, (Nat.le_of_ble_eq_true rfl)⟩ dX11_drawn_57 ?_
            refine zeqS (stk2 := []) rfl ?_
            refine z_iconst 0 (by decide) dX11_drawn_60 ?_
            refine z_istore dX11_drawn_61 (by decide) ?_
            refine zeqL (L2 := [.ref x0, .int x1, .int x2, .int x3, .ref a2, .long v1.toInt64, .retAddr 0, .int 0]) rfl ?_
            refine zweak [true, false, true, true, true, true, false, true] ?_
            exact s_X11_drawn_b63 hC _ _ _ _ _ _ _ _ _ h
          · have h := zife h c4
            refine zweak [true, false, false, false, false, false, false, false] ?_
            exact s_X11_drawn_b35 hC _ _ _ h
def f_X11_part_b32  (y0 : Int64) (M : zMe) : Option (Int64 × zMe) :=
  some (y0, M)
set_option maxHeartbeats 4000000 in
set_option maxRecDepth 100000 in
theorem s_X11_part_b32 {g : zG} (hC : zC g)  (y0 : Int64) (M : zMe) (q : (Int64 × zMe)) (h : f_X11_part_b32  y0 M = some q) : zW g mX11_part 32 [.retAddr 0, .retAddr 0] [.long y0] M (some (.long q.1)) q.2 := by
  unfold f_X11_part_b32 at h
  obtain rfl := Option.some.inj h
  exact z_lret rfl dX11_part_32
def f_X11_part_b9  (x0 : Nat) (M : zMe) : Option (Int64 × zMe) :=
  (zob M x0 11).bind fun _ =>
  (f_X11_refusedBad x0 (-2) M).bind fun q1 =>
  some (q1.1.toInt64, q1.2)
set_option maxHeartbeats 4000000 in
set_option maxRecDepth 100000 in
theorem s_X11_part_b9 {g : zG} (hC : zC g)  (x0 : Nat) (M : zMe) (q : (Int64 × zMe)) (h : f_X11_part_b9  x0 M = some q) : zW g mX11_part 9 [.ref x0, .retAddr 0] [] M (some (.long q.1)) q.2 := by
  unfold f_X11_part_b9 at h
  refine z_aload_n (x := x0) rfl dX11_part_9 ?_
  refine z_bipush (-2) (by decide) dX11_part_10 ?_
  obtain ⟨_, hb, h⟩ := zbind h
  obtain ⟨fs, hb⟩ := zob_some hb
  obtain ⟨q1, h1, h⟩ := zbind h
  refine z_callV (av := [.int (-2)]) (rest := []) hC zcl_11 hb (s_X11_refusedBad hC h1) lk_X11_72 im_X11_refusedBad se_X11_refusedBad cd_X11_refusedBad ⟨by decide, by decide, (Nat.le_of_ble_eq_true rfl)⟩ dX11_part_12 ?_
  clear hb fs
  refine zeqS (stk2 := [.int q1.1]) rfl ?_
  refine z_i2l dX11_part_15 ?_
  obtain rfl := Option.some.inj h
  exact z_lret rfl dX11_part_16
def f_X11_part (x0 : Nat) (x1 : Int32) (M : zMe) : Option (Int64 × zMe) :=
  if x1 < 0 then (
    f_X11_part_b9 x0 M)
  else (
    if x1 ≤ 1 then (
      if x1 = 0 then (
        (zgL M x0 [11] 4).bind fun v1 =>
        f_X11_part_b32 v1 M)
      else (
        (zgL M x0 [11] 5).bind fun v2 =>
        f_X11_part_b32 v2 M))
    else (
      f_X11_part_b9 x0 M))
set_option maxHeartbeats 4000000 in
set_option maxRecDepth 100000 in
theorem s_X11_part {g : zG} (hC : zC g) {x0 : Nat} {x1 : Int32} {M : zMe} {q : (Int64 × zMe)} (h : f_X11_part x0 x1 M = some q) : zMet g yX11_part mX11_part [.ref x0, .int x1] M (some (.long q.1)) q.2 := by
  refine z_entry (by decide +kernel) rfl rfl (Nat.le_of_ble_eq_true rfl) ?_
  refine zeqL (L2 := [.ref x0, .int x1]) rfl ?_
  unfold f_X11_part at h
  refine z_iload_n (x := x1) rfl dX11_part_0 ?_
  refine z_if_lt (tgt := 9) dX11_part_1 (by decide) (fun c1 => ?_) (fun c1 => ?_)
  · have h := zift h c1
    refine zweak [true, false] ?_
    exact s_X11_part_b9 hC _ _ _ h
  · have h := zife h c1
    refine z_iload_n (x := x1) rfl dX11_part_4 ?_
    refine z_iconst 1 (by decide) dX11_part_5 ?_
    refine z_icmp_le (tgt := 17) dX11_part_6 (by decide) (fun c2 => ?_) (fun c2 => ?_)
    · have h := zift h c2
      refine z_iload_n (x := x1) rfl dX11_part_17 ?_
      refine z_if_ne (tgt := 28) dX11_part_18 (by decide) (fun c3 => ?_) (fun c3 => ?_)
      · have h := zife h c3
        refine z_aload_n (x := x0) rfl dX11_part_28 ?_
        obtain ⟨v2, h2, h⟩ := zbind h
        refine z_gL hC fs_X11_32 h2 dX11_part_29 ?_
        refine zweak [false, false] ?_
        exact s_X11_part_b32 hC _ _ _ h
      · have h := zift h c3
        refine z_aload_n (x := x0) rfl dX11_part_21 ?_
        obtain ⟨v1, h1, h⟩ := zbind h
        refine z_gL hC fs_X11_28 h1 dX11_part_22 ?_
        refine z_goto (tgt := 32) dX11_part_25 (by decide) ?_
        refine zweak [false, false] ?_
        exact s_X11_part_b32 hC _ _ _ h
    · have h := zife h c2
      refine zweak [true, false] ?_
      exact s_X11_part_b9 hC _ _ _ h
def f_X11_image_b9  (x0 : Nat) (M : zMe) : Option (Int32 × zMe) :=
  (zob M x0 11).bind fun _ =>
  (f_X11_refusedBad x0 (-2) M).bind fun q1 =>
  some (q1.1, q1.2)
set_option maxHeartbeats 4000000 in
set_option maxRecDepth 100000 in
theorem s_X11_image_b9 {g : zG} (hC : zC g)  (x0 : Nat) (M : zMe) (q : (Int32 × zMe)) (h : f_X11_image_b9  x0 M = some q) : zW g mX11_image 9 [.ref x0, .retAddr 0] [] M (some (.int q.1)) q.2 := by
  unfold f_X11_image_b9 at h
  refine z_aload_n (x := x0) rfl dX11_image_9 ?_
  refine z_bipush (-2) (by decide) dX11_image_10 ?_
  obtain ⟨_, hb, h⟩ := zbind h
  obtain ⟨fs, hb⟩ := zob_some hb
  obtain ⟨q1, h1, h⟩ := zbind h
  refine z_callV (av := [.int (-2)]) (rest := []) hC zcl_11 hb (s_X11_refusedBad hC h1) lk_X11_72 im_X11_refusedBad se_X11_refusedBad cd_X11_refusedBad ⟨by decide, by decide, (Nat.le_of_ble_eq_true rfl)⟩ dX11_image_12 ?_
  clear hb fs
  refine zeqS (stk2 := [.int q1.1]) rfl ?_
  obtain rfl := Option.some.inj h
  exact z_iret ⟨.int, rfl, rfl⟩ dX11_image_15
def f_X11_image (x0 : Nat) (x1 : Int32) (M : zMe) : Option (Int32 × zMe) :=
  if x1 < 0 then (
    f_X11_image_b9 x0 M)
  else (
    if x1 < 2 then (
      (zgN M x0 [11] 1).bind fun a1 =>
      (zgN M x0 [11] 0).bind fun a2 =>
      (zob M a2 2).bind fun _ =>
      (f_X2_copy a2 M).bind fun q1 =>
      (zwR q1.2 a1 x1 q1.1 "OneWhistle$Hill" [2]).bind fun M1 =>
      some (1, M1))
    else (
      f_X11_image_b9 x0 M))
set_option maxHeartbeats 4000000 in
set_option maxRecDepth 100000 in
theorem s_X11_image {g : zG} (hC : zC g) {x0 : Nat} {x1 : Int32} {M : zMe} {q : (Int32 × zMe)} (h : f_X11_image x0 x1 M = some q) : zMet g yX11_image mX11_image [.ref x0, .int x1] M (some (.int q.1)) q.2 := by
  refine z_entry (by decide +kernel) rfl rfl (Nat.le_of_ble_eq_true rfl) ?_
  refine zeqL (L2 := [.ref x0, .int x1]) rfl ?_
  unfold f_X11_image at h
  refine z_iload_n (x := x1) rfl dX11_image_0 ?_
  refine z_if_lt (tgt := 9) dX11_image_1 (by decide) (fun c1 => ?_) (fun c1 => ?_)
  · have h := zift h c1
    refine zweak [true, false] ?_
    exact s_X11_image_b9 hC _ _ _ h
  · have h := zife h c1
    refine z_iload_n (x := x1) rfl dX11_image_4 ?_
    refine z_iconst 2 (by decide) dX11_image_5 ?_
    refine z_icmp_lt (tgt := 16) dX11_image_6 (by decide) (fun c2 => ?_) (fun c2 => ?_)
    · have h := zift h c2
      refine z_aload_n (x := x0) rfl dX11_image_16 ?_
      obtain ⟨a1, h1, h⟩ := zbind h
      refine z_gN hC fs_X11_16 h1 dX11_image_17 ?_
      refine z_iload_n (x := x1) rfl dX11_image_20 ?_
      refine z_aload_n (x := x0) rfl dX11_image_21 ?_
      obtain ⟨a2, h2, h⟩ := zbind h
      refine z_gN hC fs_X11_12 h2 dX11_image_22 ?_
      obtain ⟨_, hb, h⟩ := zbind h
      obtain ⟨fs, hb⟩ := zob_some hb
      obtain ⟨q1, h3, h⟩ := zbind h
      refine z_callV (av := []) (rest := [.int x1, .ref a1]) hC zcl_2 hb (s_X2_copy hC h3) lk_X11_252 im_X2_copy se_X2_copy cd_X2_copy ⟨by decide, by decide, (Nat.le_of_ble_eq_true rfl)⟩ dX11_image_25 ?_
      clear hb fs
      refine zeqS (stk2 := [va_rf q1.1, .int x1, .ref a1]) rfl ?_
      obtain ⟨M1, h4, h⟩ := zbind h
      refine z_wR hC ca_2 h4 dX11_image_28 ?_
      refine z_iconst 1 (by decide) dX11_image_29 ?_
      obtain rfl := Option.some.inj h
      exact z_iret ⟨.int, rfl, rfl⟩ dX11_image_30
    · have h := zife h c2
      refine zweak [true, false] ?_
      exact s_X11_image_b9 hC _ _ _ h
def f_X11_from_b9  (x0 : Nat) (M : zMe) : Option (Int32 × zMe) :=
  (zob M x0 11).bind fun _ =>
  (f_X11_refusedBad x0 (-2) M).bind fun q1 =>
  some (q1.1, q1.2)
set_option maxHeartbeats 4000000 in
set_option maxRecDepth 100000 in
theorem s_X11_from_b9 {g : zG} (hC : zC g)  (x0 : Nat) (M : zMe) (q : (Int32 × zMe)) (h : f_X11_from_b9  x0 M = some q) : zW g mX11_from 9 [.ref x0, .retAddr 0, .retAddr 0] [] M (some (.int q.1)) q.2 := by
  unfold f_X11_from_b9 at h
  refine z_aload_n (x := x0) rfl dX11_from_9 ?_
  refine z_bipush (-2) (by decide) dX11_from_10 ?_
  obtain ⟨_, hb, h⟩ := zbind h
  obtain ⟨fs, hb⟩ := zob_some hb
  obtain ⟨q1, h1, h⟩ := zbind h
  refine z_callV (av := [.int (-2)]) (rest := []) hC zcl_11 hb (s_X11_refusedBad hC h1) lk_X11_72 im_X11_refusedBad se_X11_refusedBad cd_X11_refusedBad ⟨by decide, by decide, (Nat.le_of_ble_eq_true rfl)⟩ dX11_from_12 ?_
  clear hb fs
  refine zeqS (stk2 := [.int q1.1]) rfl ?_
  obtain rfl := Option.some.inj h
  exact z_iret ⟨.int, rfl, rfl⟩ dX11_from_15
def f_X11_from (x0 : Nat) (x1 : Int32) (M : zMe) : Option (Int32 × zMe) :=
  if x1 < 0 then (
    f_X11_from_b9 x0 M)
  else (
    if x1 < 2 then (
      (zgN M x0 [11] 1).bind fun a1 =>
      (zrR M a1 x1).bind fun o1 =>
      zcase o1 (
        (zob M x0 11).bind fun _ =>
        (f_X11_refusedNo x0 M).bind fun q1 =>
        some (q1.1, q1.2)) (fun a2 =>
        (zob M a2 2).bind fun _ =>
        (f_X2_copy a2 M).bind fun q2 =>
        (zpR q2.2 x0 [11] 0 q2.1).bind fun M1 =>
        some (1, M1)))
    else (
      f_X11_from_b9 x0 M))
set_option maxHeartbeats 4000000 in
set_option maxRecDepth 100000 in
theorem s_X11_from {g : zG} (hC : zC g) {x0 : Nat} {x1 : Int32} {M : zMe} {q : (Int32 × zMe)} (h : f_X11_from x0 x1 M = some q) : zMet g yX11_from mX11_from [.ref x0, .int x1] M (some (.int q.1)) q.2 := by
  refine z_entry (by decide +kernel) rfl rfl (Nat.le_of_ble_eq_true rfl) ?_
  refine zeqL (L2 := [.ref x0, .int x1, .retAddr 0]) rfl ?_
  unfold f_X11_from at h
  refine z_iload_n (x := x1) rfl dX11_from_0 ?_
  refine z_if_lt (tgt := 9) dX11_from_1 (by decide) (fun c1 => ?_) (fun c1 => ?_)
  · have h := zift h c1
    refine zweak [true, false, false] ?_
    exact s_X11_from_b9 hC _ _ _ h
  · have h := zife h c1
    refine z_iload_n (x := x1) rfl dX11_from_4 ?_
    refine z_iconst 2 (by decide) dX11_from_5 ?_
    refine z_icmp_lt (tgt := 16) dX11_from_6 (by decide) (fun c2 => ?_) (fun c2 => ?_)
    · have h := zift h c2
      refine z_aload_n (x := x0) rfl dX11_from_16 ?_
      obtain ⟨a1, h1, h⟩ := zbind h
      refine z_gN hC fs_X11_16 h1 dX11_from_17 ?_
      refine z_iload_n (x := x1) rfl dX11_from_20 ?_
      obtain ⟨o1, h2, h⟩ := zbind h
      refine z_rR h2 dX11_from_21 ?_
      refine z_astore_nO dX11_from_22 (by decide) ?_
      refine zeqL (L2 := [.ref x0, .int x1, va_rf o1]) rfl ?_
      refine z_aload_nO (x := o1) rfl dX11_from_23 ?_
      obtain hx1 | ⟨a2, hx1⟩ := zon o1
      · have h := zcaseN h hx1
        rw [hx1]
        refine z_ifnonnullN dX11_from_24 ?_
        refine z_aload_n (x := x0) rfl dX11_from_27 ?_
        obtain ⟨_, hb, h⟩ := zbind h
        obtain ⟨fs, hb⟩ := zob_some hb
        obtain ⟨q1, h3, h⟩ := zbind h
        refine z_callV (av := []) (rest := []) hC zcl_11 hb (s_X11_refusedNo hC h3) lk_X11_123 im_X11_refusedNo se_X11_refusedNo cd_X11_refusedNo ⟨by decide, by decide, (Nat.le_of_ble_eq_true rfl)⟩ dX11_from_28 ?_
        clear hb fs
        refine zeqS (stk2 := [.int q1.1]) rfl ?_
        obtain rfl := Option.some.inj h
        exact z_iret ⟨.int, rfl, rfl⟩ dX11_from_31
      · have h := zcaseS h hx1
        rw [hx1]
        refine z_ifnonnull (tgt := 32) dX11_from_24 (by decide) ?_
        refine z_aload_n (x := x0) rfl dX11_from_32 ?_
        refine z_aload_n (x := a2) rfl dX11_from_33 ?_
        obtain ⟨_, hb, h⟩ := zbind h
        obtain ⟨fs, hb⟩ := zob_some hb
        obtain ⟨q2, h4, h⟩ := zbind h
        refine z_callV (av := []) (rest := [.ref x0]) hC zcl_2 hb (s_X2_copy hC h4) lk_X11_252 im_X2_copy se_X2_copy cd_X2_copy ⟨by decide, by decide, (Nat.le_of_ble_eq_true rfl)⟩ dX11_from_34 ?_
        clear hb fs
        refine zeqS (stk2 := [va_rf q2.1, .ref x0]) rfl ?_
        obtain ⟨M1, h5, h⟩ := zbind h
        refine z_pRo hC fp_X11_12 h5 dX11_from_37 ?_
        refine z_iconst 1 (by decide) dX11_from_40 ?_
        obtain rfl := Option.some.inj h
        exact z_iret ⟨.int, rfl, rfl⟩ dX11_from_41
    · have h := zife h c2
      refine zweak [true, false, false] ?_
      exact s_X11_from_b9 hC _ _ _ h
def f_X11_status (x0 : Nat) (x1 : Int32) (M : zMe) : Option (Int32 × zMe) :=
  if x1 = 0 then (
    (zgI M x0 [11] 6).bind fun v1 =>
    some (v1, M))
  else (
    if x1 = 1 then (
      (zgI M x0 [11] 7).bind fun v2 =>
      some (v2, M))
    else (
      if x1 = 2 then (
        (zgI M x0 [11] 8).bind fun v3 =>
        some (v3, M))
      else (
        (zob M x0 11).bind fun _ =>
        (f_X11_refusedBad x0 (-1) M).bind fun q1 =>
        some (q1.1, q1.2))))
set_option maxHeartbeats 4000000 in
set_option maxRecDepth 100000 in
theorem s_X11_status {g : zG} (hC : zC g) {x0 : Nat} {x1 : Int32} {M : zMe} {q : (Int32 × zMe)} (h : f_X11_status x0 x1 M = some q) : zMet g yX11_status mX11_status [.ref x0, .int x1] M (some (.int q.1)) q.2 := by
  refine z_entry (by decide +kernel) rfl rfl (Nat.le_of_ble_eq_true rfl) ?_
  refine zeqL (L2 := [.ref x0, .int x1]) rfl ?_
  unfold f_X11_status at h
  refine z_iload_n (x := x1) rfl dX11_status_0 ?_
  by_cases c1 : x1 = 0
  · have h := zift h c1
    refine z_tabIn (tgt := 28) 0 dX11_status_1 c1 (by decide) (by decide) rfl (by decide) ?_
    refine z_aload_n (x := x0) rfl dX11_status_28 ?_
    obtain ⟨v1, h1, h⟩ := zbind h
    refine z_gI hC fs_X11_35 h1 dX11_status_29 ?_
    obtain rfl := Option.some.inj h
    exact z_iret ⟨.int, rfl, rfl⟩ dX11_status_32
  · have h := zife h c1
    by_cases c2 : x1 = 1
    · have h := zift h c2
      refine z_tabIn (tgt := 33) 1 dX11_status_1 c2 (by decide) (by decide) rfl (by decide) ?_
      refine z_aload_n (x := x0) rfl dX11_status_33 ?_
      obtain ⟨v2, h2, h⟩ := zbind h
      refine z_gI hC fs_X11_38 h2 dX11_status_34 ?_
      obtain rfl := Option.some.inj h
      exact z_iret ⟨.int, rfl, rfl⟩ dX11_status_37
    · have h := zife h c2
      by_cases c3 : x1 = 2
      · have h := zift h c3
        refine z_tabIn (tgt := 38) 2 dX11_status_1 c3 (by decide) (by decide) rfl (by decide) ?_
        refine z_aload_n (x := x0) rfl dX11_status_38 ?_
        obtain ⟨v3, h3, h⟩ := zbind h
        refine z_gI hC fs_X11_41 h3 dX11_status_39 ?_
        obtain rfl := Option.some.inj h
        exact z_iret ⟨.int, rfl, rfl⟩ dX11_status_42
      · have h := zife h c3
        refine z_tabOut (tgt := 43) 2 dX11_status_1 (by decide) (by decide) (fun j hj => ?_) (by decide) ?_
        · rcases (show j = 0 ∨ j = 1 ∨ j = 2 by omega) with rfl | rfl | rfl
          · exact c1
          · exact c2
          · exact c3
        · refine z_aload_n (x := x0) rfl dX11_status_43 ?_
          refine z_iconst (-1) (by decide) dX11_status_44 ?_
          obtain ⟨_, hb, h⟩ := zbind h
          obtain ⟨fs, hb⟩ := zob_some hb
          obtain ⟨q1, h4, h⟩ := zbind h
          refine z_callV (av := [.int (-1)]) (rest := []) hC zcl_11 hb (s_X11_refusedBad hC h4) lk_X11_72 im_X11_refusedBad se_X11_refusedBad cd_X11_refusedBad ⟨by decide, by decide, (Nat.le_of_ble_eq_true rfl)⟩ dX11_status_45 ?_
          clear hb fs
          refine zeqS (stk2 := [.int q1.1]) rfl ?_
          obtain rfl := Option.some.inj h
          exact z_iret ⟨.int, rfl, rfl⟩ dX11_status_48
def f_X11_count (x0 : Nat) (x1 : Int32) (M : zMe) : Option (Int32 × zMe) :=
  if x1 = 0 then (
    (zgN M x0 [11] 0).bind fun a1 =>
    (zgI M a1 [2] 0).bind fun v1 =>
    some (v1, M))
  else (
    if x1 = 1 then (
      (zgN M x0 [11] 0).bind fun a2 =>
      (zgI M a2 [2] 6).bind fun v2 =>
      some (v2, M))
    else (
      if x1 = 2 then (
        (zgN M x0 [11] 0).bind fun a3 =>
        (zgI M a3 [2] 1).bind fun v3 =>
        (f_J6_bitCount_0f7a4 v3 M).bind fun q1 =>
        some (q1.1, q1.2))
      else (
        if x1 = 3 then (
          (zgI M x0 [11] 3).bind fun v4 =>
          some (v4, M))
        else (
          (zob M x0 11).bind fun _ =>
          (f_X11_refusedBad x0 (-2) M).bind fun q2 =>
          some (q2.1, q2.2)))))
set_option maxHeartbeats 4000000 in
set_option maxRecDepth 100000 in
theorem s_X11_count {g : zG} (hC : zC g) {x0 : Nat} {x1 : Int32} {M : zMe} {q : (Int32 × zMe)} (h : f_X11_count x0 x1 M = some q) : zMet g yX11_count mX11_count [.ref x0, .int x1] M (some (.int q.1)) q.2 := by
  refine z_entry (by decide +kernel) rfl rfl (Nat.le_of_ble_eq_true rfl) ?_
  refine zeqL (L2 := [.ref x0, .int x1]) rfl ?_
  unfold f_X11_count at h
  refine z_iload_n (x := x1) rfl dX11_count_0 ?_
  by_cases c1 : x1 = 0
  · have h := zift h c1
    refine z_tabIn (tgt := 32) 0 dX11_count_1 c1 (by decide) (by decide) rfl (by decide) ?_
    refine z_aload_n (x := x0) rfl dX11_count_32 ?_
    obtain ⟨a1, h1, h⟩ := zbind h
    refine z_gN hC fs_X11_12 h1 dX11_count_33 ?_
    obtain ⟨v1, h2, h⟩ := zbind h
    refine z_gI hC fs_X11_76 h2 dX11_count_36 ?_
    obtain rfl := Option.some.inj h
    exact z_iret ⟨.int, rfl, rfl⟩ dX11_count_39
  · have h := zife h c1
    by_cases c2 : x1 = 1
    · have h := zift h c2
      refine z_tabIn (tgt := 40) 1 dX11_count_1 c2 (by decide) (by decide) rfl (by decide) ?_
      refine z_aload_n (x := x0) rfl dX11_count_40 ?_
      obtain ⟨a2, h3, h⟩ := zbind h
      refine z_gN hC fs_X11_12 h3 dX11_count_41 ?_
      obtain ⟨v2, h4, h⟩ := zbind h
      refine z_gI hC fs_X11_155 h4 dX11_count_44 ?_
      obtain rfl := Option.some.inj h
      exact z_iret ⟨.int, rfl, rfl⟩ dX11_count_47
    · have h := zife h c2
      by_cases c3 : x1 = 2
      · have h := zift h c3
        refine z_tabIn (tgt := 48) 2 dX11_count_1 c3 (by decide) (by decide) rfl (by decide) ?_
        refine z_aload_n (x := x0) rfl dX11_count_48 ?_
        obtain ⟨a3, h5, h⟩ := zbind h
        refine z_gN hC fs_X11_12 h5 dX11_count_49 ?_
        obtain ⟨v3, h6, h⟩ := zbind h
        refine z_gI hC fs_X11_116 h6 dX11_count_52 ?_
        obtain ⟨q1, h7, h⟩ := zbind h
        refine z_callS (av := [.int v3]) (rest := []) hC (s_J6_bitCount_0f7a4 hC h7) lk_X11_203 st_J6_bitCount_0f7a4 cd_J6_bitCount_0f7a4 ⟨by decide, by decide, (Nat.le_of_ble_eq_true rfl)⟩ dX11_count_55 ?_
        refine zeqS (stk2 := [.int q1.1]) rfl ?_
        obtain rfl := Option.some.inj h
        exact z_iret ⟨.int, rfl, rfl⟩ dX11_count_58
      · have h := zife h c3
        by_cases c4 : x1 = 3
        · have h := zift h c4
          refine z_tabIn (tgt := 59) 3 dX11_count_1 c4 (by decide) (by decide) rfl (by decide) ?_
          refine z_aload_n (x := x0) rfl dX11_count_59 ?_
          obtain ⟨v4, h8, h⟩ := zbind h
          refine z_gI hC fs_X11_24 h8 dX11_count_60 ?_
          obtain rfl := Option.some.inj h
          exact z_iret ⟨.int, rfl, rfl⟩ dX11_count_63
        · have h := zife h c4
          refine z_tabOut (tgt := 64) 3 dX11_count_1 (by decide) (by decide) (fun j hj => ?_) (by decide) ?_
          · rcases (show j = 0 ∨ j = 1 ∨ j = 2 ∨ j = 3 by omega) with rfl | rfl | rfl | rfl
            · exact c1
            · exact c2
            · exact c3
            · exact c4
          · refine z_aload_n (x := x0) rfl dX11_count_64 ?_
            refine z_bipush (-2) (by decide) dX11_count_65 ?_
            obtain ⟨_, hb, h⟩ := zbind h
            obtain ⟨fs, hb⟩ := zob_some hb
            obtain ⟨q2, h9, h⟩ := zbind h
            refine z_callV (av := [.int (-2)]) (rest := []) hC zcl_11 hb (s_X11_refusedBad hC h9) lk_X11_72 im_X11_refusedBad se_X11_refusedBad cd_X11_refusedBad ⟨by decide, by decide, (Nat.le_of_ble_eq_true rfl)⟩ dX11_count_67 ?_
            clear hb fs
            refine zeqS (stk2 := [.int q2.1]) rfl ?_
            obtain rfl := Option.some.inj h
            exact z_iret ⟨.int, rfl, rfl⟩ dX11_count_70
def fv_X5_digested (a : Nat) (x1 : Int64) (M : zMe) : Option (Int64 × zMe) := match M.1 a with
  | some (.inr (ci, _)) =>
    if ci = 5 then f_X5_digested a x1 M else if ci = 1 then f_X5_digested a x1 M else if ci = 9 then f_X5_digested a x1 M else if ci = 6 then f_X6_digested a x1 M else if ci = 3 then f_X6_digested a x1 M else none
  | _ => none
theorem fv_X5_digested_some {a : Nat} {x1 : Int64} {M : zMe} {q : (Int64 × zMe)} (h : fv_X5_digested a x1 M = some q) : (∃ fs, M.1 a = some (.inr (5, fs)) ∧ f_X5_digested a x1 M = some q) ∨ (∃ fs, M.1 a = some (.inr (1, fs)) ∧ f_X5_digested a x1 M = some q) ∨ (∃ fs, M.1 a = some (.inr (9, fs)) ∧ f_X5_digested a x1 M = some q) ∨ (∃ fs, M.1 a = some (.inr (6, fs)) ∧ f_X6_digested a x1 M = some q) ∨ (∃ fs, M.1 a = some (.inr (3, fs)) ∧ f_X6_digested a x1 M = some q) := by
  unfold fv_X5_digested at h
  split at h
  next ci fs e =>
    by_cases c5 : ci = 5
    · exact Or.inl ⟨fs, by rw [e, c5], zift h c5⟩
    have h := zife h c5
    by_cases c1 : ci = 1
    · exact Or.inr (Or.inl ⟨fs, by rw [e, c1], zift h c1⟩)
    have h := zife h c1
    by_cases c9 : ci = 9
    · exact Or.inr (Or.inr (Or.inl ⟨fs, by rw [e, c9], zift h c9⟩))
    have h := zife h c9
    by_cases c6 : ci = 6
    · exact Or.inr (Or.inr (Or.inr (Or.inl ⟨fs, by rw [e, c6], zift h c6⟩)))
    have h := zife h c6
    by_cases c3 : ci = 3
    · exact Or.inr (Or.inr (Or.inr (Or.inr (⟨fs, by rw [e, c3], zift h c3⟩))))
    have h := zife h c3
    cases h
  next => cases h
theorem up_X11_260_1 : zUp RX11 260 RX1 "OneWhistle$Plain" ⟨"OneWhistle$Plain", "digested", "(J)J"⟩ yX5_digested := ⟨by decide +kernel, by decide +kernel, Or.inr ⟨by decide +kernel, _, _, _, cd_X5_digested.1⟩, by decide +kernel, by decide +kernel, ⟨by decide +kernel, by decide +kernel⟩, rfl⟩
theorem up_X11_260_9 : zUp RX11 260 RX9 "OneWhistle$Plain" ⟨"OneWhistle$Plain", "digested", "(J)J"⟩ yX5_digested := ⟨by decide +kernel, by decide +kernel, Or.inr ⟨by decide +kernel, _, _, _, cd_X5_digested.1⟩, by decide +kernel, by decide +kernel, ⟨by decide +kernel, by decide +kernel⟩, rfl⟩
theorem up_X11_260_6 : zUp RX11 260 RX6 "OneWhistle$Plain" ⟨"OneWhistle$Plain", "digested", "(J)J"⟩ yX6_digested := ⟨by decide +kernel, by decide +kernel, Or.inr ⟨by decide +kernel, _, _, _, cd_X5_digested.1⟩, by decide +kernel, by decide +kernel, ⟨by decide +kernel, by decide +kernel⟩, rfl⟩
theorem up_X11_260_3 : zUp RX11 260 RX3 "OneWhistle$Plain" ⟨"OneWhistle$Plain", "digested", "(J)J"⟩ yX6_digested := ⟨by decide +kernel, by decide +kernel, Or.inr ⟨by decide +kernel, _, _, _, cd_X5_digested.1⟩, by decide +kernel, by decide +kernel, ⟨by decide +kernel, by decide +kernel⟩, rfl⟩
theorem cv_X11_260 {g : zG} {t : zM} {pc : Nat} {L rest : List Value} {M M2 : zMe} {rv : Option Value} {a : Nat} {x1 : Int64} {q : (Int64 × zMe)} (hC : zC g) (h : fv_X5_digested a x1 M = some q) (hfit : t.1 = RX11 ∧ (mX5_digested.2.2.2.2.2.1 + 1 ≤ t.2.2.2.2.2.1 ∧ 8 + (mX5_digested.2.2.1 + 11) + mX5_digested.2.2.2.2.2.2 ≤ t.2.2.2.2.2.2) ∧ (mX6_digested.2.2.2.2.2.1 + 1 ≤ t.2.2.2.2.2.1 ∧ 8 + (mX6_digested.2.2.1 + 11) + mX6_digested.2.2.2.2.2.2 ≤ t.2.2.2.2.2.2)) (hr : (rest.map fun v => v.category).sum ≤ 8) (hd : decode t.2.1 pc = .ok (.invokevirtual 260, 3)) (kk : zW g t (pc + 3) L ((some (.long q.1)).toList ++ rest) q.2 rv M2) : zW g t pc L (([.long x1] : List Value).reverse ++ .ref a :: rest) M rv M2 := by
  obtain ⟨ht, w_X5_digested, w_X6_digested⟩ := hfit
  rcases fv_X5_digested_some h with ⟨fs, hb, h⟩ | ⟨fs, hb, h⟩ | ⟨fs, hb, h⟩ | ⟨fs, hb, h⟩ | ⟨fs, hb, h⟩
  · exact z_callV hC zcl_5 hb (s_X5_digested hC h) (by rw [ht]; exact lk_X11_260) im_X5_digested se_X5_digested cd_X5_digested ⟨w_X5_digested.1, w_X5_digested.2, hr⟩ hd kk
  · exact z_callU hC zcl_1 hb (s_X5_digested hC h) (by rw [ht]; exact up_X11_260_1) cd_X5_digested ⟨w_X5_digested.1, w_X5_digested.2, hr⟩ hd kk
  · exact z_callU hC zcl_9 hb (s_X5_digested hC h) (by rw [ht]; exact up_X11_260_9) cd_X5_digested ⟨w_X5_digested.1, w_X5_digested.2, hr⟩ hd kk
  · exact z_callU hC zcl_6 hb (s_X6_digested hC h) (by rw [ht]; exact up_X11_260_6) cd_X6_digested ⟨w_X6_digested.1, w_X6_digested.2, hr⟩ hd kk
  · exact z_callU hC zcl_3 hb (s_X6_digested hC h) (by rw [ht]; exact up_X11_260_3) cd_X6_digested ⟨w_X6_digested.1, w_X6_digested.2, hr⟩ hd kk
def f_X11_digest_b99 (k66 : Nat → Int64 → Int32 → zMe → Option (Int64 × zMe)) (x0 : Nat) (x1 : Int64) (x3 : Int32) (M : zMe) : Option (Int64 × zMe) :=
  zlet (x3 + 1) fun v1 =>
  k66 x0 x1 v1 M
set_option maxHeartbeats 4000000 in
set_option maxRecDepth 100000 in
theorem s_X11_digest_b99 {g : zG} (hC : zC g) {k66 : Nat → Int64 → Int32 → zMe → Option (Int64 × zMe)} (hk66 : ∀ (x0 : Nat) (x1 : Int64) (x3 : Int32) (M : zMe) (q : (Int64 × zMe)), k66 x0 x1 x3 M = some q → zW g mX11_digest 66 [.ref x0, .long x1, .retAddr 0, .int x3, .retAddr 0] [] M (some (.long q.1)) q.2) (x0 : Nat) (x1 : Int64) (x3 : Int32) (M : zMe) (q : (Int64 × zMe)) (h : f_X11_digest_b99 k66 x0 x1 x3 M = some q) : zW g mX11_digest 99 [.ref x0, .long x1, .retAddr 0, .int x3, .retAddr 0] [] M (some (.long q.1)) q.2 := by
  unfold f_X11_digest_b99 at h
  obtain ⟨v1, hv⟩ : ∃ z : Int32, z = x3 + 1 := ⟨_, rfl⟩
  have h := zlet_use h hv
  refine z_iinc (v := v1) dX11_digest_99 (x := x3) rfl (by rw [hv]; rfl) ?_
  clear hv
  refine zeqL (L2 := [.ref x0, .long x1, .retAddr 0, .int v1, .retAddr 0]) rfl ?_
  refine z_goto (tgt := 66) dX11_digest_102 (by decide) ?_
  exact hk66 _ _ _ _ _ h
def f_X11_digest_b66  : Nat → Nat → Int64 → Int32 → zMe → Option (Int64 × zMe)
  | 0, _, _, _, _ => none
  | n + 1, x0, x1, x3, M =>
    (zgN M x0 [11] 0).bind fun a1 =>
    (zgI M a1 [2] 6).bind fun v1 =>
    if v1 ≤ x3 then (
      (zgN M x0 [11] 0).bind fun a2 =>
      (zgI M a2 [2] 1).bind fun v2 =>
      zlet (((31 : Int64) * x1) + v2.toInt64 : Int64) fun v3 =>
      (zgN M x0 [11] 0).bind fun a3 =>
      (zgI M a3 [2] 2).bind fun v4 =>
      zlet (((31 : Int64) * v3) + v4.toInt64 : Int64) fun v5 =>
      (zgN M x0 [11] 0).bind fun a4 =>
      (zgI M a4 [2] 3).bind fun v6 =>
      zlet (((31 : Int64) * v5) + v6.toInt64 : Int64) fun v7 =>
      (zgN M x0 [11] 0).bind fun a5 =>
      (zgI M a5 [2] 4).bind fun v8 =>
      zlet (((31 : Int64) * v7) + v8.toInt64 : Int64) fun v9 =>
      (zgN M x0 [11] 0).bind fun a6 =>
      (zgI M a6 [2] 5).bind fun v10 =>
      zlet (((31 : Int64) * v9) + v10.toInt64 : Int64) fun v11 =>
      (zgL M x0 [11] 4).bind fun v12 =>
      zlet (((31 : Int64) * v11) + v12 : Int64) fun v13 =>
      (zgL M x0 [11] 5).bind fun v14 =>
      some (((31 : Int64) * v13) + v14, M))
    else (
      (zgN M x0 [11] 0).bind fun a7 =>
      (zob M a7 2).bind fun _ =>
      (f_X2_dogAt a7 x3 M).bind fun q1 =>
      zcase q1.1 (
        f_X11_digest_b99 (f_X11_digest_b66 n) x0 x1 x3 q1.2) (fun a8 =>
        (fv_X5_digested a8 x1 q1.2).bind fun q2 =>
        f_X11_digest_b99 (f_X11_digest_b66 n) x0 q2.1 x3 q2.2))
set_option maxHeartbeats 4000000 in
set_option maxRecDepth 100000 in
theorem s_X11_digest_b66 {g : zG} (hC : zC g)  : ∀ (n : Nat) (x0 : Nat) (x1 : Int64) (x3 : Int32) (M : zMe) (q : (Int64 × zMe)), f_X11_digest_b66  n x0 x1 x3 M = some q → zW g mX11_digest 66 [.ref x0, .long x1, .retAddr 0, .int x3, .retAddr 0] [] M (some (.long q.1)) q.2 := by
  intro n
  induction n with
  | zero => intro x0 x1 x3 M q h; cases h
  | succ n ih =>
    intro x0 x1 x3 M q h
    rw [f_X11_digest_b66] at h
    refine z_iload_n (x := x3) rfl dX11_digest_66 ?_
    refine z_aload_n (x := x0) rfl dX11_digest_67 ?_
    obtain ⟨a1, h1, h⟩ := zbind h
    refine z_gN hC fs_X11_12 h1 dX11_digest_68 ?_
    obtain ⟨v1, h2, h⟩ := zbind h
    refine z_gI hC fs_X11_155 h2 dX11_digest_71 ?_
    refine z_icmp_ge (tgt := 105) dX11_digest_74 (by decide) (fun c1 => ?_) (fun c1 => ?_)
    · have h := zift h c1
      refine z_ldc2 hC dX11_digest_105 kl_X11_258 ?_
      refine z_lload_n (x := x1) rfl dX11_digest_108 ?_
      refine z_lmul dX11_digest_109 ?_
      refine z_aload_n (x := x0) rfl dX11_digest_110 ?_
      obtain ⟨a2, h3, h⟩ := zbind h
      refine z_gN hC fs_X11_12 h3 dX11_digest_111 ?_
      obtain ⟨v2, h4, h⟩ := zbind h
      refine z_gI hC fs_X11_116 h4 dX11_digest_114 ?_
      refine z_i2l dX11_digest_117 ?_
      refine z_ladd dX11_digest_118 ?_
      refine z_nameL (fun v3 hv => ?_)
      have h := zlet_use h hv
      clear hv
      refine z_lstore_n dX11_digest_119 (by decide) ?_
      refine zeqL (L2 := [.ref x0, .long v3, .retAddr 0, .int x3, .retAddr 0]) rfl ?_
      refine z_ldc2 hC dX11_digest_120 kl_X11_258 ?_
      refine z_lload_n (x := v3) rfl dX11_digest_123 ?_
      refine z_lmul dX11_digest_124 ?_
      refine z_aload_n (x := x0) rfl dX11_digest_125 ?_
      obtain ⟨a3, h5, h⟩ := zbind h
      refine z_gN hC fs_X11_12 h5 dX11_digest_126 ?_
      obtain ⟨v4, h6, h⟩ := zbind h
      refine z_gI hC fs_X11_129 h6 dX11_digest_129 ?_
      refine z_i2l dX11_digest_132 ?_
      refine z_ladd dX11_digest_133 ?_
      refine z_nameL (fun v5 hv => ?_)
      have h := zlet_use h hv
      clear hv
      refine z_lstore_n dX11_digest_134 (by decide) ?_
      refine zeqL (L2 := [.ref x0, .long v5, .retAddr 0, .int x3, .retAddr 0]) rfl ?_
      refine z_ldc2 hC dX11_digest_135 kl_X11_258 ?_
      refine z_lload_n (x := v5) rfl dX11_digest_138 ?_
      refine z_lmul dX11_digest_139 ?_
      refine z_aload_n (x := x0) rfl dX11_digest_140 ?_
      obtain ⟨a4, h7, h⟩ := zbind h
      refine z_gN hC fs_X11_12 h7 dX11_digest_141 ?_
      obtain ⟨v6, h8, h⟩ := zbind h
      refine z_gI hC fs_X11_132 h8 dX11_digest_144 ?_
      refine z_i2l dX11_digest_147 ?_
      refine z_ladd dX11_digest_148 ?_
      refine z_nameL (fun v7 hv => ?_)
      have h := zlet_use h hv
      clear hv
      refine z_lstore_n dX11_digest_149 (by decide) ?_
      refine zeqL (L2 := [.ref x0, .long v7, .retAddr 0, .int x3, .retAddr 0]) rfl ?_
      refine z_ldc2 hC dX11_digest_150 kl_X11_258 ?_
      refine z_lload_n (x := v7) rfl dX11_digest_153 ?_
      refine z_lmul dX11_digest_154 ?_
      refine z_aload_n (x := x0) rfl dX11_digest_155 ?_
      obtain ⟨a5, h9, h⟩ := zbind h
      refine z_gN hC fs_X11_12 h9 dX11_digest_156 ?_
      obtain ⟨v8, h10, h⟩ := zbind h
      refine z_gI hC fs_X11_135 h10 dX11_digest_159 ?_
      refine z_i2l dX11_digest_162 ?_
      refine z_ladd dX11_digest_163 ?_
      refine z_nameL (fun v9 hv => ?_)
      have h := zlet_use h hv
      clear hv
      refine z_lstore_n dX11_digest_164 (by decide) ?_
      refine zeqL (L2 := [.ref x0, .long v9, .retAddr 0, .int x3, .retAddr 0]) rfl ?_
      refine z_ldc2 hC dX11_digest_165 kl_X11_258 ?_
      refine z_lload_n (x := v9) rfl dX11_digest_168 ?_
      refine z_lmul dX11_digest_169 ?_
      refine z_aload_n (x := x0) rfl dX11_digest_170 ?_
      obtain ⟨a6, h11, h⟩ := zbind h
      refine z_gN hC fs_X11_12 h11 dX11_digest_171 ?_
      obtain ⟨v10, h12, h⟩ := zbind h
      refine z_gI hC fs_X11_138 h12 dX11_digest_174 ?_
      refine z_i2l dX11_digest_177 ?_
      refine z_ladd dX11_digest_178 ?_
      refine z_nameL (fun v11 hv => ?_)
      have h := zlet_use h hv
      clear hv
      refine z_lstore_n dX11_digest_179 (by decide) ?_
      refine zeqL (L2 := [.ref x0, .long v11, .retAddr 0, .int x3, .retAddr 0]) rfl ?_
      refine z_ldc2 hC dX11_digest_180 kl_X11_258 ?_
      refine z_lload_n (x := v11) rfl dX11_digest_183 ?_
      refine z_lmul dX11_digest_184 ?_
      refine z_aload_n (x := x0) rfl dX11_digest_185 ?_
      obtain ⟨v12, h13, h⟩ := zbind h
      refine z_gL hC fs_X11_28 h13 dX11_digest_186 ?_
      refine z_ladd dX11_digest_189 ?_
      refine z_nameL (fun v13 hv => ?_)
      have h := zlet_use h hv
      clear hv
      refine z_lstore_n dX11_digest_190 (by decide) ?_
      refine zeqL (L2 := [.ref x0, .long v13, .retAddr 0, .int x3, .retAddr 0]) rfl ?_
      refine z_ldc2 hC dX11_digest_191 kl_X11_258 ?_
      refine z_lload_n (x := v13) rfl dX11_digest_194 ?_
      refine z_lmul dX11_digest_195 ?_
      refine z_aload_n (x := x0) rfl dX11_digest_196 ?_
      obtain ⟨v14, h14, h⟩ := zbind h
      refine z_gL hC fs_X11_32 h14 dX11_digest_197 ?_
      refine z_ladd dX11_digest_200 ?_
      obtain rfl := Option.some.inj h
      exact z_lret rfl dX11_digest_201
    · have h := zife h c1
      refine z_aload_n (x := x0) rfl dX11_digest_77 ?_
      obtain ⟨a7, h15, h⟩ := zbind h
      refine z_gN hC fs_X11_12 h15 dX11_digest_78 ?_
      refine z_iload_n (x := x3) rfl dX11_digest_81 ?_
      obtain ⟨_, hb, h⟩ := zbind h
      obtain ⟨fs, hb⟩ := zob_some hb
      obtain ⟨q1, h16, h⟩ := zbind h
      refine z_callV (av := [.int x3]) (rest := []) hC zcl_2 hb (s_X2_dogAt hC h16) lk_X11_158 im_X2_dogAt se_X2_dogAt cd_X2_dogAt ⟨by decide, by decide, (Nat.le_of_ble_eq_true rfl)⟩ dX11_digest_82 ?_
      clear hb fs
      refine zeqS (stk2 := [va_rf q1.1]) rfl ?_
      refine z_astoreO dX11_digest_85 (by decide) ?_
      refine zeqL (L2 := [.ref x0, .long x1, .retAddr 0, .int x3, va_rf q1.1]) rfl ?_
      refine z_aloadO (x := q1.1) rfl dX11_digest_87 ?_
      obtain hx1 | ⟨a8, hx1⟩ := zon q1.1
      · have h := zcaseN h hx1
        rw [hx1]
        refine z_ifnullN (tgt := 99) dX11_digest_89 (by decide) ?_
        refine zweak [true, true, false, true, false] ?_
        exact s_X11_digest_b99 hC ih _ _ _ _ _ h
      · have h := zcaseS h hx1
        rw [hx1]
        refine z_ifnull dX11_digest_89 ?_
        refine z_aload (x := a8) rfl dX11_digest_92 ?_
        refine z_lload_n (x := x1) rfl dX11_digest_94 ?_
        obtain ⟨q2, h17, h⟩ := zbind h
        refine cv_X11_260 (rest := []) hC h17 ⟨rfl, ⟨by decide, by decide⟩, ⟨by decide, by decide⟩⟩ (Nat.le_of_ble_eq_true rfl) dX11_digest_95 ?_
        refine zeqS (stk2 := [.long q2.1]) rfl ?_
        refine z_lstore_n dX11_digest_98 (by decide) ?_
        refine zeqL (L2 := [.ref x0, .long q2.1, .retAddr 0, .int x3, .ref a8]) rfl ?_
        refine zweak [true, true, false, true, false] ?_
        exact s_X11_digest_b99 hC ih _ _ _ _ _ h
def f_X11_digest (x0 : Nat) (M : zMe) : Option (Int64 × zMe) :=
  (zgN M x0 [11] 0).bind fun a1 =>
  (zgI M a1 [2] 0).bind fun v1 =>
  zlet (((31 : Int64) * (661 : Int64)) + v1.toInt64 : Int64) fun v2 =>
  (zgN M x0 [11] 0).bind fun a2 =>
  (zgI M a2 [2] 6).bind fun v3 =>
  zlet (((31 : Int64) * v2) + v3.toInt64 : Int64) fun v4 =>
  (zgN M x0 [11] 0).bind fun a3 =>
  (zgI M a3 [2] 1).bind fun v5 =>
  (f_J6_bitCount_0f7a4 v5 M).bind fun q1 =>
  zlet (((31 : Int64) * v4) + q1.1.toInt64 : Int64) fun v6 =>
  (zgI q1.2 x0 [11] 3).bind fun v7 =>
  zlet (((31 : Int64) * v6) + v7.toInt64 : Int64) fun v8 =>
  f_X11_digest_b66 zfu x0 v8 0 q1.2
set_option maxHeartbeats 4000000 in
set_option maxRecDepth 100000 in
theorem s_X11_digest {g : zG} (hC : zC g) {x0 : Nat} {M : zMe} {q : (Int64 × zMe)} (h : f_X11_digest x0 M = some q) : zMet g yX11_digest mX11_digest [.ref x0] M (some (.long q.1)) q.2 := by
  refine z_entry (by decide +kernel) rfl rfl (Nat.le_of_ble_eq_true rfl) ?_
  refine zeqL (L2 := [.ref x0, .retAddr 0, .retAddr 0, .retAddr 0, .retAddr 0]) rfl ?_
  unfold f_X11_digest at h
  refine z_ldc2 hC dX11_digest_0 kl_X11_256 ?_
  refine z_lstore_n dX11_digest_3 (by decide) ?_
  refine zeqL (L2 := [.ref x0, .long (661 : Int64), .retAddr 0, .retAddr 0, .retAddr 0]) rfl ?_
  refine z_ldc2 hC dX11_digest_4 kl_X11_258 ?_
  refine z_lload_n (x := (661 : Int64)) rfl dX11_digest_7 ?_
  refine z_lmul dX11_digest_8 ?_
  refine z_aload_n (x := x0) rfl dX11_digest_9 ?_
  obtain ⟨a1, h1, h⟩ := zbind h
  refine z_gN hC fs_X11_12 h1 dX11_digest_10 ?_
  obtain ⟨v1, h2, h⟩ := zbind h
  refine z_gI hC fs_X11_76 h2 dX11_digest_13 ?_
  refine z_i2l dX11_digest_16 ?_
  refine z_ladd dX11_digest_17 ?_
  refine z_nameL (fun v2 hv => ?_)
  have h := zlet_use h hv
  clear hv
  refine z_lstore_n dX11_digest_18 (by decide) ?_
  refine zeqL (L2 := [.ref x0, .long v2, .retAddr 0, .retAddr 0, .retAddr 0]) rfl ?_
  refine z_ldc2 hC dX11_digest_19 kl_X11_258 ?_
  refine z_lload_n (x := v2) rfl dX11_digest_22 ?_
  refine z_lmul dX11_digest_23 ?_
  refine z_aload_n (x := x0) rfl dX11_digest_24 ?_
  obtain ⟨a2, h3, h⟩ := zbind h
  refine z_gN hC fs_X11_12 h3 dX11_digest_25 ?_
  obtain ⟨v3, h4, h⟩ := zbind h
  refine z_gI hC fs_X11_155 h4 dX11_digest_28 ?_
  refine z_i2l dX11_digest_31 ?_
  refine z_ladd dX11_digest_32 ?_
  refine z_nameL (fun v4 hv => ?_)
  have h := zlet_use h hv
  clear hv
  refine z_lstore_n dX11_digest_33 (by decide) ?_
  refine zeqL (L2 := [.ref x0, .long v4, .retAddr 0, .retAddr 0, .retAddr 0]) rfl ?_
  refine z_ldc2 hC dX11_digest_34 kl_X11_258 ?_
  refine z_lload_n (x := v4) rfl dX11_digest_37 ?_
  refine z_lmul dX11_digest_38 ?_
  refine z_aload_n (x := x0) rfl dX11_digest_39 ?_
  obtain ⟨a3, h5, h⟩ := zbind h
  refine z_gN hC fs_X11_12 h5 dX11_digest_40 ?_
  obtain ⟨v5, h6, h⟩ := zbind h
  refine z_gI hC fs_X11_116 h6 dX11_digest_43 ?_
  obtain ⟨q1, h7, h⟩ := zbind h
  refine z_callS (av := [.int v5]) (rest := [.long ((31 : Int64) * v4)]) hC (s_J6_bitCount_0f7a4 hC h7) lk_X11_203 st_J6_bitCount_0f7a4 cd_J6_bitCount_0f7a4 ⟨by decide, by decide, (Nat.le_of_ble_eq_true rfl)⟩ dX11_digest_46 ?_
  refine zeqS (stk2 := [.int q1.1, .long ((31 : Int64) * v4)]) rfl ?_
  refine z_i2l dX11_digest_49 ?_
  refine z_ladd dX11_digest_50 ?_
  refine z_nameL (fun v6 hv => ?_)
  have h := zlet_use h hv
  clear hv
  refine z_lstore_n dX11_digest_51 (by decide) ?_
  refine zeqL (L2 := [.ref x0, .long v6, .retAddr 0, .retAddr 0, .retAddr 0]) rfl ?_
  refine z_ldc2 hC dX11_digest_52 kl_X11_258 ?_
  refine z_lload_n (x := v6) rfl dX11_digest_55 ?_
  refine z_lmul dX11_digest_56 ?_
  refine z_aload_n (x := x0) rfl dX11_digest_57 ?_
  obtain ⟨v7, h8, h⟩ := zbind h
  refine z_gI hC fs_X11_24 h8 dX11_digest_58 ?_
  refine z_i2l dX11_digest_61 ?_
  refine z_ladd dX11_digest_62 ?_
  refine z_nameL (fun v8 hv => ?_)
  have h := zlet_use h hv
  clear hv
  refine z_lstore_n dX11_digest_63 (by decide) ?_
  refine zeqL (L2 := [.ref x0, .long v8, .retAddr 0, .retAddr 0, .retAddr 0]) rfl ?_
  refine z_iconst 0 (by decide) dX11_digest_64 ?_
  refine z_istore_n dX11_digest_65 (by decide) ?_
  refine zeqL (L2 := [.ref x0, .long v8, .retAddr 0, .int 0, .retAddr 0]) rfl ?_
  exact s_X11_digest_b66 hC _ _ _ _ _ _ h
def f_X12_init (x0 : Nat) (M : zMe) : Option zMe :=
  (znI M .int 25).bind fun M1 =>
  (zpR M1 x0 [12] 0 (some M.2.1)).bind fun M2 =>
  (znI M2 .int 25).bind fun M3 =>
  (zpR M3 x0 [12] 1 (some M2.2.1)).bind fun M4 =>
  (znI M4 .int 50).bind fun M5 =>
  (zpR M5 x0 [12] 2 (some M4.2.1)).bind fun M6 =>
  (znI M6 .boolean 2).bind fun M7 =>
  (zpR M7 x0 [12] 3 (some M6.2.1)).bind fun M8 =>
  (znI M8 .int 200).bind fun M9 =>
  (zpR M9 x0 [12] 4 (some M8.2.1)).bind fun M10 =>
  (znI M10 .int 3).bind fun M11 =>
  (zpR M11 x0 [12] 6 (some M10.2.1)).bind fun M12 =>
  (znI M12 .int 65536).bind fun M13 =>
  (zpR M13 x0 [12] 13 (some M12.2.1)).bind fun M14 =>
  (znI M14 .int 65536).bind fun M15 =>
  (zpR M15 x0 [12] 14 (some M14.2.1)).bind fun M16 =>
  (znI M16 .int 2).bind fun M17 =>
  (zpR M17 x0 [12] 15 (some M16.2.1)).bind fun M18 =>
  (znI M18 .boolean 125).bind fun M19 =>
  (zpR M19 x0 [12] 18 (some M18.2.1)).bind fun M20 =>
  (znI M20 .int 288).bind fun M21 =>
  (zpR M21 x0 [12] 19 (some M20.2.1)).bind fun M22 =>
  (znL M22 10).bind fun M23 =>
  (zpR M23 x0 [12] 20 (some M22.2.1)).bind fun M24 =>
  (zgN M24 x0 [12] 0).bind fun a1 =>
  (zwI M24 a1 0 5).bind fun M25 =>
  (zgN M25 x0 [12] 0).bind fun a2 =>
  (zwI M25 a2 4 1).bind fun M26 =>
  (zgN M26 x0 [12] 0).bind fun a3 =>
  (zwI M26 a3 5 1).bind fun M27 =>
  (zpL M27 x0 [12] 8 (1 : Int64)).bind fun M28 =>
  some M28
set_option maxHeartbeats 4000000 in
set_option maxRecDepth 100000 in
theorem s_X12_init {g : zG} (hC : zC g) {x0 : Nat} {M : zMe} {q : zMe} (h : f_X12_init x0 M = some q) : zMet g yX12_init mX12_init [.ref x0] M none q := by
  refine z_entry (by decide +kernel) rfl rfl (Nat.le_of_ble_eq_true rfl) ?_
  refine zeqL (L2 := [.ref x0]) rfl ?_
  unfold f_X12_init at h
  refine z_aload_n (x := x0) rfl dX12_init_0 ?_
  refine z_objInit hC dX12_init_1 lk_X12_1 im_obj cd_obj (by decide) (Nat.le_of_ble_eq_true rfl) ?_
  refine z_aload_n (x := x0) rfl dX12_init_4 ?_
  refine z_bipush 25 (by decide) dX12_init_5 ?_
  obtain ⟨M1, h1, h⟩ := zbind h
  refine z_nI hC (at0 := .int) rfl rfl (by decide) ac_int h1 dX12_init_7 ?_
  obtain ⟨M2, h2, h⟩ := zbind h
  refine z_pRa hC fp_X12_7 h2 dX12_init_9 ?_
  refine z_aload_n (x := x0) rfl dX12_init_12 ?_
  refine z_bipush 25 (by decide) dX12_init_13 ?_
  obtain ⟨M3, h3, h⟩ := zbind h
  refine z_nI hC (at0 := .int) rfl rfl (by decide) ac_int h3 dX12_init_15 ?_
  obtain ⟨M4, h4, h⟩ := zbind h
  refine z_pRa hC fp_X12_13 h4 dX12_init_17 ?_
  refine z_aload_n (x := x0) rfl dX12_init_20 ?_
  refine z_bipush 50 (by decide) dX12_init_21 ?_
  obtain ⟨M5, h5, h⟩ := zbind h
  refine z_nI hC (at0 := .int) rfl rfl (by decide) ac_int h5 dX12_init_23 ?_
  obtain ⟨M6, h6, h⟩ := zbind h
  refine z_pRa hC fp_X12_16 h6 dX12_init_25 ?_
  refine z_aload_n (x := x0) rfl dX12_init_28 ?_
  refine z_iconst 2 (by decide) dX12_init_29 ?_
  obtain ⟨M7, h7, h⟩ := zbind h
  refine z_nI hC (at0 := .boolean) rfl rfl (by decide) ac_boolean h7 dX12_init_30 ?_
  obtain ⟨M8, h8, h⟩ := zbind h
  refine z_pRa hC fp_X12_19 h8 dX12_init_32 ?_
  refine z_aload_n (x := x0) rfl dX12_init_35 ?_
  refine z_sipush 200 (by decide) dX12_init_36 ?_
  obtain ⟨M9, h9, h⟩ := zbind h
  refine z_nI hC (at0 := .int) rfl rfl (by decide) ac_int h9 dX12_init_39 ?_
  obtain ⟨M10, h10, h⟩ := zbind h
  refine z_pRa hC fp_X12_23 h10 dX12_init_41 ?_
  refine z_aload_n (x := x0) rfl dX12_init_44 ?_
  refine z_iconst 3 (by decide) dX12_init_45 ?_
  obtain ⟨M11, h11, h⟩ := zbind h
  refine z_nI hC (at0 := .int) rfl rfl (by decide) ac_int h11 dX12_init_46 ?_
  obtain ⟨M12, h12, h⟩ := zbind h
  refine z_pRa hC fp_X12_26 h12 dX12_init_48 ?_
  refine z_aload_n (x := x0) rfl dX12_init_51 ?_
  refine z_ldc hC dX12_init_52 kc_X12_29 ?_
  obtain ⟨M13, h13, h⟩ := zbind h
  refine z_nI hC (at0 := .int) rfl rfl (by decide) ac_int h13 dX12_init_54 ?_
  obtain ⟨M14, h14, h⟩ := zbind h
  refine z_pRa hC fp_X12_30 h14 dX12_init_56 ?_
  refine z_aload_n (x := x0) rfl dX12_init_59 ?_
  refine z_ldc hC dX12_init_60 kc_X12_29 ?_
  obtain ⟨M15, h15, h⟩ := zbind h
  refine z_nI hC (at0 := .int) rfl rfl (by decide) ac_int h15 dX12_init_62 ?_
  obtain ⟨M16, h16, h⟩ := zbind h
  refine z_pRa hC fp_X12_33 h16 dX12_init_64 ?_
  refine z_aload_n (x := x0) rfl dX12_init_67 ?_
  refine z_iconst 2 (by decide) dX12_init_68 ?_
  obtain ⟨M17, h17, h⟩ := zbind h
  refine z_nI hC (at0 := .int) rfl rfl (by decide) ac_int h17 dX12_init_69 ?_
  obtain ⟨M18, h18, h⟩ := zbind h
  refine z_pRa hC fp_X12_36 h18 dX12_init_71 ?_
  refine z_aload_n (x := x0) rfl dX12_init_74 ?_
  refine z_bipush 125 (by decide) dX12_init_75 ?_
  obtain ⟨M19, h19, h⟩ := zbind h
  refine z_nI hC (at0 := .boolean) rfl rfl (by decide) ac_boolean h19 dX12_init_77 ?_
  obtain ⟨M20, h20, h⟩ := zbind h
  refine z_pRa hC fp_X12_39 h20 dX12_init_79 ?_
  refine z_aload_n (x := x0) rfl dX12_init_82 ?_
  refine z_sipush 288 (by decide) dX12_init_83 ?_
  obtain ⟨M21, h21, h⟩ := zbind h
  refine z_nI hC (at0 := .int) rfl rfl (by decide) ac_int h21 dX12_init_86 ?_
  obtain ⟨M22, h22, h⟩ := zbind h
  refine z_pRa hC fp_X12_42 h22 dX12_init_88 ?_
  refine z_aload_n (x := x0) rfl dX12_init_91 ?_
  refine z_bipush 10 (by decide) dX12_init_92 ?_
  obtain ⟨M23, h23, h⟩ := zbind h
  refine z_nL hC ac_long h23 dX12_init_94 ?_
  obtain ⟨M24, h24, h⟩ := zbind h
  refine z_pRa hC fp_X12_45 h24 dX12_init_96 ?_
  refine z_aload_n (x := x0) rfl dX12_init_99 ?_
  obtain ⟨a1, h25, h⟩ := zbind h
  refine z_gN hC fs_X12_7 h25 dX12_init_100 ?_
  refine z_iconst 0 (by decide) dX12_init_103 ?_
  refine z_iconst 5 (by decide) dX12_init_104 ?_
  obtain ⟨M25, h26, h⟩ := zbind h
  refine z_wI h26 dX12_init_105 ?_
  refine z_aload_n (x := x0) rfl dX12_init_106 ?_
  obtain ⟨a2, h27, h⟩ := zbind h
  refine z_gN hC fs_X12_7 h27 dX12_init_107 ?_
  refine z_iconst 4 (by decide) dX12_init_110 ?_
  refine z_iconst 1 (by decide) dX12_init_111 ?_
  obtain ⟨M26, h28, h⟩ := zbind h
  refine z_wI h28 dX12_init_112 ?_
  refine z_aload_n (x := x0) rfl dX12_init_113 ?_
  obtain ⟨a3, h29, h⟩ := zbind h
  refine z_gN hC fs_X12_7 h29 dX12_init_114 ?_
  refine z_iconst 5 (by decide) dX12_init_117 ?_
  refine z_iconst 1 (by decide) dX12_init_118 ?_
  obtain ⟨M27, h30, h⟩ := zbind h
  refine z_wI h30 dX12_init_119 ?_
  refine z_aload_n (x := x0) rfl dX12_init_120 ?_
  refine z_lconst (1 : Int64) (by decide) dX12_init_121 ?_
  obtain ⟨M28, h31, h⟩ := zbind h
  refine z_pL hC fp_X12_49 h31 dX12_init_122 ?_
  obtain rfl := Option.some.inj h
  exact z_ret rfl dX12_init_125
def f_X12_in_b15  (y0 : Int32) (M : zMe) : Option (Int32 × zMe) :=
  if y0 = 0 ∨ y0 = 1 then some (y0, M) else none
set_option maxHeartbeats 4000000 in
set_option maxRecDepth 100000 in
theorem s_X12_in_b15 {g : zG} (hC : zC g)  (y0 : Int32) (M : zMe) (q : (Int32 × zMe)) (h : f_X12_in_b15  y0 M = some q) : zW g mX12_in 15 [.retAddr 0, .retAddr 0, .retAddr 0] [.int y0] M (some (.int q.1)) q.2 := by
  unfold f_X12_in_b15 at h
  obtain ⟨hz, h⟩ := zifs h
  obtain rfl := Option.some.inj h
  exact z_iret ⟨.boolean, rfl, zbo hz⟩ dX12_in_15
def f_X12_in_b14   (M : zMe) : Option (Int32 × zMe) :=
  f_X12_in_b15 0 M
set_option maxHeartbeats 4000000 in
set_option maxRecDepth 100000 in
theorem s_X12_in_b14 {g : zG} (hC : zC g)   (M : zMe) (q : (Int32 × zMe)) (h : f_X12_in_b14   M = some q) : zW g mX12_in 14 [.retAddr 0, .retAddr 0, .retAddr 0] [] M (some (.int q.1)) q.2 := by
  unfold f_X12_in_b14 at h
  refine z_iconst 0 (by decide) dX12_in_14 ?_
  exact s_X12_in_b15 hC _ _ _ h
def f_X12_in (x0 : Int32) (x1 : Int32) (x2 : Int32) (M : zMe) : Option (Int32 × zMe) :=
  if x0 < x1 then (
    f_X12_in_b14 M)
  else (
    if x2 < x0 then (
      f_X12_in_b14 M)
    else (
      f_X12_in_b15 1 M))
set_option maxHeartbeats 4000000 in
set_option maxRecDepth 100000 in
theorem s_X12_in {g : zG} (hC : zC g) {x0 : Int32} {x1 : Int32} {x2 : Int32} {M : zMe} {q : (Int32 × zMe)} (h : f_X12_in x0 x1 x2 M = some q) : zMet g yX12_in mX12_in [.int x0, .int x1, .int x2] M (some (.int q.1)) q.2 := by
  refine z_entry (by decide +kernel) rfl rfl (Nat.le_of_ble_eq_true rfl) ?_
  refine zeqL (L2 := [.int x0, .int x1, .int x2]) rfl ?_
  unfold f_X12_in at h
  refine z_iload_n (x := x0) rfl dX12_in_0 ?_
  refine z_iload_n (x := x1) rfl dX12_in_1 ?_
  refine z_icmp_lt (tgt := 14) dX12_in_2 (by decide) (fun c1 => ?_) (fun c1 => ?_)
  · have h := zift h c1
    refine zweak [false, false, false] ?_
    exact s_X12_in_b14 hC _ _ h
  · have h := zife h c1
    refine z_iload_n (x := x0) rfl dX12_in_5 ?_
    refine z_iload_n (x := x2) rfl dX12_in_6 ?_
    refine z_icmp_gt (tgt := 14) dX12_in_7 (by decide) (fun c2 => ?_) (fun c2 => ?_)
    · have h := zift h c2
      refine zweak [false, false, false] ?_
      exact s_X12_in_b14 hC _ _ h
    · have h := zife h c2
      refine z_iconst 1 (by decide) dX12_in_10 ?_
      refine z_goto (tgt := 15) dX12_in_11 (by decide) ?_
      refine zweak [false, false, false] ?_
      exact s_X12_in_b15 hC _ _ _ h
def f_X12_refuses (x0 : Nat) (x1 : Int32) (x2 : Int32) (M : zMe) : Option (Int32 × zMe) :=
  (zgN M x0 [12] 6).bind fun a1 =>
  (zrI M a1 x1).bind fun v1 =>
  (zwI M a1 x1 (v1 + 1)).bind fun M1 =>
  some (x2, M1)
set_option maxHeartbeats 4000000 in
set_option maxRecDepth 100000 in
theorem s_X12_refuses {g : zG} (hC : zC g) {x0 : Nat} {x1 : Int32} {x2 : Int32} {M : zMe} {q : (Int32 × zMe)} (h : f_X12_refuses x0 x1 x2 M = some q) : zMet g yX12_refuses mX12_refuses [.ref x0, .int x1, .int x2] M (some (.int q.1)) q.2 := by
  refine z_entry (by decide +kernel) rfl rfl (Nat.le_of_ble_eq_true rfl) ?_
  refine zeqL (L2 := [.ref x0, .int x1, .int x2]) rfl ?_
  unfold f_X12_refuses at h
  refine z_aload_n (x := x0) rfl dX12_refuses_0 ?_
  obtain ⟨a1, h1, h⟩ := zbind h
  refine z_gN hC fs_X12_26 h1 dX12_refuses_1 ?_
  refine z_iload_n (x := x1) rfl dX12_refuses_4 ?_
  refine z_dup2 rfl rfl dX12_refuses_5 ?_
  obtain ⟨v1, h2, h⟩ := zbind h
  refine z_rI h2 dX12_refuses_6 ?_
  refine z_iconst 1 (by decide) dX12_refuses_7 ?_
  refine z_iadd dX12_refuses_8 ?_
  obtain ⟨M1, h3, h⟩ := zbind h
  refine z_wI h3 dX12_refuses_9 ?_
  refine z_iload_n (x := x2) rfl dX12_refuses_10 ?_
  obtain rfl := Option.some.inj h
  exact z_iret ⟨.int, rfl, rfl⟩ dX12_refuses_11
def f_X12_bad (x0 : Nat) (M : zMe) : Option (Int32 × zMe) :=
  (zob M x0 12).bind fun _ =>
  (f_X12_refuses x0 0 (-2) M).bind fun q1 =>
  some (q1.1, q1.2)
set_option maxHeartbeats 4000000 in
set_option maxRecDepth 100000 in
theorem s_X12_bad {g : zG} (hC : zC g) {x0 : Nat} {M : zMe} {q : (Int32 × zMe)} (h : f_X12_bad x0 M = some q) : zMet g yX12_bad mX12_bad [.ref x0] M (some (.int q.1)) q.2 := by
  refine z_entry (by decide +kernel) rfl rfl (Nat.le_of_ble_eq_true rfl) ?_
  refine zeqL (L2 := [.ref x0]) rfl ?_
  unfold f_X12_bad at h
  refine z_aload_n (x := x0) rfl dX12_bad_0 ?_
  refine z_iconst 0 (by decide) dX12_bad_1 ?_
  refine z_bipush (-2) (by decide) dX12_bad_2 ?_
  obtain ⟨_, hb, h⟩ := zbind h
  obtain ⟨fs, hb⟩ := zob_some hb
  obtain ⟨q1, h1, h⟩ := zbind h
  refine z_callV (av := [.int 0, .int (-2)]) (rest := []) hC zcl_12 hb (s_X12_refuses hC h1) lk_X12_53 im_X12_refuses se_X12_refuses cd_X12_refuses ⟨by decide, by decide, (Nat.le_of_ble_eq_true rfl)⟩ dX12_bad_4 ?_
  clear hb fs
  refine zeqS (stk2 := [.int q1.1]) rfl ?_
  obtain rfl := Option.some.inj h
  exact z_iret ⟨.int, rfl, rfl⟩ dX12_bad_7
def f_X12_isPlace (x0 : Nat) (x1 : Int32) (M : zMe) : Option (Int32 × zMe) :=
  (zgN M x0 [12] 0).bind fun a1 =>
  (zrI M a1 0).bind fun v1 =>
  (f_X12_in x1 0 (v1 - 1) M).bind fun q1 =>
  if q1.1 = 0 ∨ q1.1 = 1 then some (q1.1, q1.2) else none
set_option maxHeartbeats 4000000 in
set_option maxRecDepth 100000 in
theorem s_X12_isPlace {g : zG} (hC : zC g) {x0 : Nat} {x1 : Int32} {M : zMe} {q : (Int32 × zMe)} (h : f_X12_isPlace x0 x1 M = some q) : zMet g yX12_isPlace mX12_isPlace [.ref x0, .int x1] M (some (.int q.1)) q.2 := by
  refine z_entry (by decide +kernel) rfl rfl (Nat.le_of_ble_eq_true rfl) ?_
  refine zeqL (L2 := [.ref x0, .int x1]) rfl ?_
  unfold f_X12_isPlace at h
  refine z_iload_n (x := x1) rfl dX12_isPlace_0 ?_
  refine z_iconst 0 (by decide) dX12_isPlace_1 ?_
  refine z_aload_n (x := x0) rfl dX12_isPlace_2 ?_
  obtain ⟨a1, h1, h⟩ := zbind h
  refine z_gN hC fs_X12_7 h1 dX12_isPlace_3 ?_
  refine z_iconst 0 (by decide) dX12_isPlace_6 ?_
  obtain ⟨v1, h2, h⟩ := zbind h
  refine z_rI h2 dX12_isPlace_7 ?_
  refine z_iconst 1 (by decide) dX12_isPlace_8 ?_
  refine z_isub dX12_isPlace_9 ?_
  obtain ⟨q1, h3, h⟩ := zbind h
  refine z_callS (av := [.int x1, .int 0, .int (v1 - 1)]) (rest := []) hC (s_X12_in hC h3) lk_X12_57 st_X12_in cd_X12_in ⟨by decide, by decide, (Nat.le_of_ble_eq_true rfl)⟩ dX12_isPlace_10 ?_
  refine zeqS (stk2 := [.int q1.1]) rfl ?_
  obtain ⟨hz, h⟩ := zifs h
  obtain rfl := Option.some.inj h
  exact z_iret ⟨.boolean, rfl, zbo hz⟩ dX12_isPlace_13
def f_X12_isDog (x0 : Nat) (x1 : Int32) (M : zMe) : Option (Int32 × zMe) :=
  (zgN M x0 [12] 0).bind fun a1 =>
  (zrI M a1 6).bind fun v1 =>
  (f_X12_in x1 0 (v1 - 1) M).bind fun q1 =>
  if q1.1 = 0 ∨ q1.1 = 1 then some (q1.1, q1.2) else none
set_option maxHeartbeats 4000000 in
set_option maxRecDepth 100000 in
theorem s_X12_isDog {g : zG} (hC : zC g) {x0 : Nat} {x1 : Int32} {M : zMe} {q : (Int32 × zMe)} (h : f_X12_isDog x0 x1 M = some q) : zMet g yX12_isDog mX12_isDog [.ref x0, .int x1] M (some (.int q.1)) q.2 := by
  refine z_entry (by decide +kernel) rfl rfl (Nat.le_of_ble_eq_true rfl) ?_
  refine zeqL (L2 := [.ref x0, .int x1]) rfl ?_
  unfold f_X12_isDog at h
  refine z_iload_n (x := x1) rfl dX12_isDog_0 ?_
  refine z_iconst 0 (by decide) dX12_isDog_1 ?_
  refine z_aload_n (x := x0) rfl dX12_isDog_2 ?_
  obtain ⟨a1, h1, h⟩ := zbind h
  refine z_gN hC fs_X12_7 h1 dX12_isDog_3 ?_
  refine z_bipush 6 (by decide) dX12_isDog_6 ?_
  obtain ⟨v1, h2, h⟩ := zbind h
  refine z_rI h2 dX12_isDog_8 ?_
  refine z_iconst 1 (by decide) dX12_isDog_9 ?_
  refine z_isub dX12_isDog_10 ?_
  obtain ⟨q1, h3, h⟩ := zbind h
  refine z_callS (av := [.int x1, .int 0, .int (v1 - 1)]) (rest := []) hC (s_X12_in hC h3) lk_X12_57 st_X12_in cd_X12_in ⟨by decide, by decide, (Nat.le_of_ble_eq_true rfl)⟩ dX12_isDog_11 ?_
  refine zeqS (stk2 := [.int q1.1]) rfl ?_
  obtain ⟨hz, h⟩ := zifs h
  obtain rfl := Option.some.inj h
  exact z_iret ⟨.boolean, rfl, zbo hz⟩ dX12_isDog_14
def f_X12_isSet (x0 : Nat) (x1 : Int32) (M : zMe) : Option (Int32 × zMe) :=
  (zgN M x0 [12] 0).bind fun a1 =>
  (zrI M a1 6).bind fun v1 =>
  (f_X12_in x1 0 (((1 : Int32) <<< (v1 &&& 31)) - 1) M).bind fun q1 =>
  if q1.1 = 0 ∨ q1.1 = 1 then some (q1.1, q1.2) else none
set_option maxHeartbeats 4000000 in
set_option maxRecDepth 100000 in
theorem s_X12_isSet {g : zG} (hC : zC g) {x0 : Nat} {x1 : Int32} {M : zMe} {q : (Int32 × zMe)} (h : f_X12_isSet x0 x1 M = some q) : zMet g yX12_isSet mX12_isSet [.ref x0, .int x1] M (some (.int q.1)) q.2 := by
  refine z_entry (by decide +kernel) rfl rfl (Nat.le_of_ble_eq_true rfl) ?_
  refine zeqL (L2 := [.ref x0, .int x1]) rfl ?_
  unfold f_X12_isSet at h
  refine z_iload_n (x := x1) rfl dX12_isSet_0 ?_
  refine z_iconst 0 (by decide) dX12_isSet_1 ?_
  refine z_iconst 1 (by decide) dX12_isSet_2 ?_
  refine z_aload_n (x := x0) rfl dX12_isSet_3 ?_
  obtain ⟨a1, h1, h⟩ := zbind h
  refine z_gN hC fs_X12_7 h1 dX12_isSet_4 ?_
  refine z_bipush 6 (by decide) dX12_isSet_7 ?_
  obtain ⟨v1, h2, h⟩ := zbind h
  refine z_rI h2 dX12_isSet_9 ?_
  refine z_ishl dX12_isSet_10 ?_
  refine z_iconst 1 (by decide) dX12_isSet_11 ?_
  refine z_isub dX12_isSet_12 ?_
  obtain ⟨q1, h3, h⟩ := zbind h
  refine z_callS (av := [.int x1, .int 0, .int (((1 : Int32) <<< (v1 &&& 31)) - 1)]) (rest := []) hC (s_X12_in hC h3) lk_X12_57 st_X12_in cd_X12_in ⟨by decide, by decide, (Nat.le_of_ble_eq_true rfl)⟩ dX12_isSet_13 ?_
  refine zeqS (stk2 := [.int q1.1]) rfl ?_
  obtain ⟨hz, h⟩ := zifs h
  obtain rfl := Option.some.inj h
  exact z_iret ⟨.boolean, rfl, zbo hz⟩ dX12_isSet_16
def f_X12_isTune (x0 : Nat) (x1 : Int32) (x2 : Int32) (M : zMe) : Option (Int32 × zMe) :=
  (f_X12_in x1 0 (((1 : Int32) <<< (x2 &&& 31)) - 1) M).bind fun q1 =>
  if q1.1 = 0 ∨ q1.1 = 1 then some (q1.1, q1.2) else none
set_option maxHeartbeats 4000000 in
set_option maxRecDepth 100000 in
theorem s_X12_isTune {g : zG} (hC : zC g) {x0 : Nat} {x1 : Int32} {x2 : Int32} {M : zMe} {q : (Int32 × zMe)} (h : f_X12_isTune x0 x1 x2 M = some q) : zMet g yX12_isTune mX12_isTune [.ref x0, .int x1, .int x2] M (some (.int q.1)) q.2 := by
  refine z_entry (by decide +kernel) rfl rfl (Nat.le_of_ble_eq_true rfl) ?_
  refine zeqL (L2 := [.ref x0, .int x1, .int x2]) rfl ?_
  unfold f_X12_isTune at h
  refine z_iload_n (x := x1) rfl dX12_isTune_0 ?_
  refine z_iconst 0 (by decide) dX12_isTune_1 ?_
  refine z_iconst 1 (by decide) dX12_isTune_2 ?_
  refine z_iload_n (x := x2) rfl dX12_isTune_3 ?_
  refine z_ishl dX12_isTune_4 ?_
  refine z_iconst 1 (by decide) dX12_isTune_5 ?_
  refine z_isub dX12_isTune_6 ?_
  obtain ⟨q1, h1, h⟩ := zbind h
  refine z_callS (av := [.int x1, .int 0, .int (((1 : Int32) <<< (x2 &&& 31)) - 1)]) (rest := []) hC (s_X12_in hC h1) lk_X12_57 st_X12_in cd_X12_in ⟨by decide, by decide, (Nat.le_of_ble_eq_true rfl)⟩ dX12_isTune_7 ?_
  refine zeqS (stk2 := [.int q1.1]) rfl ?_
  obtain ⟨hz, h⟩ := zifs h
  obtain rfl := Option.some.inj h
  exact z_iret ⟨.boolean, rfl, zbo hz⟩ dX12_isTune_10
def f_X12_places_b39  : Nat → Nat → Int32 → Int32 → Int32 → Int32 → Int32 → zMe → Option (Int32 × zMe)
  | 0, _, _, _, _, _, _, _ => none
  | n + 1, x0, x1, x2, x3, x4, x5, M =>
    if 25 ≤ x5 then (
      (zgN M x0 [12] 0).bind fun a1 =>
      (zwI M a1 0 x1).bind fun M1 =>
      (zgN M1 x0 [12] 0).bind fun a2 =>
      (zwI M1 a2 4 x3).bind fun M2 =>
      (zgN M2 x0 [12] 0).bind fun a3 =>
      (zwI M2 a3 5 x4).bind fun M3 =>
      some (x2, M3))
    else (
      (zgN M x0 [12] 0).bind fun a4 =>
      (zwI M a4 x5 0).bind fun M4 =>
      zlet (x5 + 1) fun v1 =>
      f_X12_places_b39 n x0 x1 x2 x3 x4 v1 M4)
set_option maxHeartbeats 4000000 in
set_option maxRecDepth 100000 in
theorem s_X12_places_b39 {g : zG} (hC : zC g)  : ∀ (n : Nat) (x0 : Nat) (x1 : Int32) (x2 : Int32) (x3 : Int32) (x4 : Int32) (x5 : Int32) (M : zMe) (q : (Int32 × zMe)), f_X12_places_b39  n x0 x1 x2 x3 x4 x5 M = some q → zW g mX12_places 39 [.ref x0, .int x1, .int x2, .int x3, .int x4, .int x5] [] M (some (.int q.1)) q.2 := by
  intro n
  induction n with
  | zero => intro x0 x1 x2 x3 x4 x5 M q h; cases h
  | succ n ih =>
    intro x0 x1 x2 x3 x4 x5 M q h
    rw [f_X12_places_b39] at h
    refine z_iload (x := x5) rfl dX12_places_39 ?_
    refine z_bipush 25 (by decide) dX12_places_41 ?_
    refine z_icmp_ge (tgt := 60) dX12_places_43 (by decide) (fun c1 => ?_) (fun c1 => ?_)
    · have h := zift h c1
      refine z_aload_n (x := x0) rfl dX12_places_60 ?_
      obtain ⟨a1, h1, h⟩ := zbind h
      refine z_gN hC fs_X12_7 h1 dX12_places_61 ?_
      refine z_iconst 0 (by decide) dX12_places_64 ?_
      refine z_iload_n (x := x1) rfl dX12_places_65 ?_
      obtain ⟨M1, h2, h⟩ := zbind h
      refine z_wI h2 dX12_places_66 ?_
      refine z_aload_n (x := x0) rfl dX12_places_67 ?_
      obtain ⟨a2, h3, h⟩ := zbind h
      refine z_gN hC fs_X12_7 h3 dX12_places_68 ?_
      refine z_iconst 4 (by decide) dX12_places_71 ?_
      refine z_iload_n (x := x3) rfl dX12_places_72 ?_
      obtain ⟨M2, h4, h⟩ := zbind h
      refine z_wI h4 dX12_places_73 ?_
      refine z_aload_n (x := x0) rfl dX12_places_74 ?_
      obtain ⟨a3, h5, h⟩ := zbind h
      refine z_gN hC fs_X12_7 h5 dX12_places_75 ?_
      refine z_iconst 5 (by decide) dX12_places_78 ?_
      refine z_iload (x := x4) rfl dX12_places_79 ?_
      obtain ⟨M3, h6, h⟩ := zbind h
      refine z_wI h6 dX12_places_81 ?_
      refine z_iload_n (x := x2) rfl dX12_places_82 ?_
      obtain rfl := Option.some.inj h
      exact z_iret ⟨.int, rfl, rfl⟩ dX12_places_83
    · have h := zife h c1
      refine z_aload_n (x := x0) rfl dX12_places_46 ?_
      obtain ⟨a4, h7, h⟩ := zbind h
      refine z_gN hC fs_X12_7 h7 dX12_places_47 ?_
      refine z_iload (x := x5) rfl dX12_places_50 ?_
      refine z_iconst 0 (by decide) dX12_places_52 ?_
      obtain ⟨M4, h8, h⟩ := zbind h
      refine z_wI h8 dX12_places_53 ?_
      obtain ⟨v1, hv⟩ : ∃ z : Int32, z = x5 + 1 := ⟨_, rfl⟩
      have h := zlet_use h hv
      refine z_iinc (v := v1) dX12_places_54 (x := x5) rfl (by rw [hv]; rfl) ?_
      clear hv
      refine zeqL (L2 := [.ref x0, .int x1, .int x2, .int x3, .int x4, .int v1]) rfl ?_
      refine z_goto (tgt := 39) dX12_places_57 (by decide) ?_
      exact ih _ _ _ _ _ _ _ _ h
def f_X12_places (x0 : Nat) (x1 : Int32) (M : zMe) : Option (Int32 × zMe) :=
  (f_X12_in x1 2 5 M).bind fun q1 =>
  if q1.1 = 0 then (
    (zob q1.2 x0 12).bind fun _ =>
    (f_X12_bad x0 q1.2).bind fun q2 =>
    some (q2.1, q2.2))
  else (
    (zgN q1.2 x0 [12] 0).bind fun a1 =>
    (zrI q1.2 a1 0).bind fun v1 =>
    (zgN q1.2 x0 [12] 0).bind fun a2 =>
    (zrI q1.2 a2 4).bind fun v2 =>
    (zgN q1.2 x0 [12] 0).bind fun a3 =>
    (zrI q1.2 a3 5).bind fun v3 =>
    f_X12_places_b39 zfu x0 x1 v1 v2 v3 0 q1.2)
set_option maxHeartbeats 4000000 in
set_option maxRecDepth 100000 in
theorem s_X12_places {g : zG} (hC : zC g) {x0 : Nat} {x1 : Int32} {M : zMe} {q : (Int32 × zMe)} (h : f_X12_places x0 x1 M = some q) : zMet g yX12_places mX12_places [.ref x0, .int x1] M (some (.int q.1)) q.2 := by
  refine z_entry (by decide +kernel) rfl rfl (Nat.le_of_ble_eq_true rfl) ?_
  refine zeqL (L2 := [.ref x0, .int x1, .retAddr 0, .retAddr 0, .retAddr 0, .retAddr 0]) rfl ?_
  unfold f_X12_places at h
  refine z_iload_n (x := x1) rfl dX12_places_0 ?_
  refine z_iconst 2 (by decide) dX12_places_1 ?_
  refine z_iconst 5 (by decide) dX12_places_2 ?_
  obtain ⟨q1, h1, h⟩ := zbind h
  refine z_callS (av := [.int x1, .int 2, .int 5]) (rest := []) hC (s_X12_in hC h1) lk_X12_57 st_X12_in cd_X12_in ⟨by decide, by decide, (Nat.le_of_ble_eq_true rfl)⟩ dX12_places_3 ?_
  refine zeqS (stk2 := [.int q1.1]) rfl ?_
  refine z_if_ne (tgt := 14) dX12_places_6 (by decide) (fun c1 => ?_) (fun c1 => ?_)
  · have h := zife h c1
    refine z_aload_n (x := x0) rfl dX12_places_14 ?_
    obtain ⟨a1, h3, h⟩ := zbind h
    refine z_gN hC fs_X12_7 h3 dX12_places_15 ?_
    refine z_iconst 0 (by decide) dX12_places_18 ?_
    obtain ⟨v1, h4, h⟩ := zbind h
    refine z_rI h4 dX12_places_19 ?_
    refine z_istore_n dX12_places_20 (by decide) ?_
    refine zeqL (L2 := [.ref x0, .int x1, .int v1, .retAddr 0, .retAddr 0, .retAddr 0]) rfl ?_
    refine z_aload_n (x := x0) rfl dX12_places_21 ?_
    obtain ⟨a2, h5, h⟩ := zbind h
    refine z_gN hC fs_X12_7 h5 dX12_places_22 ?_
    refine z_iconst 4 (by decide) dX12_places_25 ?_
    obtain ⟨v2, h6, h⟩ := zbind h
    refine z_rI h6 dX12_places_26 ?_
    refine z_istore_n dX12_places_27 (by decide) ?_
    refine zeqL (L2 := [.ref x0, .int x1, .int v1, .int v2, .retAddr 0, .retAddr 0]) rfl ?_
    refine z_aload_n (x := x0) rfl dX12_places_28 ?_
    obtain ⟨a3, h7, h⟩ := zbind h
    refine z_gN hC fs_X12_7 h7 dX12_places_29 ?_
    refine z_iconst 5 (by decide) dX12_places_32 ?_
    obtain ⟨v3, h8, h⟩ := zbind h
    refine z_rI h8 dX12_places_33 ?_
    refine z_istore dX12_places_34 (by decide) ?_
    refine zeqL (L2 := [.ref x0, .int x1, .int v1, .int v2, .int v3, .retAddr 0]) rfl ?_
    refine z_iconst 0 (by decide) dX12_places_36 ?_
    refine z_istore dX12_places_37 (by decide) ?_
    refine zeqL (L2 := [.ref x0, .int x1, .int v1, .int v2, .int v3, .int 0]) rfl ?_
    exact s_X12_places_b39 hC _ _ _ _ _ _ _ _ _ h
  · have h := zift h c1
    refine z_aload_n (x := x0) rfl dX12_places_9 ?_
    obtain ⟨_, hb, h⟩ := zbind h
    obtain ⟨fs, hb⟩ := zob_some hb
    obtain ⟨q2, h2, h⟩ := zbind h
    refine z_callV (av := []) (rest := []) hC zcl_12 hb (s_X12_bad hC h2) lk_X12_61 im_X12_bad se_X12_bad cd_X12_bad ⟨by decide, by decide, (Nat.le_of_ble_eq_true rfl)⟩ dX12_places_10 ?_
    clear hb fs
    refine zeqS (stk2 := [.int q2.1]) rfl ?_
    obtain rfl := Option.some.inj h
    exact z_iret ⟨.int, rfl, rfl⟩ dX12_places_13
def f_X12_isRow_b73  (y0 : Int32) (M : zMe) : Option (Int32 × zMe) :=
  if y0 = 0 ∨ y0 = 1 then some (y0, M) else none
set_option maxHeartbeats 4000000 in
set_option maxRecDepth 100000 in
theorem s_X12_isRow_b73 {g : zG} (hC : zC g)  (y0 : Int32) (M : zMe) (q : (Int32 × zMe)) (h : f_X12_isRow_b73  y0 M = some q) : zW g mX12_isRow 73 [.retAddr 0, .retAddr 0, .retAddr 0, .retAddr 0, .retAddr 0] [.int y0] M (some (.int q.1)) q.2 := by
  unfold f_X12_isRow_b73 at h
  obtain ⟨hz, h⟩ := zifs h
  obtain rfl := Option.some.inj h
  exact z_iret ⟨.boolean, rfl, zbo hz⟩ dX12_isRow_73
def f_X12_isRow_b72   (M : zMe) : Option (Int32 × zMe) :=
  f_X12_isRow_b73 0 M
set_option maxHeartbeats 4000000 in
set_option maxRecDepth 100000 in
theorem s_X12_isRow_b72 {g : zG} (hC : zC g)   (M : zMe) (q : (Int32 × zMe)) (h : f_X12_isRow_b72   M = some q) : zW g mX12_isRow 72 [.retAddr 0, .retAddr 0, .retAddr 0, .retAddr 0, .retAddr 0] [] M (some (.int q.1)) q.2 := by
  unfold f_X12_isRow_b72 at h
  refine z_iconst 0 (by decide) dX12_isRow_72 ?_
  exact s_X12_isRow_b73 hC _ _ _ h
def f_X12_isRow_b48 (k15 : Nat → Int32 → Int32 → Int32 → zMe → Option (Int32 × zMe)) (x0 : Nat) (x2 : Int32) (x4 : Int32) (y0 : Int32) (M : zMe) : Option (Int32 × zMe) :=
  zlet (x2 / 8 : Int32) fun v1 =>
  zlet (x4 + 1) fun v2 =>
  k15 x0 v1 y0 v2 M
set_option maxHeartbeats 4000000 in
set_option maxRecDepth 100000 in
theorem s_X12_isRow_b48 {g : zG} (hC : zC g) {k15 : Nat → Int32 → Int32 → Int32 → zMe → Option (Int32 × zMe)} (hk15 : ∀ (x0 : Nat) (x2 : Int32) (x3 : Int32) (x4 : Int32) (M : zMe) (q : (Int32 × zMe)), k15 x0 x2 x3 x4 M = some q → zW g mX12_isRow 15 [.ref x0, .retAddr 0, .int x2, .int x3, .int x4] [] M (some (.int q.1)) q.2) (x0 : Nat) (x2 : Int32) (x4 : Int32) (y0 : Int32) (M : zMe) (q : (Int32 × zMe)) (h : f_X12_isRow_b48 k15 x0 x2 x4 y0 M = some q) : zW g mX12_isRow 48 [.ref x0, .retAddr 0, .int x2, .retAddr 0, .int x4] [.int y0] M (some (.int q.1)) q.2 := by
  unfold f_X12_isRow_b48 at h
  refine z_istore_n dX12_isRow_48 (by decide) ?_
  refine zeqL (L2 := [.ref x0, .retAddr 0, .int x2, .int y0, .int x4]) rfl ?_
  refine z_iload_n (x := x2) rfl dX12_isRow_49 ?_
  refine z_bipush 8 (by decide) dX12_isRow_50 ?_
  refine z_idiv (by decide) dX12_isRow_52 ?_
  refine z_nameI (fun v1 hv => ?_)
  have h := zlet_use h hv
  clear hv
  refine z_istore_n dX12_isRow_53 (by decide) ?_
  refine zeqL (L2 := [.ref x0, .retAddr 0, .int v1, .int y0, .int x4]) rfl ?_
  obtain ⟨v2, hv⟩ : ∃ z : Int32, z = x4 + 1 := ⟨_, rfl⟩
  have h := zlet_use h hv
  refine z_iinc (v := v2) dX12_isRow_54 (x := x4) rfl (by rw [hv]; rfl) ?_
  clear hv
  refine zeqL (L2 := [.ref x0, .retAddr 0, .int v1, .int y0, .int v2]) rfl ?_
  refine z_goto (tgt := 15) dX12_isRow_57 (by decide) ?_
  exact hk15 _ _ _ _ _ _ h
def f_X12_isRow_b47 (k15 : Nat → Int32 → Int32 → Int32 → zMe → Option (Int32 × zMe)) (x0 : Nat) (x2 : Int32) (x4 : Int32) (M : zMe) : Option (Int32 × zMe) :=
  f_X12_isRow_b48 k15 x0 x2 x4 0 M
set_option maxHeartbeats 4000000 in
set_option maxRecDepth 100000 in
theorem s_X12_isRow_b47 {g : zG} (hC : zC g) {k15 : Nat → Int32 → Int32 → Int32 → zMe → Option (Int32 × zMe)} (hk15 : ∀ (x0 : Nat) (x2 : Int32) (x3 : Int32) (x4 : Int32) (M : zMe) (q : (Int32 × zMe)), k15 x0 x2 x3 x4 M = some q → zW g mX12_isRow 15 [.ref x0, .retAddr 0, .int x2, .int x3, .int x4] [] M (some (.int q.1)) q.2) (x0 : Nat) (x2 : Int32) (x4 : Int32) (M : zMe) (q : (Int32 × zMe)) (h : f_X12_isRow_b47 k15 x0 x2 x4 M = some q) : zW g mX12_isRow 47 [.ref x0, .retAddr 0, .int x2, .retAddr 0, .int x4] [] M (some (.int q.1)) q.2 := by
  unfold f_X12_isRow_b47 at h
  refine z_iconst 0 (by decide) dX12_isRow_47 ?_
  exact s_X12_isRow_b48 hC hk15 _ _ _ _ _ _ h
def f_X12_isRow_b15  : Nat → Nat → Int32 → Int32 → Int32 → zMe → Option (Int32 × zMe)
  | 0, _, _, _, _, _ => none
  | n + 1, x0, x2, x3, x4, M =>
    (zgN M x0 [12] 0).bind fun a1 =>
    (zrI M a1 0).bind fun v1 =>
    if v1 ≤ x4 then (
      if x3 = 0 then (
        f_X12_isRow_b72 M)
      else (
        if x2 = 0 then (
          f_X12_isRow_b73 1 M)
        else (
          f_X12_isRow_b72 M)))
    else (
      if x3 = 0 then (
        f_X12_isRow_b47 (f_X12_isRow_b15 n) x0 x2 x4 M)
      else (
        zlet (x2 - x2 / 8 * 8) fun v2 =>
        (zgN M x0 [12] 0).bind fun a2 =>
        (zrI M a2 0).bind fun v3 =>
        if v3 ≤ v2 then (
          f_X12_isRow_b47 (f_X12_isRow_b15 n) x0 x2 x4 M)
        else (
          f_X12_isRow_b48 (f_X12_isRow_b15 n) x0 x2 x4 1 M)))
set_option maxHeartbeats 4000000 in
set_option maxRecDepth 100000 in
theorem s_X12_isRow_b15 {g : zG} (hC : zC g)  : ∀ (n : Nat) (x0 : Nat) (x2 : Int32) (x3 : Int32) (x4 : Int32) (M : zMe) (q : (Int32 × zMe)), f_X12_isRow_b15  n x0 x2 x3 x4 M = some q → zW g mX12_isRow 15 [.ref x0, .retAddr 0, .int x2, .int x3, .int x4] [] M (some (.int q.1)) q.2 := by
  intro n
  induction n with
  | zero => intro x0 x2 x3 x4 M q h; cases h
  | succ n ih =>
    intro x0 x2 x3 x4 M q h
    rw [f_X12_isRow_b15] at h
    refine z_iload (x := x4) rfl dX12_isRow_15 ?_
    refine z_aload_n (x := x0) rfl dX12_isRow_17 ?_
    obtain ⟨a1, h1, h⟩ := zbind h
    refine z_gN hC fs_X12_7 h1 dX12_isRow_18 ?_
    refine z_iconst 0 (by decide) dX12_isRow_21 ?_
    obtain ⟨v1, h2, h⟩ := zbind h
    refine z_rI h2 dX12_isRow_22 ?_
    refine z_icmp_ge (tgt := 60) dX12_isRow_23 (by decide) (fun c1 => ?_) (fun c1 => ?_)
    · have h := zift h c1
      refine z_iload_n (x := x3) rfl dX12_isRow_60 ?_
      refine z_if_eq (tgt := 72) dX12_isRow_61 (by decide) (fun c2 => ?_) (fun c2 => ?_)
      · have h := zift h c2
        refine zweak [false, false, false, false, false] ?_
        exact s_X12_isRow_b72 hC _ _ h
      · have h := zife h c2
        refine z_iload_n (x := x2) rfl dX12_isRow_64 ?_
        refine z_if_ne (tgt := 72) dX12_isRow_65 (by decide) (fun c3 => ?_) (fun c3 => ?_)
        · have h := zife h c3
          refine zweak [false, false, false, false, false] ?_
          exact s_X12_isRow_b72 hC _ _ h
        · have h := zift h c3
          refine z_iconst 1 (by decide) dX12_isRow_68 ?_
          refine z_goto (tgt := 73) dX12_isRow_69 (by decide) ?_
          refine zweak [false, false, false, false, false] ?_
          exact s_X12_isRow_b73 hC _ _ _ h
    · have h := zife h c1
      refine z_iload_n (x := x3) rfl dX12_isRow_26 ?_
      refine z_if_eq (tgt := 47) dX12_isRow_27 (by decide) (fun c4 => ?_) (fun c4 => ?_)
      · have h := zift h c4
        refine zweak [true, false, true, false, true] ?_
        exact s_X12_isRow_b47 hC ih _ _ _ _ _ h
      · have h := zife h c4
        refine z_iload_n (x := x2) rfl dX12_isRow_30 ?_
        refine z_bipush 8 (by decide) dX12_isRow_31 ?_
        refine z_irem (by decide) dX12_isRow_33 ?_
        refine z_nameI (fun v2 hv => ?_)
        have h := zlet_use h hv
        clear hv
        refine z_aload_n (x := x0) rfl dX12_isRow_34 ?_
        obtain ⟨a2, h3, h⟩ := zbind h
        refine z_gN hC fs_X12_7 h3 dX12_isRow_35 ?_
        refine z_iconst 0 (by decide) dX12_isRow_38 ?_
        obtain ⟨v3, h4, h⟩ := zbind h
        refine z_rI h4 dX12_isRow_39 ?_
        refine z_icmp_ge (tgt := 47) dX12_isRow_40 (by decide) (fun c5 => ?_) (fun c5 => ?_)
        · have h := zift h c5
          refine zweak [true, false, true, false, true] ?_
          exact s_X12_isRow_b47 hC ih _ _ _ _ _ h
        · have h := zife h c5
          refine z_iconst 1 (by decide) dX12_isRow_43 ?_
          refine z_goto (tgt := 48) dX12_isRow_44 (by decide) ?_
          refine zweak [true, false, true, false, true] ?_
          exact s_X12_isRow_b48 hC ih _ _ _ _ _ _ h
def f_X12_isRow_b11  (x0 : Nat) (x2 : Int32) (y0 : Int32) (M : zMe) : Option (Int32 × zMe) :=
  f_X12_isRow_b15 zfu x0 x2 y0 0 M
set_option maxHeartbeats 4000000 in
set_option maxRecDepth 100000 in
theorem s_X12_isRow_b11 {g : zG} (hC : zC g)  (x0 : Nat) (x2 : Int32) (y0 : Int32) (M : zMe) (q : (Int32 × zMe)) (h : f_X12_isRow_b11  x0 x2 y0 M = some q) : zW g mX12_isRow 11 [.ref x0, .retAddr 0, .int x2, .retAddr 0, .retAddr 0] [.int y0] M (some (.int q.1)) q.2 := by
  unfold f_X12_isRow_b11 at h
  refine z_istore_n dX12_isRow_11 (by decide) ?_
  refine zeqL (L2 := [.ref x0, .retAddr 0, .int x2, .int y0, .retAddr 0]) rfl ?_
  refine z_iconst 0 (by decide) dX12_isRow_12 ?_
  refine z_istore dX12_isRow_13 (by decide) ?_
  refine zeqL (L2 := [.ref x0, .retAddr 0, .int x2, .int y0, .int 0]) rfl ?_
  exact s_X12_isRow_b15 hC _ _ _ _ _ _ _ h
def f_X12_isRow (x0 : Nat) (x1 : Int32) (M : zMe) : Option (Int32 × zMe) :=
  if x1 < 0 then (
    f_X12_isRow_b11 x0 x1 0 M)
  else (
    f_X12_isRow_b11 x0 x1 1 M)
set_option maxHeartbeats 4000000 in
set_option maxRecDepth 100000 in
theorem s_X12_isRow {g : zG} (hC : zC g) {x0 : Nat} {x1 : Int32} {M : zMe} {q : (Int32 × zMe)} (h : f_X12_isRow x0 x1 M = some q) : zMet g yX12_isRow mX12_isRow [.ref x0, .int x1] M (some (.int q.1)) q.2 := by
  refine z_entry (by decide +kernel) rfl rfl (Nat.le_of_ble_eq_true rfl) ?_
  refine zeqL (L2 := [.ref x0, .int x1, .retAddr 0, .retAddr 0, .retAddr 0]) rfl ?_
  unfold f_X12_isRow at h
  refine z_iload_n (x := x1) rfl dX12_isRow_0 ?_
  refine z_istore_n dX12_isRow_1 (by decide) ?_
  refine zeqL (L2 := [.ref x0, .int x1, .int x1, .retAddr 0, .retAddr 0]) rfl ?_
  refine z_iload_n (x := x1) rfl dX12_isRow_2 ?_
  refine z_if_lt (tgt := 10) dX12_isRow_3 (by decide) (fun c1 => ?_) (fun c1 => ?_)
  · have h := zift h c1
    refine z_iconst 0 (by decide) dX12_isRow_10 ?_
    refine zweak [true, false, true, false, false] ?_
    exact s_X12_isRow_b11 hC _ _ _ _ _ h
  · have h := zife h c1
    refine z_iconst 1 (by decide) dX12_isRow_6 ?_
    refine z_goto (tgt := 11) dX12_isRow_7 (by decide) ?_
    refine zweak [true, false, true, false, false] ?_
    exact s_X12_isRow_b11 hC _ _ _ _ _ h
def f_X12_comes (x0 : Nat) (x1 : Int32) (x2 : Int32) (x3 : Int32) (x4 : Int32) (x5 : Int32) (x6 : Int32) (M : zMe) : Option (Int32 × zMe) :=
  (zgN M x0 [12] 0).bind fun a1 =>
  (zrI M a1 6).bind fun v1 =>
  if v1 = 3 then (
    (zob M x0 12).bind fun _ =>
    (f_X12_refuses x0 2 (-4) M).bind fun q1 =>
    some (q1.1, q1.2))
  else (
    (zgN M x0 [12] 0).bind fun a2 =>
    (zrI M a2 6).bind fun v2 =>
    zlet (7 + (6 * v2) : Int32) fun v3 =>
    (zgN M x0 [12] 0).bind fun a3 =>
    (zwI M a3 v3 x1).bind fun M1 =>
    (zgN M1 x0 [12] 0).bind fun a4 =>
    (zwI M1 a4 (v3 + 1) x2).bind fun M2 =>
    (zgN M2 x0 [12] 0).bind fun a5 =>
    (zwI M2 a5 (v3 + 2) x3).bind fun M3 =>
    (zgN M3 x0 [12] 0).bind fun a6 =>
    (zwI M3 a6 (v3 + 3) x4).bind fun M4 =>
    (zgN M4 x0 [12] 0).bind fun a7 =>
    (zwI M4 a7 (v3 + 4) x5).bind fun M5 =>
    (zgN M5 x0 [12] 0).bind fun a8 =>
    (zwI M5 a8 (v3 + 5) x6).bind fun M6 =>
    (zgN M6 x0 [12] 0).bind fun a9 =>
    (zrI M6 a9 6).bind fun v4 =>
    (zwI M6 a9 6 (v4 + 1)).bind fun M7 =>
    (zgN M7 x0 [12] 0).bind fun a10 =>
    (zrI M7 a10 6).bind fun v5 =>
    some (v5 - 1, M7))
set_option maxHeartbeats 4000000 in
set_option maxRecDepth 100000 in
theorem s_X12_comes {g : zG} (hC : zC g) {x0 : Nat} {x1 : Int32} {x2 : Int32} {x3 : Int32} {x4 : Int32} {x5 : Int32} {x6 : Int32} {M : zMe} {q : (Int32 × zMe)} (h : f_X12_comes x0 x1 x2 x3 x4 x5 x6 M = some q) : zMet g yX12_comes mX12_comes [.ref x0, .int x1, .int x2, .int x3, .int x4, .int x5, .int x6] M (some (.int q.1)) q.2 := by
  refine z_entry (by decide +kernel) rfl rfl (Nat.le_of_ble_eq_true rfl) ?_
  refine zeqL (L2 := [.ref x0, .int x1, .int x2, .int x3, .int x4, .int x5, .int x6, .retAddr 0]) rfl ?_
  unfold f_X12_comes at h
  refine z_aload_n (x := x0) rfl dX12_comes_0 ?_
  obtain ⟨a1, h1, h⟩ := zbind h
  refine z_gN hC fs_X12_7 h1 dX12_comes_1 ?_
  refine z_bipush 6 (by decide) dX12_comes_4 ?_
  obtain ⟨v1, h2, h⟩ := zbind h
  refine z_rI h2 dX12_comes_6 ?_
  refine z_iconst 3 (by decide) dX12_comes_7 ?_
  refine z_icmp_ne (tgt := 19) dX12_comes_8 (by decide) (fun c1 => ?_) (fun c1 => ?_)
  · have h := zife h c1
    refine z_bipush 7 (by decide) dX12_comes_19 ?_
    refine z_bipush 6 (by decide) dX12_comes_21 ?_
    refine z_aload_n (x := x0) rfl dX12_comes_23 ?_
    obtain ⟨a2, h4, h⟩ := zbind h
    refine z_gN hC fs_X12_7 h4 dX12_comes_24 ?_
    refine z_bipush 6 (by decide) dX12_comes_27 ?_
    obtain ⟨v2, h5, h⟩ := zbind h
    refine z_rI h5 dX12_comes_29 ?_
    refine z_imul dX12_comes_30 ?_
    refine z_iadd dX12_comes_31 ?_
    refine z_nameI (fun v3 hv => ?_)
    have h := zlet_use h hv
    clear hv
    refine z_istore dX12_comes_32 (by decide) ?_
    refine zeqL (L2 := [.ref x0, .int x1, .int x2, .int x3, .int x4, .int x5, .int x6, .int v3]) rfl ?_
    refine z_aload_n (x := x0) rfl dX12_comes_34 ?_
    obtain ⟨a3, h6, h⟩ := zbind h
    refine z_gN hC fs_X12_7 h6 dX12_comes_35 ?_
    refine z_iload (x := v3) rfl dX12_comes_38 ?_
    refine z_iload_n (x := x1) rfl dX12_comes_40 ?_
    obtain ⟨M1, h7, h⟩ := zbind h
    refine z_wI h7 dX12_comes_41 ?_
    refine z_aload_n (x := x0) rfl dX12_comes_42 ?_
    obtain ⟨a4, h8, h⟩ := zbind h
    refine z_gN hC fs_X12_7 h8 dX12_comes_43 ?_
    refine z_iload (x := v3) rfl dX12_comes_46 ?_
    refine z_iconst 1 (by decide) dX12_comes_48 ?_
    refine z_iadd dX12_comes_49 ?_
    refine z_iload_n (x := x2) rfl dX12_comes_50 ?_
    obtain ⟨M2, h9, h⟩ := zbind h
    refine z_wI h9 dX12_comes_51 ?_
    refine z_aload_n (x := x0) rfl dX12_comes_52 ?_
    obtain ⟨a5, h10, h⟩ := zbind h
    refine z_gN hC fs_X12_7 h10 dX12_comes_53 ?_
    refine z_iload (x := v3) rfl dX12_comes_56 ?_
    refine z_iconst 2 (by decide) dX12_comes_58 ?_
    refine z_iadd dX12_comes_59 ?_
    refine z_iload_n (x := x3) rfl dX12_comes_60 ?_
    obtain ⟨M3, h11, h⟩ := zbind h
    refine z_wI h11 dX12_comes_61 ?_
    refine z_aload_n (x := x0) rfl dX12_comes_62 ?_
    obtain ⟨a6, h12, h⟩ := zbind h
    refine z_gN hC fs_X12_7 h12 dX12_comes_63 ?_
    refine z_iload (x := v3) rfl dX12_comes_66 ?_
    refine z_iconst 3 (by decide) dX12_comes_68 ?_
    refine z_iadd dX12_comes_69 ?_
    refine z_iload (x := x4) rfl dX12_comes_70 ?_
    obtain ⟨M4, h13, h⟩ := zbind h
    refine z_wI h13 dX12_comes_72 ?_
    refine z_aload_n (x := x0) rfl dX12_comes_73 ?_
    obtain ⟨a7, h14, h⟩ := zbind h
    refine z_gN hC fs_X12_7 h14 dX12_comes_74 ?_
    refine z_iload (x := v3) rfl dX12_comes_77 ?_
    refine z_iconst 4 (by decide) dX12_comes_79 ?_
    refine z_iadd dX12_comes_80 ?_
    refine z_iload (x := x5) rfl dX12_comes_81 ?_
    obtain ⟨M5, h15, h⟩ := zbind h
    refine z_wI h15 dX12_comes_83 ?_
    refine z_aload_n (x := x0) rfl dX12_comes_84 ?_
    obtain ⟨a8, h16, h⟩ := zbind h
    refine z_gN hC fs_X12_7 h16 dX12_comes_85 ?_
    refine z_iload (x := v3) rfl dX12_comes_88 ?_
    refine z_iconst 5 (by decide) dX12_comes_90 ?_
    refine z_iadd dX12_comes_91 ?_
    refine z_iload (x := x6) rfl dX12_comes_92 ?_
    obtain ⟨M6, h17, h⟩ := zbind h
    refine z_wI h17 dX12_comes_94 ?_
    refine z_aload_n (x := x0) rfl dX12_comes_95 ?_
    obtain ⟨a9, h18, h⟩ := zbind h
    refine z_gN hC fs_X12_7 h18 dX12_comes_96 ?_
    refine z_bipush 6 (by decide) dX12_comes_99 ?_
    refine z_dup2 rfl rfl dX12_comes_101 ?_
    obtain ⟨v4, h19, h⟩ := zbind h
    refine z_rI h19 dX12_comes_102 ?_
    refine z_iconst 1 (by decide) dX12_comes_103 ?_
    refine z_iadd dX12_comes_104 ?_
    obtain ⟨M7, h20, h⟩ := zbind h
    refine z_wI h20 dX12_comes_105 ?_
    refine z_aload_n (x := x0) rfl dX12_comes_106 ?_
    obtain ⟨a10, h21, h⟩ := zbind h
    refine z_gN hC fs_X12_7 h21 dX12_comes_107 ?_
    refine z_bipush 6 (by decide) dX12_comes_110 ?_
    obtain ⟨v5, h22, h⟩ := zbind h
    refine z_rI h22 dX12_comes_112 ?_
    refine z_iconst 1 (by decide) dX12_comes_113 ?_
    refine z_isub dX12_comes_114 ?_
    obtain rfl := Option.some.inj h
    exact z_iret ⟨.int, rfl, rfl⟩ dX12_comes_115
  · have h := zift h c1
    refine z_aload_n (x := x0) rfl dX12_comes_11 ?_
    refine z_iconst 2 (by decide) dX12_comes_12 ?_
    refine z_bipush (-4) (by decide) dX12_comes_13 ?_
    obtain ⟨_, hb, h⟩ := zbind h
    obtain ⟨fs, hb⟩ := zob_some hb
    obtain ⟨q1, h3, h⟩ := zbind h
    refine z_callV (av := [.int 2, .int (-4)]) (rest := []) hC zcl_12 hb (s_X12_refuses hC h3) lk_X12_53 im_X12_refuses se_X12_refuses cd_X12_refuses ⟨by decide, by decide, (Nat.le_of_ble_eq_true rfl)⟩ dX12_comes_15 ?_
    clear hb fs
    refine zeqS (stk2 := [.int q1.1]) rfl ?_
    obtain rfl := Option.some.inj h
    exact z_iret ⟨.int, rfl, rfl⟩ dX12_comes_18
def f_X12_dog_b35  (x0 : Nat) (M : zMe) : Option (Int32 × zMe) :=
  (zob M x0 12).bind fun _ =>
  (f_X12_bad x0 M).bind fun q1 =>
  some (q1.1, q1.2)
set_option maxHeartbeats 4000000 in
set_option maxRecDepth 100000 in
theorem s_X12_dog_b35 {g : zG} (hC : zC g)  (x0 : Nat) (M : zMe) (q : (Int32 × zMe)) (h : f_X12_dog_b35  x0 M = some q) : zW g mX12_dog 35 [.ref x0, .retAddr 0, .retAddr 0, .retAddr 0] [] M (some (.int q.1)) q.2 := by
  unfold f_X12_dog_b35 at h
  refine z_aload_n (x := x0) rfl dX12_dog_35 ?_
  obtain ⟨_, hb, h⟩ := zbind h
  obtain ⟨fs, hb⟩ := zob_some hb
  obtain ⟨q1, h1, h⟩ := zbind h
  refine z_callV (av := []) (rest := []) hC zcl_12 hb (s_X12_bad hC h1) lk_X12_61 im_X12_bad se_X12_bad cd_X12_bad ⟨by decide, by decide, (Nat.le_of_ble_eq_true rfl)⟩ dX12_dog_36 ?_
  clear hb fs
  refine zeqS (stk2 := [.int q1.1]) rfl ?_
  obtain rfl := Option.some.inj h
  exact z_iret ⟨.int, rfl, rfl⟩ dX12_dog_39
def f_X12_dog (x0 : Nat) (x1 : Int32) (x2 : Int32) (x3 : Int32) (M : zMe) : Option (Int32 × zMe) :=
  (f_X12_in x1 0 4 M).bind fun q1 =>
  if q1.1 = 0 then (
    f_X12_dog_b35 x0 q1.2)
  else (
    if x1 = 2 then (
      f_X12_dog_b35 x0 q1.2)
    else (
      if x1 = 3 then (
        f_X12_dog_b35 x0 q1.2)
      else (
        (zob q1.2 x0 12).bind fun _ =>
        (f_X12_isRow x0 x2 q1.2).bind fun q2 =>
        if q2.1 = 0 then (
          f_X12_dog_b35 x0 q2.2)
        else (
          (zob q2.2 x0 12).bind fun _ =>
          (f_X12_isRow x0 x3 q2.2).bind fun q3 =>
          if q3.1 = 0 then (
            f_X12_dog_b35 x0 q3.2)
          else (
            (zob q3.2 x0 12).bind fun _ =>
            (f_X12_comes x0 x1 x2 x3 0 0 0 q3.2).bind fun q4 =>
            some (q4.1, q4.2))))))
set_option maxHeartbeats 4000000 in
set_option maxRecDepth 100000 in
theorem s_X12_dog {g : zG} (hC : zC g) {x0 : Nat} {x1 : Int32} {x2 : Int32} {x3 : Int32} {M : zMe} {q : (Int32 × zMe)} (h : f_X12_dog x0 x1 x2 x3 M = some q) : zMet g yX12_dog mX12_dog [.ref x0, .int x1, .int x2, .int x3] M (some (.int q.1)) q.2 := by
  refine z_entry (by decide +kernel) rfl rfl (Nat.le_of_ble_eq_true rfl) ?_
  refine zeqL (L2 := [.ref x0, .int x1, .int x2, .int x3]) rfl ?_
  unfold f_X12_dog at h
  refine z_iload_n (x := x1) rfl dX12_dog_0 ?_
  refine z_iconst 0 (by decide) dX12_dog_1 ?_
  refine z_iconst 4 (by decide) dX12_dog_2 ?_
  obtain ⟨q1, h1, h⟩ := zbind h
  refine z_callS (av := [.int x1, .int 0, .int 4]) (rest := []) hC (s_X12_in hC h1) lk_X12_57 st_X12_in cd_X12_in ⟨by decide, by decide, (Nat.le_of_ble_eq_true rfl)⟩ dX12_dog_3 ?_
  refine zeqS (stk2 := [.int q1.1]) rfl ?_
  refine z_if_eq (tgt := 35) dX12_dog_6 (by decide) (fun c1 => ?_) (fun c1 => ?_)
  · have h := zift h c1
    refine zweak [true, false, false, false] ?_
    exact s_X12_dog_b35 hC _ _ _ h
  · have h := zife h c1
    refine z_iload_n (x := x1) rfl dX12_dog_9 ?_
    refine z_iconst 2 (by decide) dX12_dog_10 ?_
    refine z_icmp_eq (tgt := 35) dX12_dog_11 (by decide) (fun c2 => ?_) (fun c2 => ?_)
    · have h := zift h c2
      refine zweak [true, false, false, false] ?_
      exact s_X12_dog_b35 hC _ _ _ h
    · have h := zife h c2
      refine z_iload_n (x := x1) rfl dX12_dog_14 ?_
      refine z_iconst 3 (by decide) dX12_dog_15 ?_
      refine z_icmp_eq (tgt := 35) dX12_dog_16 (by decide) (fun c3 => ?_) (fun c3 => ?_)
      · have h := zift h c3
        refine zweak [true, false, false, false] ?_
        exact s_X12_dog_b35 hC _ _ _ h
      · have h := zife h c3
        refine z_aload_n (x := x0) rfl dX12_dog_19 ?_
        refine z_iload_n (x := x2) rfl dX12_dog_20 ?_
        obtain ⟨_, hb, h⟩ := zbind h
        obtain ⟨fs, hb⟩ := zob_some hb
        obtain ⟨q2, h2, h⟩ := zbind h
        refine z_callV (av := [.int x2]) (rest := []) hC zcl_12 hb (s_X12_isRow hC h2) lk_X12_65 im_X12_isRow se_X12_isRow cd_X12_isRow ⟨by decide, by decide, (Nat.le_of_ble_eq_true rfl)⟩ dX12_dog_21 ?_
        clear hb fs
        refine zeqS (stk2 := [.int q2.1]) rfl ?_
        refine z_if_eq (tgt := 35) dX12_dog_24 (by decide) (fun c4 => ?_) (fun c4 => ?_)
        · have h := zift h c4
          refine zweak [true, false, false, false] ?_
          exact s_X12_dog_b35 hC _ _ _ h
        · have h := zife h c4
          refine z_aload_n (x := x0) rfl dX12_dog_27 ?_
          refine z_iload_n (x := x3) rfl dX12_dog_28 ?_
          obtain ⟨_, hb, h⟩ := zbind h
          obtain ⟨fs, hb⟩ := zob_some hb
          obtain ⟨q3, h3, h⟩ := zbind h
          refine z_callV (av := [.int x3]) (rest := []) hC zcl_12 hb (s_X12_isRow hC h3) lk_X12_65 im_X12_isRow se_X12_isRow cd_X12_isRow ⟨by decide, by decide, (Nat.le_of_ble_eq_true rfl)⟩ dX12_dog_29 ?_
          clear hb fs
          refine zeqS (stk2 := [.int q3.1]) rfl ?_
          refine z_if_ne (tgt := 40) dX12_dog_32 (by decide) (fun c5 => ?_) (fun c5 => ?_)
          · have h := zife h c5
            refine z_aload_n (x := x0) rfl dX12_dog_40 ?_
            refine z_iload_n (x := x1) rfl dX12_dog_41 ?_
            refine z_iload_n (x := x2) rfl dX12_dog_42 ?_
            refine z_iload_n (x := x3) rfl dX12_dog_43 ?_
            refine z_iconst 0 (by decide) dX12_dog_44 ?_
            refine z_iconst 0 (by decide) dX12_dog_45 ?_
            refine z_iconst 0 (by decide) dX12_dog_46 ?_
            obtain ⟨_, hb, h⟩ := zbind h
            obtain ⟨fs, hb⟩ := zob_some hb
            obtain ⟨q4, h4, h⟩ := zbind h
            refine z_callV (av := [.int x1, .int x2, .int x3, .int 0, .int 0, .int 0]) (rest := []) hC zcl_12 hb (s_X12_comes hC h4) lk_X12_69 im_X12_comes se_X12_comes cd_X12_comes ⟨by decide, by decide, (Nat.le_of_ble_eq_true rfl)⟩ dX12_dog_47 ?_
            clear hb fs
            refine zeqS (stk2 := [.int q4.1]) rfl ?_
            obtain rfl := Option.some.inj h
            exact z_iret ⟨.int, rfl, rfl⟩ dX12_dog_50
          · have h := zift h c5
            refine zweak [true, false, false, false] ?_
            exact s_X12_dog_b35 hC _ _ _ h
def f_X12_pup_b53  (x0 : Nat) (M : zMe) : Option (Int32 × zMe) :=
  (zob M x0 12).bind fun _ =>
  (f_X12_bad x0 M).bind fun q1 =>
  some (q1.1, q1.2)
set_option maxHeartbeats 4000000 in
set_option maxRecDepth 100000 in
theorem s_X12_pup_b53 {g : zG} (hC : zC g)  (x0 : Nat) (M : zMe) (q : (Int32 × zMe)) (h : f_X12_pup_b53  x0 M = some q) : zW g mX12_pup 53 [.ref x0, .retAddr 0, .retAddr 0, .retAddr 0, .retAddr 0, .retAddr 0, .retAddr 0] [] M (some (.int q.1)) q.2 := by
  unfold f_X12_pup_b53 at h
  refine z_aload_n (x := x0) rfl dX12_pup_53 ?_
  obtain ⟨_, hb, h⟩ := zbind h
  obtain ⟨fs, hb⟩ := zob_some hb
  obtain ⟨q1, h1, h⟩ := zbind h
  refine z_callV (av := []) (rest := []) hC zcl_12 hb (s_X12_bad hC h1) lk_X12_61 im_X12_bad se_X12_bad cd_X12_bad ⟨by decide, by decide, (Nat.le_of_ble_eq_true rfl)⟩ dX12_pup_54 ?_
  clear hb fs
  refine zeqS (stk2 := [.int q1.1]) rfl ?_
  obtain rfl := Option.some.inj h
  exact z_iret ⟨.int, rfl, rfl⟩ dX12_pup_57
def f_X12_pup (x0 : Nat) (x1 : Int32) (x2 : Int32) (x3 : Int32) (x4 : Int32) (x5 : Int32) (x6 : Int32) (M : zMe) : Option (Int32 × zMe) :=
  (f_X12_in x1 2 3 M).bind fun q1 =>
  if q1.1 = 0 then (
    f_X12_pup_b53 x0 q1.2)
  else (
    (zob q1.2 x0 12).bind fun _ =>
    (f_X12_isRow x0 x2 q1.2).bind fun q2 =>
    if q2.1 = 0 then (
      f_X12_pup_b53 x0 q2.2)
    else (
      (zob q2.2 x0 12).bind fun _ =>
      (f_X12_isRow x0 x3 q2.2).bind fun q3 =>
      if q3.1 = 0 then (
        f_X12_pup_b53 x0 q3.2)
      else (
        (zob q3.2 x0 12).bind fun _ =>
        (f_X12_isRow x0 x4 q3.2).bind fun q4 =>
        if q4.1 = 0 then (
          f_X12_pup_b53 x0 q4.2)
        else (
          (zob q4.2 x0 12).bind fun _ =>
          (f_X12_isRow x0 x5 q4.2).bind fun q5 =>
          if q5.1 = 0 then (
            f_X12_pup_b53 x0 q5.2)
          else (
            (f_X12_in x6 1 3 q5.2).bind fun q6 =>
            if q6.1 = 0 then (
              f_X12_pup_b53 x0 q6.2)
            else (
              (zob q6.2 x0 12).bind fun _ =>
              (f_X12_comes x0 x1 x2 x3 x4 x5 x6 q6.2).bind fun q7 =>
              some (q7.1, q7.2)))))))
set_option maxHeartbeats 4000000 in
set_option maxRecDepth 100000 in
theorem s_X12_pup {g : zG} (hC : zC g) {x0 : Nat} {x1 : Int32} {x2 : Int32} {x3 : Int32} {x4 : Int32} {x5 : Int32} {x6 : Int32} {M : zMe} {q : (Int32 × zMe)} (h : f_X12_pup x0 x1 x2 x3 x4 x5 x6 M = some q) : zMet g yX12_pup mX12_pup [.ref x0, .int x1, .int x2, .int x3, .int x4, .int x5, .int x6] M (some (.int q.1)) q.2 := by
  refine z_entry (by decide +kernel) rfl rfl (Nat.le_of_ble_eq_true rfl) ?_
  refine zeqL (L2 := [.ref x0, .int x1, .int x2, .int x3, .int x4, .int x5, .int x6]) rfl ?_
  unfold f_X12_pup at h
  refine z_iload_n (x := x1) rfl dX12_pup_0 ?_
  refine z_iconst 2 (by decide) dX12_pup_1 ?_
  refine z_iconst 3 (by decide) dX12_pup_2 ?_
  obtain ⟨q1, h1, h⟩ := zbind h
  refine z_callS (av := [.int x1, .int 2, .int 3]) (rest := []) hC (s_X12_in hC h1) lk_X12_57 st_X12_in cd_X12_in ⟨by decide, by decide, (Nat.le_of_ble_eq_true rfl)⟩ dX12_pup_3 ?_
  refine zeqS (stk2 := [.int q1.1]) rfl ?_
  refine z_if_eq (tgt := 53) dX12_pup_6 (by decide) (fun c1 => ?_) (fun c1 => ?_)
  · have h := zift h c1
    refine zweak [true, false, false, false, false, false, false] ?_
    exact s_X12_pup_b53 hC _ _ _ h
  · have h := zife h c1
    refine z_aload_n (x := x0) rfl dX12_pup_9 ?_
    refine z_iload_n (x := x2) rfl dX12_pup_10 ?_
    obtain ⟨_, hb, h⟩ := zbind h
    obtain ⟨fs, hb⟩ := zob_some hb
    obtain ⟨q2, h2, h⟩ := zbind h
    refine z_callV (av := [.int x2]) (rest := []) hC zcl_12 hb (s_X12_isRow hC h2) lk_X12_65 im_X12_isRow se_X12_isRow cd_X12_isRow ⟨by decide, by decide, (Nat.le_of_ble_eq_true rfl)⟩ dX12_pup_11 ?_
    clear hb fs
    refine zeqS (stk2 := [.int q2.1]) rfl ?_
    refine z_if_eq (tgt := 53) dX12_pup_14 (by decide) (fun c2 => ?_) (fun c2 => ?_)
    · have h := zift h c2
      refine zweak [true, false, false, false, false, false, false] ?_
      exact s_X12_pup_b53 hC _ _ _ h
    · have h := zife h c2
      refine z_aload_n (x := x0) rfl dX12_pup_17 ?_
      refine z_iload_n (x := x3) rfl dX12_pup_18 ?_
      obtain ⟨_, hb, h⟩ := zbind h
      obtain ⟨fs, hb⟩ := zob_some hb
      obtain ⟨q3, h3, h⟩ := zbind h
      refine z_callV (av := [.int x3]) (rest := []) hC zcl_12 hb (s_X12_isRow hC h3) lk_X12_65 im_X12_isRow se_X12_isRow cd_X12_isRow ⟨by decide, by decide, (Nat.le_of_ble_eq_true rfl)⟩ dX12_pup_19 ?_
      clear hb fs
      refine zeqS (stk2 := [.int q3.1]) rfl ?_
      refine z_if_eq (tgt := 53) dX12_pup_22 (by decide) (fun c3 => ?_) (fun c3 => ?_)
      · have h := zift h c3
        refine zweak [true, false, false, false, false, false, false] ?_
        exact s_X12_pup_b53 hC _ _ _ h
      · have h := zife h c3
        refine z_aload_n (x := x0) rfl dX12_pup_25 ?_
        refine z_iload (x := x4) rfl dX12_pup_26 ?_
        obtain ⟨_, hb, h⟩ := zbind h
        obtain ⟨fs, hb⟩ := zob_some hb
        obtain ⟨q4, h4, h⟩ := zbind h
        refine z_callV (av := [.int x4]) (rest := []) hC zcl_12 hb (s_X12_isRow hC h4) lk_X12_65 im_X12_isRow se_X12_isRow cd_X12_isRow ⟨by decide, by decide, (Nat.le_of_ble_eq_true rfl)⟩ dX12_pup_28 ?_
        clear hb fs
        refine zeqS (stk2 := [.int q4.1]) rfl ?_
        refine z_if_eq (tgt := 53) dX12_pup_31 (by decide) (fun c4 => ?_) (fun c4 => ?_)
        · have h := zift h c4
          refine zweak [true, false, false, false, false, false, false] ?_
          exact s_X12_pup_b53 hC _ _ _ h
        · have h := zife h c4
          refine z_aload_n (x := x0) rfl dX12_pup_34 ?_
          refine z_iload (x := x5) rfl dX12_pup_35 ?_
          obtain ⟨_, hb, h⟩ := zbind h
          obtain ⟨fs, hb⟩ := zob_some hb
          obtain ⟨q5, h5, h⟩ := zbind h
          refine z_callV (av := [.int x5]) (rest := []) hC zcl_12 hb (s_X12_isRow hC h5) lk_X12_65 im_X12_isRow se_X12_isRow cd_X12_isRow ⟨by decide, by decide, (Nat.le_of_ble_eq_true rfl)⟩ dX12_pup_37 ?_
          clear hb fs
          refine zeqS (stk2 := [.int q5.1]) rfl ?_
          refine z_if_eq (tgt := 53) dX12_pup_40 (by decide) (fun c5 => ?_) (fun c5 => ?_)
          · have h := zift h c5
            refine zweak [true, false, false, false, false, false, false] ?_
            exact s_X12_pup_b53 hC _ _ _ h
          · have h := zife h c5
            refine z_iload (x := x6) rfl dX12_pup_43 ?_
            refine z_iconst 1 (by decide) dX12_pup_45 ?_
            refine z_iconst 3 (by decide) dX12_pup_46 ?_
            obtain ⟨q6, h6, h⟩ := zbind h
            refine z_callS (av := [.int x6, .int 1, .int 3]) (rest := []) hC (s_X12_in hC h6) lk_X12_57 st_X12_in cd_X12_in ⟨by decide, by decide, (Nat.le_of_ble_eq_true rfl)⟩ dX12_pup_47 ?_
            refine zeqS (stk2 := [.int q6.1]) rfl ?_
            refine z_if_ne (tgt := 58) dX12_pup_50 (by decide) (fun c6 => ?_) (fun c6 => ?_)
            · have h := zife h c6
              refine z_aload_n (x := x0) rfl dX12_pup_58 ?_
              refine z_iload_n (x := x1) rfl dX12_pup_59 ?_
              refine z_iload_n (x := x2) rfl dX12_pup_60 ?_
              refine z_iload_n (x := x3) rfl dX12_pup_61 ?_
              refine z_iload (x := x4) rfl dX12_pup_62 ?_
              refine z_iload (x := x5) rfl dX12_pup_64 ?_
              refine z_iload (x := x6) rfl dX12_pup_66 ?_
              obtain ⟨_, hb, h⟩ := zbind h
              obtain ⟨fs, hb⟩ := zob_some hb
              obtain ⟨q7, h7, h⟩ := zbind h
              refine z_callV (av := [.int x1, .int x2, .int x3, .int x4, .int x5, .int x6]) (rest := []) hC zcl_12 hb (s_X12_comes hC h7) lk_X12_69 im_X12_comes se_X12_comes cd_X12_comes ⟨by decide, by decide, (Nat.le_of_ble_eq_true rfl)⟩ dX12_pup_68 ?_
              clear hb fs
              refine zeqS (stk2 := [.int q7.1]) rfl ?_
              obtain rfl := Option.some.inj h
              exact z_iret ⟨.int, rfl, rfl⟩ dX12_pup_71
            · have h := zift h c6
              refine zweak [true, false, false, false, false, false, false] ?_
              exact s_X12_pup_b53 hC _ _ _ h
def f_X12_shut_b32  (x0 : Nat) (x1 : Int32) (x2 : Int32) (y0 : Int32) (M : zMe) : Option (Int32 × zMe) :=
  if y0 = x2 then (
    (zob M x0 12).bind fun _ =>
    (f_X12_refuses x0 1 (-3) M).bind fun q1 =>
    some (q1.1, q1.2))
  else (
    (zgN M x0 [12] 0).bind fun a1 =>
    (zrI M a1 1).bind fun v1 =>
    (zwI M a1 1 (v1 ^^^ ((1 : Int32) <<< (x1 &&& 31)))).bind fun M1 =>
    some (1, M1))
set_option maxHeartbeats 4000000 in
set_option maxRecDepth 100000 in
theorem s_X12_shut_b32 {g : zG} (hC : zC g)  (x0 : Nat) (x1 : Int32) (x2 : Int32) (y0 : Int32) (M : zMe) (q : (Int32 × zMe)) (h : f_X12_shut_b32  x0 x1 x2 y0 M = some q) : zW g mX12_shut 32 [.ref x0, .int x1, .int x2, .retAddr 0] [.int y0] M (some (.int q.1)) q.2 := by
  unfold f_X12_shut_b32 at h
  refine z_istore_n dX12_shut_32 (by decide) ?_
  refine zeqL (L2 := [.ref x0, .int x1, .int x2, .int y0]) rfl ?_
  refine z_iload_n (x := y0) rfl dX12_shut_33 ?_
  refine z_iload_n (x := x2) rfl dX12_shut_34 ?_
  refine z_icmp_ne (tgt := 46) dX12_shut_35 (by decide) (fun c1 => ?_) (fun c1 => ?_)
  · have h := zife h c1
    refine z_aload_n (x := x0) rfl dX12_shut_46 ?_
    obtain ⟨a1, h2, h⟩ := zbind h
    refine z_gN hC fs_X12_7 h2 dX12_shut_47 ?_
    refine z_iconst 1 (by decide) dX12_shut_50 ?_
    refine z_dup2 rfl rfl dX12_shut_51 ?_
    obtain ⟨v1, h3, h⟩ := zbind h
    refine z_rI h3 dX12_shut_52 ?_
    refine z_iconst 1 (by decide) dX12_shut_53 ?_
    refine z_iload_n (x := x1) rfl dX12_shut_54 ?_
    refine z_ishl dX12_shut_55 ?_
    refine z_ixor dX12_shut_56 ?_
    obtain ⟨M1, h4, h⟩ := zbind h
    refine z_wI h4 dX12_shut_57 ?_
    refine z_iconst 1 (by decide) dX12_shut_58 ?_
    obtain rfl := Option.some.inj h
    exact z_iret ⟨.int, rfl, rfl⟩ dX12_shut_59
  · have h := zift h c1
    refine z_aload_n (x := x0) rfl dX12_shut_38 ?_
    refine z_iconst 1 (by decide) dX12_shut_39 ?_
    refine z_bipush (-3) (by decide) dX12_shut_40 ?_
    obtain ⟨_, hb, h⟩ := zbind h
    obtain ⟨fs, hb⟩ := zob_some hb
    obtain ⟨q1, h1, h⟩ := zbind h
    refine z_callV (av := [.int 1, .int (-3)]) (rest := []) hC zcl_12 hb (s_X12_refuses hC h1) lk_X12_53 im_X12_refuses se_X12_refuses cd_X12_refuses ⟨by decide, by decide, (Nat.le_of_ble_eq_true rfl)⟩ dX12_shut_42 ?_
    clear hb fs
    refine zeqS (stk2 := [.int q1.1]) rfl ?_
    obtain rfl := Option.some.inj h
    exact z_iret ⟨.int, rfl, rfl⟩ dX12_shut_45
def f_X12_shut (x0 : Nat) (x1 : Int32) (x2 : Int32) (M : zMe) : Option (Int32 × zMe) :=
  (zob M x0 12).bind fun _ =>
  (f_X12_isPlace x0 x1 M).bind fun q1 =>
  if q1.1 = 0 then (
    (zob q1.2 x0 12).bind fun _ =>
    (f_X12_bad x0 q1.2).bind fun q2 =>
    some (q2.1, q2.2))
  else (
    (zgN q1.2 x0 [12] 0).bind fun a1 =>
    (zrI q1.2 a1 1).bind fun v1 =>
    if ((v1 >>> (x1 &&& 31)) &&& 1) = 1 then (
      f_X12_shut_b32 x0 x1 x2 1 q1.2)
    else (
      f_X12_shut_b32 x0 x1 x2 0 q1.2))
set_option maxHeartbeats 4000000 in
set_option maxRecDepth 100000 in
theorem s_X12_shut {g : zG} (hC : zC g) {x0 : Nat} {x1 : Int32} {x2 : Int32} {M : zMe} {q : (Int32 × zMe)} (h : f_X12_shut x0 x1 x2 M = some q) : zMet g yX12_shut mX12_shut [.ref x0, .int x1, .int x2] M (some (.int q.1)) q.2 := by
  refine z_entry (by decide +kernel) rfl rfl (Nat.le_of_ble_eq_true rfl) ?_
  refine zeqL (L2 := [.ref x0, .int x1, .int x2, .retAddr 0]) rfl ?_
  unfold f_X12_shut at h
  refine z_aload_n (x := x0) rfl dX12_shut_0 ?_
  refine z_iload_n (x := x1) rfl dX12_shut_1 ?_
  obtain ⟨_, hb, h⟩ := zbind h
  obtain ⟨fs, hb⟩ := zob_some hb
  obtain ⟨q1, h1, h⟩ := zbind h
  refine z_callV (av := [.int x1]) (rest := []) hC zcl_12 hb (s_X12_isPlace hC h1) lk_X12_73 im_X12_isPlace se_X12_isPlace cd_X12_isPlace ⟨by decide, by decide, (Nat.le_of_ble_eq_true rfl)⟩ dX12_shut_2 ?_
  clear hb fs
  refine zeqS (stk2 := [.int q1.1]) rfl ?_
  refine z_if_ne (tgt := 13) dX12_shut_5 (by decide) (fun c1 => ?_) (fun c1 => ?_)
  · have h := zife h c1
    refine z_aload_n (x := x0) rfl dX12_shut_13 ?_
    obtain ⟨a1, h3, h⟩ := zbind h
    refine z_gN hC fs_X12_7 h3 dX12_shut_14 ?_
    refine z_iconst 1 (by decide) dX12_shut_17 ?_
    obtain ⟨v1, h4, h⟩ := zbind h
    refine z_rI h4 dX12_shut_18 ?_
    refine z_iload_n (x := x1) rfl dX12_shut_19 ?_
    refine z_ishr dX12_shut_20 ?_
    refine z_iconst 1 (by decide) dX12_shut_21 ?_
    refine z_iand dX12_shut_22 ?_
    refine z_iconst 1 (by decide) dX12_shut_23 ?_
    refine z_icmp_ne (tgt := 31) dX12_shut_24 (by decide) (fun c2 => ?_) (fun c2 => ?_)
    · have h := zife h c2
      refine z_iconst 0 (by decide) dX12_shut_31 ?_
      exact s_X12_shut_b32 hC _ _ _ _ _ _ h
    · have h := zift h c2
      refine z_iconst 1 (by decide) dX12_shut_27 ?_
      refine z_goto (tgt := 32) dX12_shut_28 (by decide) ?_
      exact s_X12_shut_b32 hC _ _ _ _ _ _ h
  · have h := zift h c1
    refine z_aload_n (x := x0) rfl dX12_shut_8 ?_
    obtain ⟨_, hb, h⟩ := zbind h
    obtain ⟨fs, hb⟩ := zob_some hb
    obtain ⟨q2, h2, h⟩ := zbind h
    refine z_callV (av := []) (rest := []) hC zcl_12 hb (s_X12_bad hC h2) lk_X12_61 im_X12_bad se_X12_bad cd_X12_bad ⟨by decide, by decide, (Nat.le_of_ble_eq_true rfl)⟩ dX12_shut_9 ?_
    clear hb fs
    refine zeqS (stk2 := [.int q2.1]) rfl ?_
    obtain rfl := Option.some.inj h
    exact z_iret ⟨.int, rfl, rfl⟩ dX12_shut_12
def f_X12_put_b56  (x0 : Nat) (M : zMe) : Option (Int32 × zMe) :=
  (zob M x0 12).bind fun _ =>
  (f_X12_bad x0 M).bind fun q1 =>
  some (q1.1, q1.2)
set_option maxHeartbeats 4000000 in
set_option maxRecDepth 100000 in
theorem s_X12_put_b56 {g : zG} (hC : zC g)  (x0 : Nat) (M : zMe) (q : (Int32 × zMe)) (h : f_X12_put_b56  x0 M = some q) : zW g mX12_put 56 [.ref x0, .retAddr 0, .retAddr 0, .retAddr 0, .retAddr 0, .retAddr 0] [] M (some (.int q.1)) q.2 := by
  unfold f_X12_put_b56 at h
  refine z_aload_n (x := x0) rfl dX12_put_56 ?_
  obtain ⟨_, hb, h⟩ := zbind h
  obtain ⟨fs, hb⟩ := zob_some hb
  obtain ⟨q1, h1, h⟩ := zbind h
  refine z_callV (av := []) (rest := []) hC zcl_12 hb (s_X12_bad hC h1) lk_X12_61 im_X12_bad se_X12_bad cd_X12_bad ⟨by decide, by decide, (Nat.le_of_ble_eq_true rfl)⟩ dX12_put_57 ?_
  clear hb fs
  refine zeqS (stk2 := [.int q1.1]) rfl ?_
  obtain rfl := Option.some.inj h
  exact z_iret ⟨.int, rfl, rfl⟩ dX12_put_60
def f_X12_put_b42  (x0 : Nat) (x1 : Int32) (x2 : Int32) (y0 : Int32) (M : zMe) : Option (Int32 × zMe) :=
  (f_X12_in x1 0 3 M).bind fun q1 =>
  if q1.1 = 0 then (
    f_X12_put_b56 x0 q1.2)
  else (
    if y0 = 0 then (
      f_X12_put_b56 x0 q1.2)
    else (
      zlet (2 + x1 : Int32) fun v1 =>
      (zgN q1.2 x0 [12] 0).bind fun a1 =>
      (zrI q1.2 a1 v1).bind fun v2 =>
      (zgN q1.2 x0 [12] 0).bind fun a2 =>
      (zwI q1.2 a2 v1 x2).bind fun M1 =>
      some (v2, M1)))
set_option maxHeartbeats 4000000 in
set_option maxRecDepth 100000 in
theorem s_X12_put_b42 {g : zG} (hC : zC g)  (x0 : Nat) (x1 : Int32) (x2 : Int32) (y0 : Int32) (M : zMe) (q : (Int32 × zMe)) (h : f_X12_put_b42  x0 x1 x2 y0 M = some q) : zW g mX12_put 42 [.ref x0, .int x1, .int x2, .retAddr 0, .retAddr 0, .retAddr 0] [.int y0] M (some (.int q.1)) q.2 := by
  unfold f_X12_put_b42 at h
  refine z_istore_n dX12_put_42 (by decide) ?_
  refine zeqL (L2 := [.ref x0, .int x1, .int x2, .int y0, .retAddr 0, .retAddr 0]) rfl ?_
  refine z_iload_n (x := x1) rfl dX12_put_43 ?_
  refine z_iconst 0 (by decide) dX12_put_44 ?_
  refine z_iconst 3 (by decide) dX12_put_45 ?_
  obtain ⟨q1, h1, h⟩ := zbind h
  refine z_callS (av := [.int x1, .int 0, .int 3]) (rest := []) hC (s_X12_in hC h1) lk_X12_57 st_X12_in cd_X12_in ⟨by decide, by decide, (Nat.le_of_ble_eq_true rfl)⟩ dX12_put_46 ?_
  refine zeqS (stk2 := [.int q1.1]) rfl ?_
  refine z_if_eq (tgt := 56) dX12_put_49 (by decide) (fun c1 => ?_) (fun c1 => ?_)
  · have h := zift h c1
    refine zweak [true, false, false, false, false, false] ?_
    exact s_X12_put_b56 hC _ _ _ h
  · have h := zife h c1
    refine z_iload_n (x := y0) rfl dX12_put_52 ?_
    refine z_if_ne (tgt := 61) dX12_put_53 (by decide) (fun c2 => ?_) (fun c2 => ?_)
    · have h := zife h c2
      refine z_iconst 2 (by decide) dX12_put_61 ?_
      refine z_iload_n (x := x1) rfl dX12_put_62 ?_
      refine z_iadd dX12_put_63 ?_
      refine z_nameI (fun v1 hv => ?_)
      have h := zlet_use h hv
      clear hv
      refine z_istore dX12_put_64 (by decide) ?_
      refine zeqL (L2 := [.ref x0, .int x1, .int x2, .int y0, .int v1, .retAddr 0]) rfl ?_
      refine z_aload_n (x := x0) rfl dX12_put_66 ?_
      obtain ⟨a1, h2, h⟩ := zbind h
      refine z_gN hC fs_X12_7 h2 dX12_put_67 ?_
      refine z_iload (x := v1) rfl dX12_put_70 ?_
      obtain ⟨v2, h3, h⟩ := zbind h
      refine z_rI h3 dX12_put_72 ?_
      refine z_istore dX12_put_73 (by decide) ?_
      refine zeqL (L2 := [.ref x0, .int x1, .int x2, .int y0, .int v1, .int v2]) rfl ?_
      refine z_aload_n (x := x0) rfl dX12_put_75 ?_
      obtain ⟨a2, h4, h⟩ := zbind h
      refine z_gN hC fs_X12_7 h4 dX12_put_76 ?_
      refine z_iload (x := v1) rfl dX12_put_79 ?_
      refine z_iload_n (x := x2) rfl dX12_put_81 ?_
      obtain ⟨M1, h5, h⟩ := zbind h
      refine z_wI h5 dX12_put_82 ?_
      refine z_iload (x := v2) rfl dX12_put_83 ?_
      obtain rfl := Option.some.inj h
      exact z_iret ⟨.int, rfl, rfl⟩ dX12_put_85
    · have h := zift h c2
      refine zweak [true, false, false, false, false, false] ?_
      exact s_X12_put_b56 hC _ _ _ h
def f_X12_put (x0 : Nat) (x1 : Int32) (x2 : Int32) (M : zMe) : Option (Int32 × zMe) :=
  if x1 = 0 then (
    (zob M x0 12).bind fun _ =>
    (f_X12_isPlace x0 x2 M).bind fun q1 =>
    f_X12_put_b42 x0 x1 x2 q1.1 q1.2)
  else (
    if x1 = 1 then (
      (zgN M x0 [12] 0).bind fun a1 =>
      (zrI M a1 0).bind fun v1 =>
      (f_X12_in x2 0 (((1 : Int32) <<< (v1 &&& 31)) - 1) M).bind fun q2 =>
      f_X12_put_b42 x0 x1 x2 q2.1 q2.2)
    else (
      (f_X12_in x2 1 9 M).bind fun q3 =>
      f_X12_put_b42 x0 x1 x2 q3.1 q3.2))
set_option maxHeartbeats 4000000 in
set_option maxRecDepth 100000 in
theorem s_X12_put {g : zG} (hC : zC g) {x0 : Nat} {x1 : Int32} {x2 : Int32} {M : zMe} {q : (Int32 × zMe)} (h : f_X12_put x0 x1 x2 M = some q) : zMet g yX12_put mX12_put [.ref x0, .int x1, .int x2] M (some (.int q.1)) q.2 := by
  refine z_entry (by decide +kernel) rfl rfl (Nat.le_of_ble_eq_true rfl) ?_
  refine zeqL (L2 := [.ref x0, .int x1, .int x2, .retAddr 0, .retAddr 0, .retAddr 0]) rfl ?_
  unfold f_X12_put at h
  refine z_iload_n (x := x1) rfl dX12_put_0 ?_
  refine z_if_ne (tgt := 12) dX12_put_1 (by decide) (fun c1 => ?_) (fun c1 => ?_)
  · have h := zife h c1
    refine z_iload_n (x := x1) rfl dX12_put_12 ?_
    refine z_iconst 1 (by decide) dX12_put_13 ?_
    refine z_icmp_ne (tgt := 35) dX12_put_14 (by decide) (fun c2 => ?_) (fun c2 => ?_)
    · have h := zife h c2
      refine z_iload_n (x := x2) rfl dX12_put_35 ?_
      refine z_iconst 1 (by decide) dX12_put_36 ?_
      refine z_bipush 9 (by decide) dX12_put_37 ?_
      obtain ⟨q3, h5, h⟩ := zbind h
      refine z_callS (av := [.int x2, .int 1, .int 9]) (rest := []) hC (s_X12_in hC h5) lk_X12_57 st_X12_in cd_X12_in ⟨by decide, by decide, (Nat.le_of_ble_eq_true rfl)⟩ dX12_put_39 ?_
      refine zeqS (stk2 := [.int q3.1]) rfl ?_
      exact s_X12_put_b42 hC _ _ _ _ _ _ h
    · have h := zift h c2
      refine z_iload_n (x := x2) rfl dX12_put_17 ?_
      refine z_iconst 0 (by decide) dX12_put_18 ?_
      refine z_iconst 1 (by decide) dX12_put_19 ?_
      refine z_aload_n (x := x0) rfl dX12_put_20 ?_
      obtain ⟨a1, h2, h⟩ := zbind h
      refine z_gN hC fs_X12_7 h2 dX12_put_21 ?_
      refine z_iconst 0 (by decide) dX12_put_24 ?_
      obtain ⟨v1, h3, h⟩ := zbind h
      refine z_rI h3 dX12_put_25 ?_
      refine z_ishl dX12_put_26 ?_
      refine z_iconst 1 (by decide) dX12_put_27 ?_
      refine z_isub dX12_put_28 ?_
      obtain ⟨q2, h4, h⟩ := zbind h
      refine z_callS (av := [.int x2, .int 0, .int (((1 : Int32) <<< (v1 &&& 31)) - 1)]) (rest := []) hC (s_X12_in hC h4) lk_X12_57 st_X12_in cd_X12_in ⟨by decide, by decide, (Nat.le_of_ble_eq_true rfl)⟩ dX12_put_29 ?_
      refine zeqS (stk2 := [.int q2.1]) rfl ?_
      refine z_goto (tgt := 42) dX12_put_32 (by decide) ?_
      exact s_X12_put_b42 hC _ _ _ _ _ _ h
  · have h := zift h c1
    refine z_aload_n (x := x0) rfl dX12_put_4 ?_
    refine z_iload_n (x := x2) rfl dX12_put_5 ?_
    obtain ⟨_, hb, h⟩ := zbind h
    obtain ⟨fs, hb⟩ := zob_some hb
    obtain ⟨q1, h1, h⟩ := zbind h
    refine z_callV (av := [.int x2]) (rest := []) hC zcl_12 hb (s_X12_isPlace hC h1) lk_X12_73 im_X12_isPlace se_X12_isPlace cd_X12_isPlace ⟨by decide, by decide, (Nat.le_of_ble_eq_true rfl)⟩ dX12_put_6 ?_
    clear hb fs
    refine zeqS (stk2 := [.int q1.1]) rfl ?_
    refine z_goto (tgt := 42) dX12_put_9 (by decide) ?_
    exact s_X12_put_b42 hC _ _ _ _ _ _ h
def f_X12_type_b40  : Nat → Nat → Int64 → Int32 → zMe → Option (Int32 × zMe)
  | 0, _, _, _, _ => none
  | n + 1, x0, x1, x4, M =>
    if x4 < 0 then (
      (zgI M x0 [12] 5).bind fun v1 =>
      some (v1, M))
    else (
      (zgN M x0 [12] 4).bind fun a1 =>
      (zgI M x0 [12] 5).bind fun v2 =>
      (zwI M a1 v2 (((x1 >>> (((8 * x4) : Int32).toInt64 &&& 63)) &&& (255 : Int64)).toInt32)).bind fun M1 =>
      (zgI M1 x0 [12] 5).bind fun v3 =>
      (zpI M1 x0 [12] 5 (v3 + 1)).bind fun M2 =>
      zlet (x4 + (-1)) fun v4 =>
      f_X12_type_b40 n x0 x1 v4 M2)
set_option maxHeartbeats 4000000 in
set_option maxRecDepth 100000 in
theorem s_X12_type_b40 {g : zG} (hC : zC g)  : ∀ (n : Nat) (x0 : Nat) (x1 : Int64) (x4 : Int32) (M : zMe) (q : (Int32 × zMe)), f_X12_type_b40  n x0 x1 x4 M = some q → zW g mX12_type 40 [.ref x0, .long x1, .retAddr 0, .retAddr 0, .int x4] [] M (some (.int q.1)) q.2 := by
  intro n
  induction n with
  | zero => intro x0 x1 x4 M q h; cases h
  | succ n ih =>
    intro x0 x1 x4 M q h
    rw [f_X12_type_b40] at h
    refine z_iload (x := x4) rfl dX12_type_40 ?_
    refine z_if_lt (tgt := 82) dX12_type_42 (by decide) (fun c1 => ?_) (fun c1 => ?_)
    · have h := zift h c1
      refine z_aload_n (x := x0) rfl dX12_type_82 ?_
      obtain ⟨v1, h1, h⟩ := zbind h
      refine z_gI hC fs_X12_76 h1 dX12_type_83 ?_
      obtain rfl := Option.some.inj h
      exact z_iret ⟨.int, rfl, rfl⟩ dX12_type_86
    · have h := zife h c1
      refine z_aload_n (x := x0) rfl dX12_type_45 ?_
      obtain ⟨a1, h2, h⟩ := zbind h
      refine z_gN hC fs_X12_23 h2 dX12_type_46 ?_
      refine z_aload_n (x := x0) rfl dX12_type_49 ?_
      obtain ⟨v2, h3, h⟩ := zbind h
      refine z_gI hC fs_X12_76 h3 dX12_type_50 ?_
      refine z_lload_n (x := x1) rfl dX12_type_53 ?_
      refine z_bipush 8 (by decide) dX12_type_54 ?_
      refine z_iload (x := x4) rfl dX12_type_56 ?_
      refine z_imul dX12_type_58 ?_
      refine z_lshr dX12_type_59 ?_
      refine z_ldc2 hC dX12_type_60 kl_X12_80 ?_
      refine z_land dX12_type_63 ?_
      refine z_l2i dX12_type_64 ?_
      obtain ⟨M1, h4, h⟩ := zbind h
      refine z_wI h4 dX12_type_65 ?_
      refine z_aload_n (x := x0) rfl dX12_type_66 ?_
      refine z_dup rfl dX12_type_67 ?_
      obtain ⟨v3, h5, h⟩ := zbind h
      refine z_gI hC fs_X12_76 h5 dX12_type_68 ?_
      refine z_iconst 1 (by decide) dX12_type_71 ?_
      refine z_iadd dX12_type_72 ?_
      obtain ⟨M2, h6, h⟩ := zbind h
      refine z_pI hC fp_X12_76 h6 dX12_type_73 ?_
      obtain ⟨v4, hv⟩ : ∃ z : Int32, z = x4 + (-1) := ⟨_, rfl⟩
      have h := zlet_use h hv
      refine z_iinc (v := v4) dX12_type_76 (x := x4) rfl (by rw [hv]; rfl) ?_
      clear hv
      refine zeqL (L2 := [.ref x0, .long x1, .retAddr 0, .retAddr 0, .int v4]) rfl ?_
      refine z_goto (tgt := 40) dX12_type_79 (by decide) ?_
      exact ih _ _ _ _ _ h
def f_X12_type (x0 : Nat) (x1 : Int64) (x3 : Int32) (M : zMe) : Option (Int32 × zMe) :=
  (f_X12_in x3 1 8 M).bind fun q1 =>
  if q1.1 = 0 then (
    (zob q1.2 x0 12).bind fun _ =>
    (f_X12_bad x0 q1.2).bind fun q2 =>
    some (q2.1, q2.2))
  else (
    (zgI q1.2 x0 [12] 5).bind fun v1 =>
    if (v1 + x3) ≤ 200 then (
      zlet (x3 - 1 : Int32) fun v2 =>
      f_X12_type_b40 zfu x0 x1 v2 q1.2)
    else (
      (zob q1.2 x0 12).bind fun _ =>
      (f_X12_refuses x0 2 (-4) q1.2).bind fun q3 =>
      some (q3.1, q3.2)))
set_option maxHeartbeats 4000000 in
set_option maxRecDepth 100000 in
theorem s_X12_type {g : zG} (hC : zC g) {x0 : Nat} {x1 : Int64} {x3 : Int32} {M : zMe} {q : (Int32 × zMe)} (h : f_X12_type x0 x1 x3 M = some q) : zMet g yX12_type mX12_type [.ref x0, .long x1, .int x3] M (some (.int q.1)) q.2 := by
  refine z_entry (by decide +kernel) rfl rfl (Nat.le_of_ble_eq_true rfl) ?_
  refine zeqL (L2 := [.ref x0, .long x1, .retAddr 0, .int x3, .retAddr 0]) rfl ?_
  unfold f_X12_type at h
  refine z_iload_n (x := x3) rfl dX12_type_0 ?_
  refine z_iconst 1 (by decide) dX12_type_1 ?_
  refine z_bipush 8 (by decide) dX12_type_2 ?_
  obtain ⟨q1, h1, h⟩ := zbind h
  refine z_callS (av := [.int x3, .int 1, .int 8]) (rest := []) hC (s_X12_in hC h1) lk_X12_57 st_X12_in cd_X12_in ⟨by decide, by decide, (Nat.le_of_ble_eq_true rfl)⟩ dX12_type_4 ?_
  refine zeqS (stk2 := [.int q1.1]) rfl ?_
  refine z_if_ne (tgt := 15) dX12_type_7 (by decide) (fun c1 => ?_) (fun c1 => ?_)
  · have h := zife h c1
    refine z_aload_n (x := x0) rfl dX12_type_15 ?_
    obtain ⟨v1, h3, h⟩ := zbind h
    refine z_gI hC fs_X12_76 h3 dX12_type_16 ?_
    refine z_iload_n (x := x3) rfl dX12_type_19 ?_
    refine z_iadd dX12_type_20 ?_
    refine z_sipush 200 (by decide) dX12_type_21 ?_
    refine z_icmp_le (tgt := 35) dX12_type_24 (by decide) (fun c2 => ?_) (fun c2 => ?_)
    · have h := zift h c2
      refine z_iload_n (x := x3) rfl dX12_type_35 ?_
      refine z_iconst 1 (by decide) dX12_type_36 ?_
      refine z_isub dX12_type_37 ?_
      refine z_nameI (fun v2 hv => ?_)
      have h := zlet_use h hv
      clear hv
      refine z_istore dX12_type_38 (by decide) ?_
      refine zeqL (L2 := [.ref x0, .long x1, .retAddr 0, .int x3, .int v2]) rfl ?_
      refine zweak [true, true, false, false, true] ?_
      exact s_X12_type_b40 hC _ _ _ _ _ _ h
    · have h := zife h c2
      refine z_aload_n (x := x0) rfl dX12_type_27 ?_
      refine z_iconst 2 (by decide) dX12_type_28 ?_
      refine z_bipush (-4) (by decide) dX12_type_29 ?_
      obtain ⟨_, hb, h⟩ := zbind h
      obtain ⟨fs, hb⟩ := zob_some hb
      obtain ⟨q3, h4, h⟩ := zbind h
      refine z_callV (av := [.int 2, .int (-4)]) (rest := []) hC zcl_12 hb (s_X12_refuses hC h4) lk_X12_53 im_X12_refuses se_X12_refuses cd_X12_refuses ⟨by decide, by decide, (Nat.le_of_ble_eq_true rfl)⟩ dX12_type_31 ?_
      clear hb fs
      refine zeqS (stk2 := [.int q3.1]) rfl ?_
      obtain rfl := Option.some.inj h
      exact z_iret ⟨.int, rfl, rfl⟩ dX12_type_34
  · have h := zift h c1
    refine z_aload_n (x := x0) rfl dX12_type_10 ?_
    obtain ⟨_, hb, h⟩ := zbind h
    obtain ⟨fs, hb⟩ := zob_some hb
    obtain ⟨q2, h2, h⟩ := zbind h
    refine z_callV (av := []) (rest := []) hC zcl_12 hb (s_X12_bad hC h2) lk_X12_61 im_X12_bad se_X12_bad cd_X12_bad ⟨by decide, by decide, (Nat.le_of_ble_eq_true rfl)⟩ dX12_type_11 ?_
    clear hb fs
    refine zeqS (stk2 := [.int q2.1]) rfl ?_
    obtain rfl := Option.some.inj h
    exact z_iret ⟨.int, rfl, rfl⟩ dX12_type_14
def f_X12_clear (x0 : Nat) (M : zMe) : Option (Int32 × zMe) :=
  (zgI M x0 [12] 5).bind fun v1 =>
  (zpI M x0 [12] 5 0).bind fun M1 =>
  some (v1, M1)
set_option maxHeartbeats 4000000 in
set_option maxRecDepth 100000 in
theorem s_X12_clear {g : zG} (hC : zC g) {x0 : Nat} {M : zMe} {q : (Int32 × zMe)} (h : f_X12_clear x0 M = some q) : zMet g yX12_clear mX12_clear [.ref x0] M (some (.int q.1)) q.2 := by
  refine z_entry (by decide +kernel) rfl rfl (Nat.le_of_ble_eq_true rfl) ?_
  refine zeqL (L2 := [.ref x0, .retAddr 0]) rfl ?_
  unfold f_X12_clear at h
  refine z_aload_n (x := x0) rfl dX12_clear_0 ?_
  obtain ⟨v1, h1, h⟩ := zbind h
  refine z_gI hC fs_X12_76 h1 dX12_clear_1 ?_
  refine z_istore_n dX12_clear_4 (by decide) ?_
  refine zeqL (L2 := [.ref x0, .int v1]) rfl ?_
  refine z_aload_n (x := x0) rfl dX12_clear_5 ?_
  refine z_iconst 0 (by decide) dX12_clear_6 ?_
  obtain ⟨M1, h2, h⟩ := zbind h
  refine z_pI hC fp_X12_76 h2 dX12_clear_7 ?_
  refine z_iload_n (x := v1) rfl dX12_clear_10 ?_
  obtain rfl := Option.some.inj h
  exact z_iret ⟨.int, rfl, rfl⟩ dX12_clear_11
def f_X12_byteAt_b18  (y0 : Int32) (M : zMe) : Option (Int32 × zMe) :=
  some (y0, M)
set_option maxHeartbeats 4000000 in
set_option maxRecDepth 100000 in
theorem s_X12_byteAt_b18 {g : zG} (hC : zC g)  (y0 : Int32) (M : zMe) (q : (Int32 × zMe)) (h : f_X12_byteAt_b18  y0 M = some q) : zW g mX12_byteAt 18 [.retAddr 0, .retAddr 0] [.int y0] M (some (.int q.1)) q.2 := by
  unfold f_X12_byteAt_b18 at h
  obtain rfl := Option.some.inj h
  exact z_iret ⟨.int, rfl, rfl⟩ dX12_byteAt_18
def f_X12_byteAt (x0 : Nat) (x1 : Int32) (M : zMe) : Option (Int32 × zMe) :=
  (zgI M x0 [12] 5).bind fun v1 =>
  if v1 ≤ x1 then (
    f_X12_byteAt_b18 (-1) M)
  else (
    (zgN M x0 [12] 4).bind fun a1 =>
    (zrI M a1 x1).bind fun v2 =>
    f_X12_byteAt_b18 v2 M)
set_option maxHeartbeats 4000000 in
set_option maxRecDepth 100000 in
theorem s_X12_byteAt {g : zG} (hC : zC g) {x0 : Nat} {x1 : Int32} {M : zMe} {q : (Int32 × zMe)} (h : f_X12_byteAt x0 x1 M = some q) : zMet g yX12_byteAt mX12_byteAt [.ref x0, .int x1] M (some (.int q.1)) q.2 := by
  refine z_entry (by decide +kernel) rfl rfl (Nat.le_of_ble_eq_true rfl) ?_
  refine zeqL (L2 := [.ref x0, .int x1]) rfl ?_
  unfold f_X12_byteAt at h
  refine z_iload_n (x := x1) rfl dX12_byteAt_0 ?_
  refine z_aload_n (x := x0) rfl dX12_byteAt_1 ?_
  obtain ⟨v1, h1, h⟩ := zbind h
  refine z_gI hC fs_X12_76 h1 dX12_byteAt_2 ?_
  refine z_icmp_ge (tgt := 17) dX12_byteAt_5 (by decide) (fun c1 => ?_) (fun c1 => ?_)
  · have h := zift h c1
    refine z_iconst (-1) (by decide) dX12_byteAt_17 ?_
    refine zweak [false, false] ?_
    exact s_X12_byteAt_b18 hC _ _ _ h
  · have h := zife h c1
    refine z_aload_n (x := x0) rfl dX12_byteAt_8 ?_
    obtain ⟨a1, h2, h⟩ := zbind h
    refine z_gN hC fs_X12_23 h2 dX12_byteAt_9 ?_
    refine z_iload_n (x := x1) rfl dX12_byteAt_12 ?_
    obtain ⟨v2, h3, h⟩ := zbind h
    refine z_rI h3 dX12_byteAt_13 ?_
    refine z_goto (tgt := 18) dX12_byteAt_14 (by decide) ?_
    refine zweak [false, false] ?_
    exact s_X12_byteAt_b18 hC _ _ _ h
def f_X12_sortOf_b49  (y0 : Int32) (M : zMe) : Option (Int32 × zMe) :=
  some (y0, M)
set_option maxHeartbeats 4000000 in
set_option maxRecDepth 100000 in
theorem s_X12_sortOf_b49 {g : zG} (hC : zC g)  (y0 : Int32) (M : zMe) (q : (Int32 × zMe)) (h : f_X12_sortOf_b49  y0 M = some q) : zW g mX12_sortOf 49 [.retAddr 0] [.int y0] M (some (.int q.1)) q.2 := by
  unfold f_X12_sortOf_b49 at h
  obtain rfl := Option.some.inj h
  exact z_iret ⟨.int, rfl, rfl⟩ dX12_sortOf_49
def f_X12_sortOf (x0 : Int32) (M : zMe) : Option (Int32 × zMe) :=
  if 0 ≤ x0 then (
    (f_X12_in x0 97 122 M).bind fun q1 =>
    if q1.1 = 0 then (
      (f_X12_in x0 48 57 q1.2).bind fun q2 =>
      if q2.1 = 0 then (
        if x0 = 59 then (
          f_X12_sortOf_b49 3 q2.2)
        else (
          f_X12_sortOf_b49 4 q2.2))
      else (
        f_X12_sortOf_b49 2 q2.2))
    else (
      f_X12_sortOf_b49 1 q1.2))
  else (
    f_X12_sortOf_b49 0 M)
set_option maxHeartbeats 4000000 in
set_option maxRecDepth 100000 in
theorem s_X12_sortOf {g : zG} (hC : zC g) {x0 : Int32} {M : zMe} {q : (Int32 × zMe)} (h : f_X12_sortOf x0 M = some q) : zMet g yX12_sortOf mX12_sortOf [.int x0] M (some (.int q.1)) q.2 := by
  refine z_entry (by decide +kernel) rfl rfl (Nat.le_of_ble_eq_true rfl) ?_
  refine zeqL (L2 := [.int x0]) rfl ?_
  unfold f_X12_sortOf at h
  refine z_iload_n (x := x0) rfl dX12_sortOf_0 ?_
  refine z_if_ge (tgt := 8) dX12_sortOf_1 (by decide) (fun c1 => ?_) (fun c1 => ?_)
  · have h := zift h c1
    refine z_iload_n (x := x0) rfl dX12_sortOf_8 ?_
    refine z_bipush 97 (by decide) dX12_sortOf_9 ?_
    refine z_bipush 122 (by decide) dX12_sortOf_11 ?_
    obtain ⟨q1, h1, h⟩ := zbind h
    refine z_callS (av := [.int x0, .int 97, .int 122]) (rest := []) hC (s_X12_in hC h1) lk_X12_57 st_X12_in cd_X12_in ⟨by decide, by decide, (Nat.le_of_ble_eq_true rfl)⟩ dX12_sortOf_13 ?_
    refine zeqS (stk2 := [.int q1.1]) rfl ?_
    refine z_if_eq (tgt := 23) dX12_sortOf_16 (by decide) (fun c2 => ?_) (fun c2 => ?_)
    · have h := zift h c2
      refine z_iload_n (x := x0) rfl dX12_sortOf_23 ?_
      refine z_bipush 48 (by decide) dX12_sortOf_24 ?_
      refine z_bipush 57 (by decide) dX12_sortOf_26 ?_
      obtain ⟨q2, h2, h⟩ := zbind h
      refine z_callS (av := [.int x0, .int 48, .int 57]) (rest := []) hC (s_X12_in hC h2) lk_X12_57 st_X12_in cd_X12_in ⟨by decide, by decide, (Nat.le_of_ble_eq_true rfl)⟩ dX12_sortOf_28 ?_
      refine zeqS (stk2 := [.int q2.1]) rfl ?_
      refine z_if_eq (tgt := 38) dX12_sortOf_31 (by decide) (fun c3 => ?_) (fun c3 => ?_)
      · have h := zift h c3
        refine z_iload_n (x := x0) rfl dX12_sortOf_38 ?_
        refine z_bipush 59 (by decide) dX12_sortOf_39 ?_
        refine z_icmp_ne (tgt := 48) dX12_sortOf_41 (by decide) (fun c4 => ?_) (fun c4 => ?_)
        · have h := zife h c4
          refine z_iconst 4 (by decide) dX12_sortOf_48 ?_
          refine zweak [false] ?_
          exact s_X12_sortOf_b49 hC _ _ _ h
        · have h := zift h c4
          refine z_iconst 3 (by decide) dX12_sortOf_44 ?_
          refine z_goto (tgt := 49) dX12_sortOf_45 (by decide) ?_
          refine zweak [false] ?_
          exact s_X12_sortOf_b49 hC _ _ _ h
      · have h := zife h c3
        refine z_iconst 2 (by decide) dX12_sortOf_34 ?_
        refine z_goto (tgt := 49) dX12_sortOf_35 (by decide) ?_
        refine zweak [false] ?_
        exact s_X12_sortOf_b49 hC _ _ _ h
    · have h := zife h c2
      refine z_iconst 1 (by decide) dX12_sortOf_19 ?_
      refine z_goto (tgt := 49) dX12_sortOf_20 (by decide) ?_
      refine zweak [false] ?_
      exact s_X12_sortOf_b49 hC _ _ _ h
  · have h := zife h c1
    refine z_iconst 0 (by decide) dX12_sortOf_4 ?_
    refine z_goto (tgt := 49) dX12_sortOf_5 (by decide) ?_
    refine zweak [false] ?_
    exact s_X12_sortOf_b49 hC _ _ _ h
def f_X12_token_b125   (M : zMe) : Option zMe :=
  some M
set_option maxHeartbeats 4000000 in
set_option maxRecDepth 100000 in
theorem s_X12_token_b125 {g : zG} (hC : zC g)   (M : zMe) (q : zMe) (h : f_X12_token_b125   M = some q) : zW g mX12_token 125 [.retAddr 0] [] M none q := by
  unfold f_X12_token_b125 at h
  obtain rfl := Option.some.inj h
  exact z_ret rfl dX12_token_125
def f_X12_token_b102 (k54 : Nat → zMe → Option zMe) (x0 : Nat) (M : zMe) : Option zMe :=
  (zgI M x0 [12] 9).bind fun v1 =>
  (zpI M x0 [12] 9 (v1 + 1)).bind fun M1 =>
  (zgI M1 x0 [12] 12).bind fun v2 =>
  (zpI M1 x0 [12] 12 (v2 + 1)).bind fun M2 =>
  k54 x0 M2
set_option maxHeartbeats 4000000 in
set_option maxRecDepth 100000 in
theorem s_X12_token_b102 {g : zG} (hC : zC g) {k54 : Nat → zMe → Option zMe} (hk54 : ∀ (x0 : Nat) (M : zMe) (q : zMe), k54 x0 M = some q → zW g mX12_token 54 [.ref x0] [] M none q) (x0 : Nat) (M : zMe) (q : zMe) (h : f_X12_token_b102 k54 x0 M = some q) : zW g mX12_token 102 [.ref x0] [] M none q := by
  unfold f_X12_token_b102 at h
  refine z_aload_n (x := x0) rfl dX12_token_102 ?_
  refine z_dup rfl dX12_token_103 ?_
  obtain ⟨v1, h1, h⟩ := zbind h
  refine z_gI hC fs_X12_82 h1 dX12_token_104 ?_
  refine z_iconst 1 (by decide) dX12_token_107 ?_
  refine z_iadd dX12_token_108 ?_
  obtain ⟨M1, h2, h⟩ := zbind h
  refine z_pI hC fp_X12_82 h2 dX12_token_109 ?_
  refine z_aload_n (x := x0) rfl dX12_token_112 ?_
  refine z_dup rfl dX12_token_113 ?_
  obtain ⟨v2, h3, h⟩ := zbind h
  refine z_gI hC fs_X12_98 h3 dX12_token_114 ?_
  refine z_iconst 1 (by decide) dX12_token_117 ?_
  refine z_iadd dX12_token_118 ?_
  obtain ⟨M2, h4, h⟩ := zbind h
  refine z_pI hC fp_X12_98 h4 dX12_token_119 ?_
  refine z_goto (tgt := 54) dX12_token_122 (by decide) ?_
  exact hk54 _ _ _ h
def f_X12_token_b84 (k54 : Nat → zMe → Option zMe) (x0 : Nat) (M : zMe) : Option zMe :=
  (zgI M x0 [12] 9).bind fun v1 =>
  (zob M x0 12).bind fun _ =>
  (f_X12_byteAt x0 v1 M).bind fun q1 =>
  (f_X12_sortOf q1.1 q1.2).bind fun q2 =>
  (zgI q2.2 x0 [12] 10).bind fun v2 =>
  if q2.1 = v2 then (
    f_X12_token_b102 k54 x0 q2.2)
  else (
    f_X12_token_b125 q2.2)
set_option maxHeartbeats 4000000 in
set_option maxRecDepth 100000 in
theorem s_X12_token_b84 {g : zG} (hC : zC g) {k54 : Nat → zMe → Option zMe} (hk54 : ∀ (x0 : Nat) (M : zMe) (q : zMe), k54 x0 M = some q → zW g mX12_token 54 [.ref x0] [] M none q) (x0 : Nat) (M : zMe) (q : zMe) (h : f_X12_token_b84 k54 x0 M = some q) : zW g mX12_token 84 [.ref x0] [] M none q := by
  unfold f_X12_token_b84 at h
  refine z_aload_n (x := x0) rfl dX12_token_84 ?_
  refine z_aload_n (x := x0) rfl dX12_token_85 ?_
  obtain ⟨v1, h1, h⟩ := zbind h
  refine z_gI hC fs_X12_82 h1 dX12_token_86 ?_
  obtain ⟨_, hb, h⟩ := zbind h
  obtain ⟨fs, hb⟩ := zob_some hb
  obtain ⟨q1, h2, h⟩ := zbind h
  refine z_callV (av := [.int v1]) (rest := []) hC zcl_12 hb (s_X12_byteAt hC h2) lk_X12_85 im_X12_byteAt se_X12_byteAt cd_X12_byteAt ⟨by decide, by decide, (Nat.le_of_ble_eq_true rfl)⟩ dX12_token_89 ?_
  clear hb fs
  refine zeqS (stk2 := [.int q1.1]) rfl ?_
  obtain ⟨q2, h3, h⟩ := zbind h
  refine z_callS (av := [.int q1.1]) (rest := []) hC (s_X12_sortOf hC h3) lk_X12_92 st_X12_sortOf cd_X12_sortOf ⟨by decide, by decide, (Nat.le_of_ble_eq_true rfl)⟩ dX12_token_92 ?_
  refine zeqS (stk2 := [.int q2.1]) rfl ?_
  refine z_aload_n (x := x0) rfl dX12_token_95 ?_
  obtain ⟨v2, h4, h⟩ := zbind h
  refine z_gI hC fs_X12_95 h4 dX12_token_96 ?_
  refine z_icmp_ne (tgt := 125) dX12_token_99 (by decide) (fun c1 => ?_) (fun c1 => ?_)
  · have h := zife h c1
    refine zweak [false] ?_
    exact s_X12_token_b125 hC _ _ h
  · have h := zift h c1
    exact s_X12_token_b102 hC hk54 _ _ _ h
def f_X12_token_b68 (k54 : Nat → zMe → Option zMe) (x0 : Nat) (M : zMe) : Option zMe :=
  (zgI M x0 [12] 10).bind fun v1 =>
  if v1 = 1 then (
    f_X12_token_b84 k54 x0 M)
  else (
    (zgI M x0 [12] 10).bind fun v2 =>
    if v2 = 2 then (
      f_X12_token_b84 k54 x0 M)
    else (
      f_X12_token_b125 M))
set_option maxHeartbeats 4000000 in
set_option maxRecDepth 100000 in
theorem s_X12_token_b68 {g : zG} (hC : zC g) {k54 : Nat → zMe → Option zMe} (hk54 : ∀ (x0 : Nat) (M : zMe) (q : zMe), k54 x0 M = some q → zW g mX12_token 54 [.ref x0] [] M none q) (x0 : Nat) (M : zMe) (q : zMe) (h : f_X12_token_b68 k54 x0 M = some q) : zW g mX12_token 68 [.ref x0] [] M none q := by
  unfold f_X12_token_b68 at h
  refine z_aload_n (x := x0) rfl dX12_token_68 ?_
  obtain ⟨v1, h1, h⟩ := zbind h
  refine z_gI hC fs_X12_95 h1 dX12_token_69 ?_
  refine z_iconst 1 (by decide) dX12_token_72 ?_
  refine z_icmp_eq (tgt := 84) dX12_token_73 (by decide) (fun c1 => ?_) (fun c1 => ?_)
  · have h := zift h c1
    exact s_X12_token_b84 hC hk54 _ _ _ h
  · have h := zife h c1
    refine z_aload_n (x := x0) rfl dX12_token_76 ?_
    obtain ⟨v2, h2, h⟩ := zbind h
    refine z_gI hC fs_X12_95 h2 dX12_token_77 ?_
    refine z_iconst 2 (by decide) dX12_token_80 ?_
    refine z_icmp_ne (tgt := 125) dX12_token_81 (by decide) (fun c2 => ?_) (fun c2 => ?_)
    · have h := zife h c2
      refine zweak [false] ?_
      exact s_X12_token_b125 hC _ _ h
    · have h := zift h c2
      exact s_X12_token_b84 hC hk54 _ _ _ h
def f_X12_token_b54  : Nat → Nat → zMe → Option zMe
  | 0, _, _ => none
  | n + 1, x0, M =>
    (zgI M x0 [12] 12).bind fun v1 =>
    if v1 = 0 then (
      (zgI M x0 [12] 10).bind fun v2 =>
      if v2 = 0 then (
        f_X12_token_b68 (f_X12_token_b54 n) x0 M)
      else (
        f_X12_token_b102 (f_X12_token_b54 n) x0 M))
    else (
      f_X12_token_b68 (f_X12_token_b54 n) x0 M)
set_option maxHeartbeats 4000000 in
set_option maxRecDepth 100000 in
theorem s_X12_token_b54 {g : zG} (hC : zC g)  : ∀ (n : Nat) (x0 : Nat) (M : zMe) (q : zMe), f_X12_token_b54  n x0 M = some q → zW g mX12_token 54 [.ref x0] [] M none q := by
  intro n
  induction n with
  | zero => intro x0 M q h; cases h
  | succ n ih =>
    intro x0 M q h
    rw [f_X12_token_b54] at h
    refine z_aload_n (x := x0) rfl dX12_token_54 ?_
    obtain ⟨v1, h1, h⟩ := zbind h
    refine z_gI hC fs_X12_98 h1 dX12_token_55 ?_
    refine z_if_ne (tgt := 68) dX12_token_58 (by decide) (fun c1 => ?_) (fun c1 => ?_)
    · have h := zife h c1
      exact s_X12_token_b68 hC ih _ _ _ h
    · have h := zift h c1
      refine z_aload_n (x := x0) rfl dX12_token_61 ?_
      obtain ⟨v2, h2, h⟩ := zbind h
      refine z_gI hC fs_X12_95 h2 dX12_token_62 ?_
      refine z_if_ne (tgt := 102) dX12_token_65 (by decide) (fun c2 => ?_) (fun c2 => ?_)
      · have h := zife h c2
        exact s_X12_token_b102 hC ih _ _ _ h
      · have h := zift h c2
        exact s_X12_token_b68 hC ih _ _ _ h
def f_X12_token_b0  : Nat → Nat → zMe → Option zMe
  | 0, _, _ => none
  | n + 1, x0, M =>
    (zgI M x0 [12] 9).bind fun v1 =>
    (zob M x0 12).bind fun _ =>
    (f_X12_byteAt x0 v1 M).bind fun q1 =>
    if q1.1 = 32 then (
      (zgI q1.2 x0 [12] 9).bind fun v2 =>
      (zpI q1.2 x0 [12] 9 (v2 + 1)).bind fun M1 =>
      f_X12_token_b0 n x0 M1)
    else (
      (zgI q1.2 x0 [12] 9).bind fun v3 =>
      (zpI q1.2 x0 [12] 11 v3).bind fun M2 =>
      (zgI M2 x0 [12] 9).bind fun v4 =>
      (zob M2 x0 12).bind fun _ =>
      (f_X12_byteAt x0 v4 M2).bind fun q2 =>
      (f_X12_sortOf q2.1 q2.2).bind fun q3 =>
      (zpI q3.2 x0 [12] 10 q3.1).bind fun M3 =>
      (zpI M3 x0 [12] 12 0).bind fun M4 =>
      f_X12_token_b54 zfu x0 M4)
set_option maxHeartbeats 4000000 in
set_option maxRecDepth 100000 in
theorem s_X12_token_b0 {g : zG} (hC : zC g)  : ∀ (n : Nat) (x0 : Nat) (M : zMe) (q : zMe), f_X12_token_b0  n x0 M = some q → zW g mX12_token 0 [.ref x0] [] M none q := by
  intro n
  induction n with
  | zero => intro x0 M q h; cases h
  | succ n ih =>
    intro x0 M q h
    rw [f_X12_token_b0] at h
    refine z_aload_n (x := x0) rfl dX12_token_0 ?_
    refine z_aload_n (x := x0) rfl dX12_token_1 ?_
    obtain ⟨v1, h1, h⟩ := zbind h
    refine z_gI hC fs_X12_82 h1 dX12_token_2 ?_
    obtain ⟨_, hb, h⟩ := zbind h
    obtain ⟨fs, hb⟩ := zob_some hb
    obtain ⟨q1, h2, h⟩ := zbind h
    refine z_callV (av := [.int v1]) (rest := []) hC zcl_12 hb (s_X12_byteAt hC h2) lk_X12_85 im_X12_byteAt se_X12_byteAt cd_X12_byteAt ⟨by decide, by decide, (Nat.le_of_ble_eq_true rfl)⟩ dX12_token_5 ?_
    clear hb fs
    refine zeqS (stk2 := [.int q1.1]) rfl ?_
    refine z_bipush 32 (by decide) dX12_token_8 ?_
    refine z_icmp_ne (tgt := 26) dX12_token_10 (by decide) (fun c1 => ?_) (fun c1 => ?_)
    · have h := zife h c1
      refine z_aload_n (x := x0) rfl dX12_token_26 ?_
      refine z_aload_n (x := x0) rfl dX12_token_27 ?_
      obtain ⟨v3, h5, h⟩ := zbind h
      refine z_gI hC fs_X12_82 h5 dX12_token_28 ?_
      obtain ⟨M2, h6, h⟩ := zbind h
      refine z_pI hC fp_X12_89 h6 dX12_token_31 ?_
      refine z_aload_n (x := x0) rfl dX12_token_34 ?_
      refine z_aload_n (x := x0) rfl dX12_token_35 ?_
      refine z_aload_n (x := x0) rfl dX12_token_36 ?_
      obtain ⟨v4, h7, h⟩ := zbind h
      refine z_gI hC fs_X12_82 h7 dX12_token_37 ?_
      obtain ⟨_, hb, h⟩ := zbind h
      obtain ⟨fs, hb⟩ := zob_some hb
      obtain ⟨q2, h8, h⟩ := zbind h
      refine z_callV (av := [.int v4]) (rest := [.ref x0]) hC zcl_12 hb (s_X12_byteAt hC h8) lk_X12_85 im_X12_byteAt se_X12_byteAt cd_X12_byteAt ⟨by decide, by decide, (Nat.le_of_ble_eq_true rfl)⟩ dX12_token_40 ?_
      clear hb fs
      refine zeqS (stk2 := [.int q2.1, .ref x0]) rfl ?_
      obtain ⟨q3, h9, h⟩ := zbind h
      refine z_callS (av := [.int q2.1]) (rest := [.ref x0]) hC (s_X12_sortOf hC h9) lk_X12_92 st_X12_sortOf cd_X12_sortOf ⟨by decide, by decide, (Nat.le_of_ble_eq_true rfl)⟩ dX12_token_43 ?_
      refine zeqS (stk2 := [.int q3.1, .ref x0]) rfl ?_
      obtain ⟨M3, h10, h⟩ := zbind h
      refine z_pI hC fp_X12_95 h10 dX12_token_46 ?_
      refine z_aload_n (x := x0) rfl dX12_token_49 ?_
      refine z_iconst 0 (by decide) dX12_token_50 ?_
      obtain ⟨M4, h11, h⟩ := zbind h
      refine z_pI hC fp_X12_98 h11 dX12_token_51 ?_
      exact s_X12_token_b54 hC _ _ _ _ h
    · have h := zift h c1
      refine z_aload_n (x := x0) rfl dX12_token_13 ?_
      refine z_dup rfl dX12_token_14 ?_
      obtain ⟨v2, h3, h⟩ := zbind h
      refine z_gI hC fs_X12_82 h3 dX12_token_15 ?_
      refine z_iconst 1 (by decide) dX12_token_18 ?_
      refine z_iadd dX12_token_19 ?_
      obtain ⟨M1, h4, h⟩ := zbind h
      refine z_pI hC fp_X12_82 h4 dX12_token_20 ?_
      refine z_goto (tgt := 0) dX12_token_23 (by decide) ?_
      exact ih _ _ _ h
def f_X12_token (x0 : Nat) (M : zMe) : Option zMe :=
  (zgI M x0 [12] 9).bind fun v1 =>
  (zob M x0 12).bind fun _ =>
  (f_X12_byteAt x0 v1 M).bind fun q1 =>
  if q1.1 = 32 then (
    (zgI q1.2 x0 [12] 9).bind fun v2 =>
    (zpI q1.2 x0 [12] 9 (v2 + 1)).bind fun M1 =>
    f_X12_token_b0 zfu x0 M1)
  else (
    (zgI q1.2 x0 [12] 9).bind fun v3 =>
    (zpI q1.2 x0 [12] 11 v3).bind fun M2 =>
    (zgI M2 x0 [12] 9).bind fun v4 =>
    (zob M2 x0 12).bind fun _ =>
    (f_X12_byteAt x0 v4 M2).bind fun q2 =>
    (f_X12_sortOf q2.1 q2.2).bind fun q3 =>
    (zpI q3.2 x0 [12] 10 q3.1).bind fun M3 =>
    (zpI M3 x0 [12] 12 0).bind fun M4 =>
    f_X12_token_b54 zfu x0 M4)
set_option maxHeartbeats 4000000 in
set_option maxRecDepth 100000 in
theorem s_X12_token {g : zG} (hC : zC g) {x0 : Nat} {M : zMe} {q : zMe} (h : f_X12_token x0 M = some q) : zMet g yX12_token mX12_token [.ref x0] M none q := by
  refine z_entry (by decide +kernel) rfl rfl (Nat.le_of_ble_eq_true rfl) ?_
  refine zeqL (L2 := [.ref x0]) rfl ?_
  unfold f_X12_token at h
  refine z_aload_n (x := x0) rfl dX12_token_0 ?_
  refine z_aload_n (x := x0) rfl dX12_token_1 ?_
  obtain ⟨v1, h1, h⟩ := zbind h
  refine z_gI hC fs_X12_82 h1 dX12_token_2 ?_
  obtain ⟨_, hb, h⟩ := zbind h
  obtain ⟨fs, hb⟩ := zob_some hb
  obtain ⟨q1, h2, h⟩ := zbind h
  refine z_callV (av := [.int v1]) (rest := []) hC zcl_12 hb (s_X12_byteAt hC h2) lk_X12_85 im_X12_byteAt se_X12_byteAt cd_X12_byteAt ⟨by decide, by decide, (Nat.le_of_ble_eq_true rfl)⟩ dX12_token_5 ?_
  clear hb fs
  refine zeqS (stk2 := [.int q1.1]) rfl ?_
  refine z_bipush 32 (by decide) dX12_token_8 ?_
  refine z_icmp_ne (tgt := 26) dX12_token_10 (by decide) (fun c1 => ?_) (fun c1 => ?_)
  · have h := zife h c1
    refine z_aload_n (x := x0) rfl dX12_token_26 ?_
    refine z_aload_n (x := x0) rfl dX12_token_27 ?_
    obtain ⟨v3, h5, h⟩ := zbind h
    refine z_gI hC fs_X12_82 h5 dX12_token_28 ?_
    obtain ⟨M2, h6, h⟩ := zbind h
    refine z_pI hC fp_X12_89 h6 dX12_token_31 ?_
    refine z_aload_n (x := x0) rfl dX12_token_34 ?_
    refine z_aload_n (x := x0) rfl dX12_token_35 ?_
    refine z_aload_n (x := x0) rfl dX12_token_36 ?_
    obtain ⟨v4, h7, h⟩ := zbind h
    refine z_gI hC fs_X12_82 h7 dX12_token_37 ?_
    obtain ⟨_, hb, h⟩ := zbind h
    obtain ⟨fs, hb⟩ := zob_some hb
    obtain ⟨q2, h8, h⟩ := zbind h
    refine z_callV (av := [.int v4]) (rest := [.ref x0]) hC zcl_12 hb (s_X12_byteAt hC h8) lk_X12_85 im_X12_byteAt se_X12_byteAt cd_X12_byteAt ⟨by decide, by decide, (Nat.le_of_ble_eq_true rfl)⟩ dX12_token_40 ?_
    clear hb fs
    refine zeqS (stk2 := [.int q2.1, .ref x0]) rfl ?_
    obtain ⟨q3, h9, h⟩ := zbind h
    refine z_callS (av := [.int q2.1]) (rest := [.ref x0]) hC (s_X12_sortOf hC h9) lk_X12_92 st_X12_sortOf cd_X12_sortOf ⟨by decide, by decide, (Nat.le_of_ble_eq_true rfl)⟩ dX12_token_43 ?_
    refine zeqS (stk2 := [.int q3.1, .ref x0]) rfl ?_
    obtain ⟨M3, h10, h⟩ := zbind h
    refine z_pI hC fp_X12_95 h10 dX12_token_46 ?_
    refine z_aload_n (x := x0) rfl dX12_token_49 ?_
    refine z_iconst 0 (by decide) dX12_token_50 ?_
    obtain ⟨M4, h11, h⟩ := zbind h
    refine z_pI hC fp_X12_98 h11 dX12_token_51 ?_
    exact s_X12_token_b54 hC _ _ _ _ h
  · have h := zift h c1
    refine z_aload_n (x := x0) rfl dX12_token_13 ?_
    refine z_dup rfl dX12_token_14 ?_
    obtain ⟨v2, h3, h⟩ := zbind h
    refine z_gI hC fs_X12_82 h3 dX12_token_15 ?_
    refine z_iconst 1 (by decide) dX12_token_18 ?_
    refine z_iadd dX12_token_19 ?_
    obtain ⟨M1, h4, h⟩ := zbind h
    refine z_pI hC fp_X12_82 h4 dX12_token_20 ?_
    refine z_goto (tgt := 0) dX12_token_23 (by decide) ?_
    exact s_X12_token_b0 hC _ _ _ _ h
