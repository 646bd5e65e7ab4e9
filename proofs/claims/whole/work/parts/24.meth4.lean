def f_X12_which_b73 (k39 : Nat → Int32 → Int32 → Int32 → Int32 → Int32 → zMe → Option (Int32 × zMe)) (x0 : Nat) (x1 : Int32) (x2 : Int32) (x3 : Int32) (x5 : Int32) (y0 : Int32) (y1 : Int32) (M : zMe) : Option (Int32 × zMe) :=
  zlet (y1 ||| y0 : Int32) fun v1 =>
  zlet (x5 + 1) fun v2 =>
  k39 x0 x1 x2 x3 v1 v2 M
set_option maxHeartbeats 4000000 in
set_option maxRecDepth 100000 in
theorem s_X12_which_b73 {g : zG} (hC : zC g) {k39 : Nat → Int32 → Int32 → Int32 → Int32 → Int32 → zMe → Option (Int32 × zMe)} (hk39 : ∀ (x0 : Nat) (x1 : Int32) (x2 : Int32) (x3 : Int32) (x4 : Int32) (x5 : Int32) (M : zMe) (q : (Int32 × zMe)), k39 x0 x1 x2 x3 x4 x5 M = some q → zW g mX12_which 39 [.ref x0, .int x1, .int x2, .int x3, .int x4, .int x5] [] M (some (.int q.1)) q.2) (x0 : Nat) (x1 : Int32) (x2 : Int32) (x3 : Int32) (x5 : Int32) (y0 : Int32) (y1 : Int32) (M : zMe) (q : (Int32 × zMe)) (h : f_X12_which_b73 k39 x0 x1 x2 x3 x5 y0 y1 M = some q) : zW g mX12_which 73 [.ref x0, .int x1, .int x2, .int x3, .retAddr 0, .int x5] [.int y0, .int y1] M (some (.int q.1)) q.2 := by
  unfold f_X12_which_b73 at h
  refine z_ior dX12_which_73 ?_
  refine z_nameI (fun v1 hv => ?_)
  have h := zlet_use h hv
  clear hv
  refine z_istore dX12_which_74 (by decide) ?_
  refine zeqL (L2 := [.ref x0, .int x1, .int x2, .int x3, .int v1, .int x5]) rfl ?_
  obtain ⟨v2, hv⟩ : ∃ z : Int32, z = x5 + 1 := ⟨_, rfl⟩
  have h := zlet_use h hv
  refine z_iinc (v := v2) dX12_which_76 (x := x5) rfl (by rw [hv]; rfl) ?_
  clear hv
  refine zeqL (L2 := [.ref x0, .int x1, .int x2, .int x3, .int v1, .int v2]) rfl ?_
  refine z_goto (tgt := 39) dX12_which_79 (by decide) ?_
  exact hk39 _ _ _ _ _ _ _ _ h
def f_X12_which_b39  : Nat → Nat → Int32 → Int32 → Int32 → Int32 → Int32 → zMe → Option (Int32 × zMe)
  | 0, _, _, _, _, _, _, _ => none
  | n + 1, x0, x1, x2, x3, x4, x5, M =>
    (zgN M x0 [12] 0).bind fun a1 =>
    (zrI M a1 6).bind fun v1 =>
    if v1 ≤ x5 then (
      some (x4, M))
    else (
      (zob M x0 12).bind fun _ =>
      (f_X12_begins x0 x5 x1 x2 x3 M).bind fun q1 =>
      if q1.1 = 0 then (
        f_X12_which_b73 (f_X12_which_b39 n) x0 x1 x2 x3 x5 0 x4 q1.2)
      else (
        f_X12_which_b73 (f_X12_which_b39 n) x0 x1 x2 x3 x5 ((1 : Int32) <<< (x5 &&& 31)) x4 q1.2))
set_option maxHeartbeats 4000000 in
set_option maxRecDepth 100000 in
theorem s_X12_which_b39 {g : zG} (hC : zC g)  : ∀ (n : Nat) (x0 : Nat) (x1 : Int32) (x2 : Int32) (x3 : Int32) (x4 : Int32) (x5 : Int32) (M : zMe) (q : (Int32 × zMe)), f_X12_which_b39  n x0 x1 x2 x3 x4 x5 M = some q → zW g mX12_which 39 [.ref x0, .int x1, .int x2, .int x3, .int x4, .int x5] [] M (some (.int q.1)) q.2 := by
  intro n
  induction n with
  | zero => intro x0 x1 x2 x3 x4 x5 M q h; cases h
  | succ n ih =>
    intro x0 x1 x2 x3 x4 x5 M q h
    rw [f_X12_which_b39] at h
    refine z_iload (x := x5) rfl dX12_which_39 ?_
    refine z_aload_n (x := x0) rfl dX12_which_41 ?_
    obtain ⟨a1, h1, h⟩ := zbind h
    refine z_gN hC fs_X12_7 h1 dX12_which_42 ?_
    refine z_bipush 6 (by decide) dX12_which_45 ?_
    obtain ⟨v1, h2, h⟩ := zbind h
    refine z_rI h2 dX12_which_47 ?_
    refine z_icmp_ge (tgt := 82) dX12_which_48 (by decide) (fun c1 => ?_) (fun c1 => ?_)
    · have h := zift h c1
      refine z_iload (x := x4) rfl dX12_which_82 ?_
      obtain rfl := Option.some.inj h
      exact z_iret ⟨.int, rfl, rfl⟩ dX12_which_84
    · have h := zife h c1
      refine z_iload (x := x4) rfl dX12_which_51 ?_
      refine z_aload_n (x := x0) rfl dX12_which_53 ?_
      refine z_iload (x := x5) rfl dX12_which_54 ?_
      refine z_iload_n (x := x1) rfl dX12_which_56 ?_
      refine z_iload_n (x := x2) rfl dX12_which_57 ?_
      refine z_iload_n (x := x3) rfl dX12_which_58 ?_
      obtain ⟨_, hb, h⟩ := zbind h
      obtain ⟨fs, hb⟩ := zob_some hb
      obtain ⟨q1, h3, h⟩ := zbind h
      refine z_callV (av := [.int x5, .int x1, .int x2, .int x3]) (rest := [.int x4]) hC zcl_12 hb (s_X12_begins hC h3) lk_X12_207 im_X12_begins se_X12_begins cd_X12_begins ⟨by decide, by decide, (Nat.le_of_ble_eq_true rfl)⟩ dX12_which_59 ?_
      clear hb fs
      refine zeqS (stk2 := [.int q1.1, .int x4]) rfl ?_
      refine z_if_eq (tgt := 72) dX12_which_62 (by decide) (fun c2 => ?_) (fun c2 => ?_)
      · have h := zift h c2
        refine z_iconst 0 (by decide) dX12_which_72 ?_
        refine zweak [true, true, true, true, false, true] ?_
        exact s_X12_which_b73 hC ih _ _ _ _ _ _ _ _ _ h
      · have h := zife h c2
        refine z_iconst 1 (by decide) dX12_which_65 ?_
        refine z_iload (x := x5) rfl dX12_which_66 ?_
        refine z_ishl dX12_which_68 ?_
        refine z_goto (tgt := 73) dX12_which_69 (by decide) ?_
        refine zweak [true, true, true, true, false, true] ?_
        exact s_X12_which_b73 hC ih _ _ _ _ _ _ _ _ _ h
def f_X12_which_b28  (x0 : Nat) (M : zMe) : Option (Int32 × zMe) :=
  (zob M x0 12).bind fun _ =>
  (f_X12_bad x0 M).bind fun q1 =>
  some (q1.1, q1.2)
set_option maxHeartbeats 4000000 in
set_option maxRecDepth 100000 in
theorem s_X12_which_b28 {g : zG} (hC : zC g)  (x0 : Nat) (M : zMe) (q : (Int32 × zMe)) (h : f_X12_which_b28  x0 M = some q) : zW g mX12_which 28 [.ref x0, .retAddr 0, .retAddr 0, .retAddr 0, .retAddr 0, .retAddr 0] [] M (some (.int q.1)) q.2 := by
  unfold f_X12_which_b28 at h
  refine z_aload_n (x := x0) rfl dX12_which_28 ?_
  obtain ⟨_, hb, h⟩ := zbind h
  obtain ⟨fs, hb⟩ := zob_some hb
  obtain ⟨q1, h1, h⟩ := zbind h
  refine z_callV (av := []) (rest := []) hC zcl_12 hb (s_X12_bad hC h1) lk_X12_61 im_X12_bad se_X12_bad cd_X12_bad ⟨by decide, by decide, (Nat.le_of_ble_eq_true rfl)⟩ dX12_which_29 ?_
  clear hb fs
  refine zeqS (stk2 := [.int q1.1]) rfl ?_
  obtain rfl := Option.some.inj h
  exact z_iret ⟨.int, rfl, rfl⟩ dX12_which_32
def f_X12_which (x0 : Nat) (x1 : Int32) (x2 : Int32) (x3 : Int32) (M : zMe) : Option (Int32 × zMe) :=
  (f_X12_in x2 1 16 M).bind fun q1 =>
  if q1.1 = 0 then (
    f_X12_which_b28 x0 q1.2)
  else (
    (zob q1.2 x0 12).bind fun _ =>
    (f_X12_isTune x0 x1 x2 q1.2).bind fun q2 =>
    if q2.1 = 0 then (
      f_X12_which_b28 x0 q2.2)
    else (
      (zob q2.2 x0 12).bind fun _ =>
      (f_X12_isTune x0 x3 x2 q2.2).bind fun q3 =>
      if q3.1 = 0 then (
        f_X12_which_b28 x0 q3.2)
      else (
        f_X12_which_b39 zfu x0 x1 x2 x3 0 0 q3.2)))
set_option maxHeartbeats 4000000 in
set_option maxRecDepth 100000 in
theorem s_X12_which {g : zG} (hC : zC g) {x0 : Nat} {x1 : Int32} {x2 : Int32} {x3 : Int32} {M : zMe} {q : (Int32 × zMe)} (h : f_X12_which x0 x1 x2 x3 M = some q) : zMet g yX12_which mX12_which [.ref x0, .int x1, .int x2, .int x3] M (some (.int q.1)) q.2 := by
  refine z_entry (by decide +kernel) rfl rfl (Nat.le_of_ble_eq_true rfl) ?_
  refine zeqL (L2 := [.ref x0, .int x1, .int x2, .int x3, .retAddr 0, .retAddr 0]) rfl ?_
  unfold f_X12_which at h
  refine z_iload_n (x := x2) rfl dX12_which_0 ?_
  refine z_iconst 1 (by decide) dX12_which_1 ?_
  refine z_bipush 16 (by decide) dX12_which_2 ?_
  obtain ⟨q1, h1, h⟩ := zbind h
  refine z_callS (av := [.int x2, .int 1, .int 16]) (rest := []) hC (s_X12_in hC h1) lk_X12_57 st_X12_in cd_X12_in ⟨by decide, by decide, (Nat.le_of_ble_eq_true rfl)⟩ dX12_which_4 ?_
  refine zeqS (stk2 := [.int q1.1]) rfl ?_
  refine z_if_eq (tgt := 28) dX12_which_7 (by decide) (fun c1 => ?_) (fun c1 => ?_)
  · have h := zift h c1
    refine zweak [true, false, false, false, false, false] ?_
    exact s_X12_which_b28 hC _ _ _ h
  · have h := zife h c1
    refine z_aload_n (x := x0) rfl dX12_which_10 ?_
    refine z_iload_n (x := x1) rfl dX12_which_11 ?_
    refine z_iload_n (x := x2) rfl dX12_which_12 ?_
    obtain ⟨_, hb, h⟩ := zbind h
    obtain ⟨fs, hb⟩ := zob_some hb
    obtain ⟨q2, h2, h⟩ := zbind h
    refine z_callV (av := [.int x1, .int x2]) (rest := []) hC zcl_12 hb (s_X12_isTune hC h2) lk_X12_147 im_X12_isTune se_X12_isTune cd_X12_isTune ⟨by decide, by decide, (Nat.le_of_ble_eq_true rfl)⟩ dX12_which_13 ?_
    clear hb fs
    refine zeqS (stk2 := [.int q2.1]) rfl ?_
    refine z_if_eq (tgt := 28) dX12_which_16 (by decide) (fun c2 => ?_) (fun c2 => ?_)
    · have h := zift h c2
      refine zweak [true, false, false, false, false, false] ?_
      exact s_X12_which_b28 hC _ _ _ h
    · have h := zife h c2
      refine z_aload_n (x := x0) rfl dX12_which_19 ?_
      refine z_iload_n (x := x3) rfl dX12_which_20 ?_
      refine z_iload_n (x := x2) rfl dX12_which_21 ?_
      obtain ⟨_, hb, h⟩ := zbind h
      obtain ⟨fs, hb⟩ := zob_some hb
      obtain ⟨q3, h3, h⟩ := zbind h
      refine z_callV (av := [.int x3, .int x2]) (rest := []) hC zcl_12 hb (s_X12_isTune hC h3) lk_X12_147 im_X12_isTune se_X12_isTune cd_X12_isTune ⟨by decide, by decide, (Nat.le_of_ble_eq_true rfl)⟩ dX12_which_22 ?_
      clear hb fs
      refine zeqS (stk2 := [.int q3.1]) rfl ?_
      refine z_if_ne (tgt := 33) dX12_which_25 (by decide) (fun c3 => ?_) (fun c3 => ?_)
      · have h := zife h c3
        refine z_iconst 0 (by decide) dX12_which_33 ?_
        refine z_istore dX12_which_34 (by decide) ?_
        refine zeqL (L2 := [.ref x0, .int x1, .int x2, .int x3, .int 0, .retAddr 0]) rfl ?_
        refine z_iconst 0 (by decide) dX12_which_36 ?_
        refine z_istore dX12_which_37 (by decide) ?_
        refine zeqL (L2 := [.ref x0, .int x1, .int x2, .int x3, .int 0, .int 0]) rfl ?_
        exact s_X12_which_b39 hC _ _ _ _ _ _ _ _ _ h
      · have h := zift h c3
        refine zweak [true, false, false, false, false, false] ?_
        exact s_X12_which_b28 hC _ _ _ h
def f_X12_starts_b53  (y0 : Int32) (M : zMe) : Option (Int32 × zMe) :=
  some (y0, M)
set_option maxHeartbeats 4000000 in
set_option maxRecDepth 100000 in
theorem s_X12_starts_b53 {g : zG} (hC : zC g)  (y0 : Int32) (M : zMe) (q : (Int32 × zMe)) (h : f_X12_starts_b53  y0 M = some q) : zW g mX12_starts 53 [.retAddr 0, .retAddr 0, .retAddr 0, .retAddr 0, .retAddr 0] [.int y0] M (some (.int q.1)) q.2 := by
  unfold f_X12_starts_b53 at h
  obtain rfl := Option.some.inj h
  exact z_iret ⟨.int, rfl, rfl⟩ dX12_starts_53
def f_X12_starts_b49  (x0 : Nat) (M : zMe) : Option (Int32 × zMe) :=
  (zob M x0 12).bind fun _ =>
  (f_X12_bad x0 M).bind fun q1 =>
  f_X12_starts_b53 q1.1 q1.2
set_option maxHeartbeats 4000000 in
set_option maxRecDepth 100000 in
theorem s_X12_starts_b49 {g : zG} (hC : zC g)  (x0 : Nat) (M : zMe) (q : (Int32 × zMe)) (h : f_X12_starts_b49  x0 M = some q) : zW g mX12_starts 49 [.ref x0, .retAddr 0, .retAddr 0, .retAddr 0, .retAddr 0] [] M (some (.int q.1)) q.2 := by
  unfold f_X12_starts_b49 at h
  refine z_aload_n (x := x0) rfl dX12_starts_49 ?_
  obtain ⟨_, hb, h⟩ := zbind h
  obtain ⟨fs, hb⟩ := zob_some hb
  obtain ⟨q1, h1, h⟩ := zbind h
  refine z_callV (av := []) (rest := []) hC zcl_12 hb (s_X12_bad hC h1) lk_X12_61 im_X12_bad se_X12_bad cd_X12_bad ⟨by decide, by decide, (Nat.le_of_ble_eq_true rfl)⟩ dX12_starts_50 ?_
  clear hb fs
  refine zeqS (stk2 := [.int q1.1]) rfl ?_
  refine zweak [false, false, false, false, false] ?_
  exact s_X12_starts_b53 hC _ _ _ h
def f_X12_starts (x0 : Nat) (x1 : Int32) (x2 : Int32) (x3 : Int32) (x4 : Int32) (M : zMe) : Option (Int32 × zMe) :=
  (zob M x0 12).bind fun _ =>
  (f_X12_isDog x0 x1 M).bind fun q1 =>
  if q1.1 = 0 then (
    f_X12_starts_b49 x0 q1.2)
  else (
    (f_X12_in x3 1 16 q1.2).bind fun q2 =>
    if q2.1 = 0 then (
      f_X12_starts_b49 x0 q2.2)
    else (
      (zob q2.2 x0 12).bind fun _ =>
      (f_X12_isTune x0 x2 x3 q2.2).bind fun q3 =>
      if q3.1 = 0 then (
        f_X12_starts_b49 x0 q3.2)
      else (
        (zob q3.2 x0 12).bind fun _ =>
        (f_X12_isTune x0 x4 x3 q3.2).bind fun q4 =>
        if q4.1 = 0 then (
          f_X12_starts_b49 x0 q4.2)
        else (
          (zob q4.2 x0 12).bind fun _ =>
          (f_X12_begins x0 x1 x2 x3 x4 q4.2).bind fun q5 =>
          f_X12_starts_b53 q5.1 q5.2))))
set_option maxHeartbeats 4000000 in
set_option maxRecDepth 100000 in
theorem s_X12_starts {g : zG} (hC : zC g) {x0 : Nat} {x1 : Int32} {x2 : Int32} {x3 : Int32} {x4 : Int32} {M : zMe} {q : (Int32 × zMe)} (h : f_X12_starts x0 x1 x2 x3 x4 M = some q) : zMet g yX12_starts mX12_starts [.ref x0, .int x1, .int x2, .int x3, .int x4] M (some (.int q.1)) q.2 := by
  refine z_entry (by decide +kernel) rfl rfl (Nat.le_of_ble_eq_true rfl) ?_
  refine zeqL (L2 := [.ref x0, .int x1, .int x2, .int x3, .int x4]) rfl ?_
  unfold f_X12_starts at h
  refine z_aload_n (x := x0) rfl dX12_starts_0 ?_
  refine z_iload_n (x := x1) rfl dX12_starts_1 ?_
  obtain ⟨_, hb, h⟩ := zbind h
  obtain ⟨fs, hb⟩ := zob_some hb
  obtain ⟨q1, h1, h⟩ := zbind h
  refine z_callV (av := [.int x1]) (rest := []) hC zcl_12 hb (s_X12_isDog hC h1) lk_X12_140 im_X12_isDog se_X12_isDog cd_X12_isDog ⟨by decide, by decide, (Nat.le_of_ble_eq_true rfl)⟩ dX12_starts_2 ?_
  clear hb fs
  refine zeqS (stk2 := [.int q1.1]) rfl ?_
  refine z_if_eq (tgt := 49) dX12_starts_5 (by decide) (fun c1 => ?_) (fun c1 => ?_)
  · have h := zift h c1
    refine zweak [true, false, false, false, false] ?_
    exact s_X12_starts_b49 hC _ _ _ h
  · have h := zife h c1
    refine z_iload_n (x := x3) rfl dX12_starts_8 ?_
    refine z_iconst 1 (by decide) dX12_starts_9 ?_
    refine z_bipush 16 (by decide) dX12_starts_10 ?_
    obtain ⟨q2, h2, h⟩ := zbind h
    refine z_callS (av := [.int x3, .int 1, .int 16]) (rest := []) hC (s_X12_in hC h2) lk_X12_57 st_X12_in cd_X12_in ⟨by decide, by decide, (Nat.le_of_ble_eq_true rfl)⟩ dX12_starts_12 ?_
    refine zeqS (stk2 := [.int q2.1]) rfl ?_
    refine z_if_eq (tgt := 49) dX12_starts_15 (by decide) (fun c2 => ?_) (fun c2 => ?_)
    · have h := zift h c2
      refine zweak [true, false, false, false, false] ?_
      exact s_X12_starts_b49 hC _ _ _ h
    · have h := zife h c2
      refine z_aload_n (x := x0) rfl dX12_starts_18 ?_
      refine z_iload_n (x := x2) rfl dX12_starts_19 ?_
      refine z_iload_n (x := x3) rfl dX12_starts_20 ?_
      obtain ⟨_, hb, h⟩ := zbind h
      obtain ⟨fs, hb⟩ := zob_some hb
      obtain ⟨q3, h3, h⟩ := zbind h
      refine z_callV (av := [.int x2, .int x3]) (rest := []) hC zcl_12 hb (s_X12_isTune hC h3) lk_X12_147 im_X12_isTune se_X12_isTune cd_X12_isTune ⟨by decide, by decide, (Nat.le_of_ble_eq_true rfl)⟩ dX12_starts_21 ?_
      clear hb fs
      refine zeqS (stk2 := [.int q3.1]) rfl ?_
      refine z_if_eq (tgt := 49) dX12_starts_24 (by decide) (fun c3 => ?_) (fun c3 => ?_)
      · have h := zift h c3
        refine zweak [true, false, false, false, false] ?_
        exact s_X12_starts_b49 hC _ _ _ h
      · have h := zife h c3
        refine z_aload_n (x := x0) rfl dX12_starts_27 ?_
        refine z_iload (x := x4) rfl dX12_starts_28 ?_
        refine z_iload_n (x := x3) rfl dX12_starts_30 ?_
        obtain ⟨_, hb, h⟩ := zbind h
        obtain ⟨fs, hb⟩ := zob_some hb
        obtain ⟨q4, h4, h⟩ := zbind h
        refine z_callV (av := [.int x4, .int x3]) (rest := []) hC zcl_12 hb (s_X12_isTune hC h4) lk_X12_147 im_X12_isTune se_X12_isTune cd_X12_isTune ⟨by decide, by decide, (Nat.le_of_ble_eq_true rfl)⟩ dX12_starts_31 ?_
        clear hb fs
        refine zeqS (stk2 := [.int q4.1]) rfl ?_
        refine z_if_eq (tgt := 49) dX12_starts_34 (by decide) (fun c4 => ?_) (fun c4 => ?_)
        · have h := zift h c4
          refine zweak [true, false, false, false, false] ?_
          exact s_X12_starts_b49 hC _ _ _ h
        · have h := zife h c4
          refine z_aload_n (x := x0) rfl dX12_starts_37 ?_
          refine z_iload_n (x := x1) rfl dX12_starts_38 ?_
          refine z_iload_n (x := x2) rfl dX12_starts_39 ?_
          refine z_iload_n (x := x3) rfl dX12_starts_40 ?_
          refine z_iload (x := x4) rfl dX12_starts_41 ?_
          obtain ⟨_, hb, h⟩ := zbind h
          obtain ⟨fs, hb⟩ := zob_some hb
          obtain ⟨q5, h5, h⟩ := zbind h
          refine z_callV (av := [.int x1, .int x2, .int x3, .int x4]) (rest := []) hC zcl_12 hb (s_X12_begins hC h5) lk_X12_207 im_X12_begins se_X12_begins cd_X12_begins ⟨by decide, by decide, (Nat.le_of_ble_eq_true rfl)⟩ dX12_starts_43 ?_
          clear hb fs
          refine zeqS (stk2 := [.int q5.1]) rfl ?_
          refine z_goto (tgt := 53) dX12_starts_46 (by decide) ?_
          refine zweak [false, false, false, false, false] ?_
          exact s_X12_starts_b53 hC _ _ _ h
def f_X12_drawn_b243  : Nat → Nat → Int64 → Int64 → Int64 → Int64 → zMe → Option (Int32 × zMe)
  | 0, _, _, _, _, _, _ => none
  | n + 1, x0, x4, x6, x8, x10, M =>
    if (lg_cmp x8 (0 : Int64)) = 0 then (
      if x10 = 0 then none else
      (zpL M x0 [12] 7 (x6 / x10)).bind fun M1 =>
      if x10 = 0 then none else
      (zpL M1 x0 [12] 8 (x4 / x10)).bind fun M2 =>
      some (1, M2))
    else (
      if x8 = 0 then none else
      zlet (x10 - x10 / x8 * x8) fun v1 =>
      f_X12_drawn_b243 n x0 x4 x6 v1 x8 M)
set_option maxHeartbeats 4000000 in
set_option maxRecDepth 100000 in
theorem s_X12_drawn_b243 {g : zG} (hC : zC g)  : ∀ (n : Nat) (x0 : Nat) (x4 : Int64) (x6 : Int64) (x8 : Int64) (x10 : Int64) (M : zMe) (q : (Int32 × zMe)), f_X12_drawn_b243  n x0 x4 x6 x8 x10 M = some q → zW g mX12_drawn 243 [.ref x0, .retAddr 0, .retAddr 0, .retAddr 0, .long x4, .retAddr 0, .long x6, .retAddr 0, .long x8, .retAddr 0, .long x10, .retAddr 0, .retAddr 0, .retAddr 0] [] M (some (.int q.1)) q.2 := by
  intro n
  induction n with
  | zero => intro x0 x4 x6 x8 x10 M q h; cases h
  | succ n ih =>
    intro x0 x4 x6 x8 x10 M q h
    rw [f_X12_drawn_b243] at h
    refine z_lload (x := x8) rfl dX12_drawn_243 ?_
    refine z_lconst (0 : Int64) (by decide) dX12_drawn_245 ?_
    refine z_lcmp dX12_drawn_246 ?_
    refine z_if_eq (tgt := 268) dX12_drawn_247 (by decide) (fun c1 => ?_) (fun c1 => ?_)
    · have h := zift h c1
      refine z_aload_n (x := x0) rfl dX12_drawn_268 ?_
      refine z_lload (x := x6) rfl dX12_drawn_269 ?_
      refine z_lload (x := x10) rfl dX12_drawn_271 ?_
      have hne : ¬ x10 = 0 := fun z => by rw [if_pos z] at h; cases h
      have h := zife h hne
      refine z_ldiv hne dX12_drawn_273 ?_
      obtain ⟨M1, h1, h⟩ := zbind h
      refine z_pL hC fp_X12_212 h1 dX12_drawn_274 ?_
      refine z_aload_n (x := x0) rfl dX12_drawn_277 ?_
      refine z_lload (x := x4) rfl dX12_drawn_278 ?_
      refine z_lload (x := x10) rfl dX12_drawn_280 ?_
      have hne : ¬ x10 = 0 := fun z => by rw [if_pos z] at h; cases h
      have h := zife h hne
      refine z_ldiv hne dX12_drawn_282 ?_
      obtain ⟨M2, h2, h⟩ := zbind h
      refine z_pL hC fp_X12_49 h2 dX12_drawn_283 ?_
      refine z_iconst 1 (by decide) dX12_drawn_286 ?_
      obtain rfl := Option.some.inj h
      exact z_iret ⟨.int, rfl, rfl⟩ dX12_drawn_287
    · have h := zife h c1
      refine z_lload (x := x10) rfl dX12_drawn_250 ?_
      refine z_lload (x := x8) rfl dX12_drawn_252 ?_
      have hne : ¬ x8 = 0 := fun z => by rw [if_pos z] at h; cases h
      have h := zife h hne
      refine z_lrem hne dX12_drawn_254 ?_
      refine z_nameL (fun v1 hv => ?_)
      have h := zlet_use h hv
      clear hv
      refine z_lstore dX12_drawn_255 (by decide) ?_
      refine zeqL (L2 := [.ref x0, .retAddr 0, .retAddr 0, .retAddr 0, .long x4, .retAddr 0, .long x6, .retAddr 0, .long x8, .retAddr 0, .long x10, .retAddr 0, .long v1, .retAddr 0]) rfl ?_
      refine z_lload (x := x8) rfl dX12_drawn_257 ?_
      refine z_lstore dX12_drawn_259 (by decide) ?_
      refine zeqL (L2 := [.ref x0, .retAddr 0, .retAddr 0, .retAddr 0, .long x4, .retAddr 0, .long x6, .retAddr 0, .long x8, .retAddr 0, .long x8, .retAddr 0, .long v1, .retAddr 0]) rfl ?_
      refine z_lload (x := v1) rfl dX12_drawn_261 ?_
      refine z_lstore dX12_drawn_263 (by decide) ?_
      refine zeqL (L2 := [.ref x0, .retAddr 0, .retAddr 0, .retAddr 0, .long x4, .retAddr 0, .long x6, .retAddr 0, .long v1, .retAddr 0, .long x8, .retAddr 0, .long v1, .retAddr 0]) rfl ?_
      refine z_goto (tgt := 243) dX12_drawn_265 (by decide) ?_
      refine zweak [true, false, false, false, true, false, true, false, true, false, true, false, false, false] ?_
      exact ih _ _ _ _ _ _ _ h
def f_X12_drawn_b206  : Nat → Nat → Int64 → Int64 → Int32 → zMe → Option (Int32 × zMe)
  | 0, _, _, _, _, _ => none
  | n + 1, x0, x4, x6, x8, M =>
    (zgN M x0 [12] 0).bind fun a1 =>
    (zrI M a1 0).bind fun v1 =>
    if v1 ≤ x8 then (
      f_X12_drawn_b243 zfu x0 x4 x6 x6 x4 M)
    else (
      (zgN M x0 [12] 20).bind fun a2 =>
      (zrL M a2 x8).bind fun v2 =>
      zlet (x6 + v2 : Int64) fun v3 =>
      zlet (x8 + 1) fun v4 =>
      f_X12_drawn_b206 n x0 x4 v3 v4 M)
set_option maxHeartbeats 4000000 in
set_option maxRecDepth 100000 in
theorem s_X12_drawn_b206 {g : zG} (hC : zC g)  : ∀ (n : Nat) (x0 : Nat) (x4 : Int64) (x6 : Int64) (x8 : Int32) (M : zMe) (q : (Int32 × zMe)), f_X12_drawn_b206  n x0 x4 x6 x8 M = some q → zW g mX12_drawn 206 [.ref x0, .retAddr 0, .retAddr 0, .retAddr 0, .long x4, .retAddr 0, .long x6, .retAddr 0, .int x8, .retAddr 0, .retAddr 0, .retAddr 0, .retAddr 0, .retAddr 0] [] M (some (.int q.1)) q.2 := by
  intro n
  induction n with
  | zero => intro x0 x4 x6 x8 M q h; cases h
  | succ n ih =>
    intro x0 x4 x6 x8 M q h
    rw [f_X12_drawn_b206] at h
    refine z_iload (x := x8) rfl dX12_drawn_206 ?_
    refine z_aload_n (x := x0) rfl dX12_drawn_208 ?_
    obtain ⟨a1, h1, h⟩ := zbind h
    refine z_gN hC fs_X12_7 h1 dX12_drawn_209 ?_
    refine z_iconst 0 (by decide) dX12_drawn_212 ?_
    obtain ⟨v1, h2, h⟩ := zbind h
    refine z_rI h2 dX12_drawn_213 ?_
    refine z_icmp_ge (tgt := 235) dX12_drawn_214 (by decide) (fun c1 => ?_) (fun c1 => ?_)
    · have h := zift h c1
      refine z_lload (x := x6) rfl dX12_drawn_235 ?_
      refine z_lstore dX12_drawn_237 (by decide) ?_
      refine zeqL (L2 := [.ref x0, .retAddr 0, .retAddr 0, .retAddr 0, .long x4, .retAddr 0, .long x6, .retAddr 0, .long x6, .retAddr 0, .retAddr 0, .retAddr 0, .retAddr 0, .retAddr 0]) rfl ?_
      refine z_lload (x := x4) rfl dX12_drawn_239 ?_
      refine z_lstore dX12_drawn_241 (by decide) ?_
      refine zeqL (L2 := [.ref x0, .retAddr 0, .retAddr 0, .retAddr 0, .long x4, .retAddr 0, .long x6, .retAddr 0, .long x6, .retAddr 0, .long x4, .retAddr 0, .retAddr 0, .retAddr 0]) rfl ?_
      exact s_X12_drawn_b243 hC _ _ _ _ _ _ _ _ h
    · have h := zife h c1
      refine z_lload (x := x6) rfl dX12_drawn_217 ?_
      refine z_aload_n (x := x0) rfl dX12_drawn_219 ?_
      obtain ⟨a2, h3, h⟩ := zbind h
      refine z_gN hC fs_X12_45 h3 dX12_drawn_220 ?_
      refine z_iload (x := x8) rfl dX12_drawn_223 ?_
      obtain ⟨v2, h4, h⟩ := zbind h
      refine z_rL h4 dX12_drawn_225 ?_
      refine z_ladd dX12_drawn_226 ?_
      refine z_nameL (fun v3 hv => ?_)
      have h := zlet_use h hv
      clear hv
      refine z_lstore dX12_drawn_227 (by decide) ?_
      refine zeqL (L2 := [.ref x0, .retAddr 0, .retAddr 0, .retAddr 0, .long x4, .retAddr 0, .long v3, .retAddr 0, .int x8, .retAddr 0, .retAddr 0, .retAddr 0, .retAddr 0, .retAddr 0]) rfl ?_
      obtain ⟨v4, hv⟩ : ∃ z : Int32, z = x8 + 1 := ⟨_, rfl⟩
      have h := zlet_use h hv
      refine z_iinc (v := v4) dX12_drawn_229 (x := x8) rfl (by rw [hv]; rfl) ?_
      clear hv
      refine zeqL (L2 := [.ref x0, .retAddr 0, .retAddr 0, .retAddr 0, .long x4, .retAddr 0, .long v3, .retAddr 0, .int v4, .retAddr 0, .retAddr 0, .retAddr 0, .retAddr 0, .retAddr 0]) rfl ?_
      refine z_goto (tgt := 206) dX12_drawn_232 (by decide) ?_
      exact ih _ _ _ _ _ _ h
def f_X12_drawn_b109 (k91 : Nat → Int32 → Int32 → Int64 → Int32 → zMe → Option (Int32 × zMe)) : Nat → Nat → Int32 → Int32 → Int64 → Int32 → Int32 → Int32 → zMe → Option (Int32 × zMe)
  | 0, _, _, _, _, _, _, _, _ => none
  | n + 1, x0, x1, x3, x4, x6, x7, x8, M =>
    (zgN M x0 [12] 0).bind fun a1 =>
    (zrI M a1 0).bind fun v1 =>
    if v1 ≤ x8 then (
      zlet (x4 * (10 : Int64) : Int64) fun v2 =>
      zlet (x6 + (-1)) fun v3 =>
      k91 x0 x1 x3 v2 v3 M)
    else (
      (zgN M x0 [12] 20).bind fun a2 =>
      zlet (x6 - x6 / 2 * 2) fun v4 =>
      (zgN M x0 [12] 20).bind fun a3 =>
      (zob M x0 12).bind fun _ =>
      (f_X12_go x0 x1 x8 1 x6 M).bind fun q1 =>
      (zrL q1.2 a3 (x7 + q1.1)).bind fun v5 =>
      (zgN q1.2 x0 [12] 20).bind fun a4 =>
      (zob q1.2 x0 12).bind fun _ =>
      (f_X12_go x0 x1 x8 0 x6 q1.2).bind fun q2 =>
      (zrL q2.2 a4 (x7 + q2.1)).bind fun v6 =>
      (zwL q2.2 a2 ((5 * v4) + x8) ((x3.toInt64 * v5) + (((10 - x3).toInt64) * v6))).bind fun M1 =>
      zlet (x8 + 1) fun v7 =>
      f_X12_drawn_b109 k91 n x0 x1 x3 x4 x6 x7 v7 M1)
set_option maxHeartbeats 4000000 in
set_option maxRecDepth 100000 in
theorem s_X12_drawn_b109 {g : zG} (hC : zC g) {k91 : Nat → Int32 → Int32 → Int64 → Int32 → zMe → Option (Int32 × zMe)} (hk91 : ∀ (x0 : Nat) (x1 : Int32) (x3 : Int32) (x4 : Int64) (x6 : Int32) (M : zMe) (q : (Int32 × zMe)), k91 x0 x1 x3 x4 x6 M = some q → zW g mX12_drawn 91 [.ref x0, .int x1, .retAddr 0, .int x3, .long x4, .retAddr 0, .int x6, .retAddr 0, .retAddr 0, .retAddr 0, .retAddr 0, .retAddr 0, .retAddr 0, .retAddr 0] [] M (some (.int q.1)) q.2) : ∀ (n : Nat) (x0 : Nat) (x1 : Int32) (x3 : Int32) (x4 : Int64) (x6 : Int32) (x7 : Int32) (x8 : Int32) (M : zMe) (q : (Int32 × zMe)), f_X12_drawn_b109 k91 n x0 x1 x3 x4 x6 x7 x8 M = some q → zW g mX12_drawn 109 [.ref x0, .int x1, .retAddr 0, .int x3, .long x4, .retAddr 0, .int x6, .int x7, .int x8, .retAddr 0, .retAddr 0, .retAddr 0, .retAddr 0, .retAddr 0] [] M (some (.int q.1)) q.2 := by
  intro n
  induction n with
  | zero => intro x0 x1 x3 x4 x6 x7 x8 M q h; cases h
  | succ n ih =>
    intro x0 x1 x3 x4 x6 x7 x8 M q h
    rw [f_X12_drawn_b109] at h
    refine z_iload (x := x8) rfl dX12_drawn_109 ?_
    refine z_aload_n (x := x0) rfl dX12_drawn_111 ?_
    obtain ⟨a1, h1, h⟩ := zbind h
    refine z_gN hC fs_X12_7 h1 dX12_drawn_112 ?_
    refine z_iconst 0 (by decide) dX12_drawn_115 ?_
    obtain ⟨v1, h2, h⟩ := zbind h
    refine z_rI h2 dX12_drawn_116 ?_
    refine z_icmp_ge (tgt := 186) dX12_drawn_117 (by decide) (fun c1 => ?_) (fun c1 => ?_)
    · have h := zift h c1
      refine z_lload (x := x4) rfl dX12_drawn_186 ?_
      refine z_ldc2 hC dX12_drawn_188 kl_X12_210 ?_
      refine z_lmul dX12_drawn_191 ?_
      refine z_nameL (fun v2 hv => ?_)
      have h := zlet_use h hv
      clear hv
      refine z_lstore dX12_drawn_192 (by decide) ?_
      refine zeqL (L2 := [.ref x0, .int x1, .retAddr 0, .int x3, .long v2, .retAddr 0, .int x6, .int x7, .int x8, .retAddr 0, .retAddr 0, .retAddr 0, .retAddr 0, .retAddr 0]) rfl ?_
      obtain ⟨v3, hv⟩ : ∃ z : Int32, z = x6 + (-1) := ⟨_, rfl⟩
      have h := zlet_use h hv
      refine z_iinc (v := v3) dX12_drawn_194 (x := x6) rfl (by rw [hv]; rfl) ?_
      clear hv
      refine zeqL (L2 := [.ref x0, .int x1, .retAddr 0, .int x3, .long v2, .retAddr 0, .int v3, .int x7, .int x8, .retAddr 0, .retAddr 0, .retAddr 0, .retAddr 0, .retAddr 0]) rfl ?_
      refine z_goto (tgt := 91) dX12_drawn_197 (by decide) ?_
      refine zweak [true, true, false, true, true, false, true, false, false, false, false, false, false, false] ?_
      exact hk91 _ _ _ _ _ _ _ h
    · have h := zife h c1
      refine z_aload_n (x := x0) rfl dX12_drawn_120 ?_
      obtain ⟨a2, h3, h⟩ := zbind h
      refine z_gN hC fs_X12_45 h3 dX12_drawn_121 ?_
      refine z_iconst 5 (by decide) dX12_drawn_124 ?_
      refine z_iload (x := x6) rfl dX12_drawn_125 ?_
      refine z_iconst 2 (by decide) dX12_drawn_127 ?_
      refine z_irem (by decide) dX12_drawn_128 ?_
      refine z_nameI (fun v4 hv => ?_)
      have h := zlet_use h hv
      clear hv
      refine z_imul dX12_drawn_129 ?_
      refine z_iload (x := x8) rfl dX12_drawn_130 ?_
      refine z_iadd dX12_drawn_132 ?_
      refine z_iload_n (x := x3) rfl dX12_drawn_133 ?_
      refine z_i2l dX12_drawn_134 ?_
      refine z_aload_n (x := x0) rfl dX12_drawn_135 ?_
      obtain ⟨a3, h4, h⟩ := zbind h
      refine z_gN hC fs_X12_45 h4 dX12_drawn_136 ?_
      refine z_iload (x := x7) rfl dX12_drawn_139 ?_
      refine z_aload_n (x := x0) rfl dX12_drawn_141 ?_
      refine z_iload_n (x := x1) rfl dX12_drawn_142 ?_
      refine z_iload (x := x8) rfl dX12_drawn_143 ?_
      refine z_iconst 1 (by decide) dX12_drawn_145 ?_
      refine z_iload (x := x6) rfl dX12_drawn_146 ?_
      obtain ⟨_, hb, h⟩ := zbind h
      obtain ⟨fs, hb⟩ := zob_some hb
      obtain ⟨q1, h5, h⟩ := zbind h
      refine z_callV (av := [.int x1, .int x8, .int 1, .int x6]) (rest := [.int x7, .ref a3, .long x3.toInt64, .int ((5 * v4) + x8), .ref a2]) hC zcl_12 hb (s_X12_go hC h5) lk_X12_143 im_X12_go se_X12_go cd_X12_go ⟨by decide, by decide, (Nat.le_of_ble_eq_true rfl)⟩ dX12_drawn_148 ?_
      clear hb fs
      refine zeqS (stk2 := [.int q1.1, .int x7, .ref a3, .long x3.toInt64, .int ((5 * v4) + x8), .ref a2]) rfl ?_
      refine z_iadd dX12_drawn_151 ?_
      obtain ⟨v5, h6, h⟩ := zbind h
      refine z_rL h6 dX12_drawn_152 ?_
      refine z_lmul dX12_drawn_153 ?_
      refine z_bipush 10 (by decide) dX12_drawn_154 ?_
      refine z_iload_n (x := x3) rfl dX12_drawn_156 ?_
      refine z_isub dX12_drawn_157 ?_
      refine z_i2l dX12_drawn_158 ?_
      refine z_aload_n (x := x0) rfl dX12_drawn_159 ?_
      obtain ⟨a4, h7, h⟩ := zbind h
      refine z_gN hC fs_X12_45 h7 dX12_drawn_160 ?_
      refine z_iload (x := x7) rfl dX12_drawn_163 ?_
      refine z_aload_n (x := x0) rfl dX12_drawn_165 ?_
      refine z_iload_n (x := x1) rfl dX12_drawn_166 ?_
      refine z_iload (x := x8) rfl dX12_drawn_167 ?_
      refine z_iconst 0 (by decide) dX12_drawn_169 ?_
      refine z_iload (x := x6) rfl dX12_drawn_170 ?_
      obtain ⟨_, hb, h⟩ := zbind h
      obtain ⟨fs, hb⟩ := zob_some hb
      obtain ⟨q2, h8, h⟩ := zbind h
      refine z_callV (av := [.int x1, .int x8, .int 0, .int x6]) (rest := [.int x7, .ref a4, .long ((10 - x3).toInt64), .long (x3.toInt64 * v5), .int ((5 * v4) + x8), .ref a2]) hC zcl_12 hb (s_X12_go hC h8) lk_X12_143 im_X12_go se_X12_go cd_X12_go ⟨by decide, by decide, (Nat.le_of_ble_eq_true rfl)⟩ dX12_drawn_172 ?_
      clear hb fs
      refine zeqS (stk2 := [.int q2.1, .int x7, .ref a4, .long ((10 - x3).toInt64), .long (x3.toInt64 * v5), .int ((5 * v4) + x8), .ref a2]) rfl ?_
      refine z_iadd dX12_drawn_175 ?_
      obtain ⟨v6, h9, h⟩ := zbind h
      refine z_rL h9 dX12_drawn_176 ?_
      refine z_lmul dX12_drawn_177 ?_
      refine z_ladd dX12_drawn_178 ?_
      obtain ⟨M1, h10, h⟩ := zbind h
      refine z_wL h10 dX12_drawn_179 ?_
      obtain ⟨v7, hv⟩ : ∃ z : Int32, z = x8 + 1 := ⟨_, rfl⟩
      have h := zlet_use h hv
      refine z_iinc (v := v7) dX12_drawn_180 (x := x8) rfl (by rw [hv]; rfl) ?_
      clear hv
      refine zeqL (L2 := [.ref x0, .int x1, .retAddr 0, .int x3, .long x4, .retAddr 0, .int x6, .int x7, .int v7, .retAddr 0, .retAddr 0, .retAddr 0, .retAddr 0, .retAddr 0]) rfl ?_
      refine z_goto (tgt := 109) dX12_drawn_183 (by decide) ?_
      exact ih _ _ _ _ _ _ _ _ _ h
def f_X12_drawn_b91  : Nat → Nat → Int32 → Int32 → Int64 → Int32 → zMe → Option (Int32 × zMe)
  | 0, _, _, _, _, _, _ => none
  | n + 1, x0, x1, x3, x4, x6, M =>
    if x6 < 0 then (
      f_X12_drawn_b206 zfu x0 x4 (0 : Int64) 0 M)
    else (
      zlet ((x6 + 1) - (x6 + 1) / 2 * 2) fun v1 =>
      zlet (5 * v1 : Int32) fun v2 =>
      f_X12_drawn_b109 (f_X12_drawn_b91 n) zfu x0 x1 x3 x4 x6 v2 0 M)
set_option maxHeartbeats 4000000 in
set_option maxRecDepth 100000 in
theorem s_X12_drawn_b91 {g : zG} (hC : zC g)  : ∀ (n : Nat) (x0 : Nat) (x1 : Int32) (x3 : Int32) (x4 : Int64) (x6 : Int32) (M : zMe) (q : (Int32 × zMe)), f_X12_drawn_b91  n x0 x1 x3 x4 x6 M = some q → zW g mX12_drawn 91 [.ref x0, .int x1, .retAddr 0, .int x3, .long x4, .retAddr 0, .int x6, .retAddr 0, .retAddr 0, .retAddr 0, .retAddr 0, .retAddr 0, .retAddr 0, .retAddr 0] [] M (some (.int q.1)) q.2 := by
  intro n
  induction n with
  | zero => intro x0 x1 x3 x4 x6 M q h; cases h
  | succ n ih =>
    intro x0 x1 x3 x4 x6 M q h
    rw [f_X12_drawn_b91] at h
    refine z_iload (x := x6) rfl dX12_drawn_91 ?_
    refine z_if_lt (tgt := 200) dX12_drawn_93 (by decide) (fun c1 => ?_) (fun c1 => ?_)
    · have h := zift h c1
      refine z_lconst (0 : Int64) (by decide) dX12_drawn_200 ?_
      refine z_lstore dX12_drawn_201 (by decide) ?_
      refine zeqL (L2 := [.ref x0, .int x1, .retAddr 0, .int x3, .long x4, .retAddr 0, .long (0 : Int64), .retAddr 0, .retAddr 0, .retAddr 0, .retAddr 0, .retAddr 0, .retAddr 0, .retAddr 0]) rfl ?_
      refine z_iconst 0 (by decide) dX12_drawn_203 ?_
      refine z_istore dX12_drawn_204 (by decide) ?_
      refine zeqL (L2 := [.ref x0, .int x1, .retAddr 0, .int x3, .long x4, .retAddr 0, .long (0 : Int64), .retAddr 0, .int 0, .retAddr 0, .retAddr 0, .retAddr 0, .retAddr 0, .retAddr 0]) rfl ?_
      refine zweak [true, false, false, false, true, false, true, false, true, false, false, false, false, false] ?_
      exact s_X12_drawn_b206 hC _ _ _ _ _ _ _ h
    · have h := zife h c1
      refine z_iconst 5 (by decide) dX12_drawn_96 ?_
      refine z_iload (x := x6) rfl dX12_drawn_97 ?_
      refine z_iconst 1 (by decide) dX12_drawn_99 ?_
      refine z_iadd dX12_drawn_100 ?_
      refine z_iconst 2 (by decide) dX12_drawn_101 ?_
      refine z_irem (by decide) dX12_drawn_102 ?_
      refine z_nameI (fun v1 hv => ?_)
      have h := zlet_use h hv
      clear hv
      refine z_imul dX12_drawn_103 ?_
      refine z_nameI (fun v2 hv => ?_)
      have h := zlet_use h hv
      clear hv
      refine z_istore dX12_drawn_104 (by decide) ?_
      refine zeqL (L2 := [.ref x0, .int x1, .retAddr 0, .int x3, .long x4, .retAddr 0, .int x6, .int v2, .retAddr 0, .retAddr 0, .retAddr 0, .retAddr 0, .retAddr 0, .retAddr 0]) rfl ?_
      refine z_iconst 0 (by decide) dX12_drawn_106 ?_
      refine z_istore dX12_drawn_107 (by decide) ?_
      refine zeqL (L2 := [.ref x0, .int x1, .retAddr 0, .int x3, .long x4, .retAddr 0, .int x6, .int v2, .int 0, .retAddr 0, .retAddr 0, .retAddr 0, .retAddr 0, .retAddr 0]) rfl ?_
      exact s_X12_drawn_b109 hC ih _ _ _ _ _ _ _ _ _ _ h
def f_X12_drawn_b70 (k36 : Nat → Int32 → Int32 → Int32 → Int32 → zMe → Option (Int32 × zMe)) (x0 : Nat) (x1 : Int32) (x2 : Int32) (x3 : Int32) (x4 : Int32) (y0 : Int64) (y1 : Int32) (y2 : Nat) (M : zMe) : Option (Int32 × zMe) :=
  (zwL M y2 y1 y0).bind fun M1 =>
  zlet (x4 + 1) fun v1 =>
  k36 x0 x1 x2 x3 v1 M1
set_option maxHeartbeats 4000000 in
set_option maxRecDepth 100000 in
theorem s_X12_drawn_b70 {g : zG} (hC : zC g) {k36 : Nat → Int32 → Int32 → Int32 → Int32 → zMe → Option (Int32 × zMe)} (hk36 : ∀ (x0 : Nat) (x1 : Int32) (x2 : Int32) (x3 : Int32) (x4 : Int32) (M : zMe) (q : (Int32 × zMe)), k36 x0 x1 x2 x3 x4 M = some q → zW g mX12_drawn 36 [.ref x0, .int x1, .int x2, .int x3, .int x4, .retAddr 0, .retAddr 0, .retAddr 0, .retAddr 0, .retAddr 0, .retAddr 0, .retAddr 0, .retAddr 0, .retAddr 0] [] M (some (.int q.1)) q.2) (x0 : Nat) (x1 : Int32) (x2 : Int32) (x3 : Int32) (x4 : Int32) (y0 : Int64) (y1 : Int32) (y2 : Nat) (M : zMe) (q : (Int32 × zMe)) (h : f_X12_drawn_b70 k36 x0 x1 x2 x3 x4 y0 y1 y2 M = some q) : zW g mX12_drawn 70 [.ref x0, .int x1, .int x2, .int x3, .int x4, .retAddr 0, .retAddr 0, .retAddr 0, .retAddr 0, .retAddr 0, .retAddr 0, .retAddr 0, .retAddr 0, .retAddr 0] [.long y0, .int y1, .ref y2] M (some (.int q.1)) q.2 := by
  unfold f_X12_drawn_b70 at h
  obtain ⟨M1, h1, h⟩ := zbind h
  refine z_wL h1 dX12_drawn_70 ?_
  obtain ⟨v1, hv⟩ : ∃ z : Int32, z = x4 + 1 := ⟨_, rfl⟩
  have h := zlet_use h hv
  refine z_iinc (v := v1) dX12_drawn_71 (x := x4) rfl (by rw [hv]; rfl) ?_
  clear hv
  refine zeqL (L2 := [.ref x0, .int x1, .int x2, .int x3, .int v1, .retAddr 0, .retAddr 0, .retAddr 0, .retAddr 0, .retAddr 0, .retAddr 0, .retAddr 0, .retAddr 0, .retAddr 0]) rfl ?_
  refine z_goto (tgt := 36) dX12_drawn_74 (by decide) ?_
  exact hk36 _ _ _ _ _ _ _ h
def f_X12_drawn_b36  : Nat → Nat → Int32 → Int32 → Int32 → Int32 → zMe → Option (Int32 × zMe)
  | 0, _, _, _, _, _, _ => none
  | n + 1, x0, x1, x2, x3, x4, M =>
    if 5 ≤ x4 then (
      (zgN M x0 [12] 0).bind fun a1 =>
      (zrI M a1 0).bind fun v1 =>
      zlet (x2 - 1 : Int32) fun v2 =>
      f_X12_drawn_b91 zfu x0 x1 x3 v1.toInt64 v2 M)
    else (
      (zgN M x0 [12] 20).bind fun a2 =>
      zlet (x2 - x2 / 2 * 2) fun v3 =>
      (zgN M x0 [12] 0).bind fun a3 =>
      (zrI M a3 2).bind fun v4 =>
      if x4 = v4 then (
        f_X12_drawn_b70 (f_X12_drawn_b36 n) x0 x1 x2 x3 x4 (1 : Int64) ((5 * v3) + x4) a2 M)
      else (
        f_X12_drawn_b70 (f_X12_drawn_b36 n) x0 x1 x2 x3 x4 (0 : Int64) ((5 * v3) + x4) a2 M))
set_option maxHeartbeats 4000000 in
set_option maxRecDepth 100000 in
theorem s_X12_drawn_b36 {g : zG} (hC : zC g)  : ∀ (n : Nat) (x0 : Nat) (x1 : Int32) (x2 : Int32) (x3 : Int32) (x4 : Int32) (M : zMe) (q : (Int32 × zMe)), f_X12_drawn_b36  n x0 x1 x2 x3 x4 M = some q → zW g mX12_drawn 36 [.ref x0, .int x1, .int x2, .int x3, .int x4, .retAddr 0, .retAddr 0, .retAddr 0, .retAddr 0, .retAddr 0, .retAddr 0, .retAddr 0, .retAddr 0, .retAddr 0] [] M (some (.int q.1)) q.2 := by
  intro n
  induction n with
  | zero => intro x0 x1 x2 x3 x4 M q h; cases h
  | succ n ih =>
    intro x0 x1 x2 x3 x4 M q h
    rw [f_X12_drawn_b36] at h
    refine z_iload (x := x4) rfl dX12_drawn_36 ?_
    refine z_iconst 5 (by decide) dX12_drawn_38 ?_
    refine z_icmp_ge (tgt := 77) dX12_drawn_39 (by decide) (fun c1 => ?_) (fun c1 => ?_)
    · have h := zift h c1
      refine z_aload_n (x := x0) rfl dX12_drawn_77 ?_
      obtain ⟨a1, h1, h⟩ := zbind h
      refine z_gN hC fs_X12_7 h1 dX12_drawn_78 ?_
      refine z_iconst 0 (by decide) dX12_drawn_81 ?_
      obtain ⟨v1, h2, h⟩ := zbind h
      refine z_rI h2 dX12_drawn_82 ?_
      refine z_i2l dX12_drawn_83 ?_
      refine z_lstore dX12_drawn_84 (by decide) ?_
      refine zeqL (L2 := [.ref x0, .int x1, .int x2, .int x3, .long v1.toInt64, .retAddr 0, .retAddr 0, .retAddr 0, .retAddr 0, .retAddr 0, .retAddr 0, .retAddr 0, .retAddr 0, .retAddr 0]) rfl ?_
      refine z_iload_n (x := x2) rfl dX12_drawn_86 ?_
      refine z_iconst 1 (by decide) dX12_drawn_87 ?_
      refine z_isub dX12_drawn_88 ?_
      refine z_nameI (fun v2 hv => ?_)
      have h := zlet_use h hv
      clear hv
      refine z_istore dX12_drawn_89 (by decide) ?_
      refine zeqL (L2 := [.ref x0, .int x1, .int x2, .int x3, .long v1.toInt64, .retAddr 0, .int v2, .retAddr 0, .retAddr 0, .retAddr 0, .retAddr 0, .retAddr 0, .retAddr 0, .retAddr 0]) rfl ?_
      refine zweak [true, true, false, true, true, false, true, false, false, false, false, false, false, false] ?_
      exact s_X12_drawn_b91 hC _ _ _ _ _ _ _ _ h
    · have h := zife h c1
      refine z_aload_n (x := x0) rfl dX12_drawn_42 ?_
      obtain ⟨a2, h3, h⟩ := zbind h
      refine z_gN hC fs_X12_45 h3 dX12_drawn_43 ?_
      refine z_iconst 5 (by decide) dX12_drawn_46 ?_
      refine z_iload_n (x := x2) rfl dX12_drawn_47 ?_
      refine z_iconst 2 (by decide) dX12_drawn_48 ?_
      refine z_irem (by decide) dX12_drawn_49 ?_
      refine z_nameI (fun v3 hv => ?_)
      have h := zlet_use h hv
      clear hv
      refine z_imul dX12_drawn_50 ?_
      refine z_iload (x := x4) rfl dX12_drawn_51 ?_
      refine z_iadd dX12_drawn_53 ?_
      refine z_iload (x := x4) rfl dX12_drawn_54 ?_
      refine z_aload_n (x := x0) rfl dX12_drawn_56 ?_
      obtain ⟨a3, h4, h⟩ := zbind h
      refine z_gN hC fs_X12_7 h4 dX12_drawn_57 ?_
      refine z_iconst 2 (by decide) dX12_drawn_60 ?_
      obtain ⟨v4, h5, h⟩ := zbind h
      refine z_rI h5 dX12_drawn_61 ?_
      refine z_icmp_ne (tgt := 69) dX12_drawn_62 (by decide) (fun c2 => ?_) (fun c2 => ?_)
      · have h := zife h c2
        refine z_lconst (0 : Int64) (by decide) dX12_drawn_69 ?_
        exact s_X12_drawn_b70 hC ih _ _ _ _ _ _ _ _ _ _ h
      · have h := zift h c2
        refine z_lconst (1 : Int64) (by decide) dX12_drawn_65 ?_
        refine z_goto (tgt := 70) dX12_drawn_66 (by decide) ?_
        exact s_X12_drawn_b70 hC ih _ _ _ _ _ _ _ _ _ _ h
def f_X12_drawn_b28  (x0 : Nat) (M : zMe) : Option (Int32 × zMe) :=
  (zob M x0 12).bind fun _ =>
  (f_X12_bad x0 M).bind fun q1 =>
  some (q1.1, q1.2)
set_option maxHeartbeats 4000000 in
set_option maxRecDepth 100000 in
theorem s_X12_drawn_b28 {g : zG} (hC : zC g)  (x0 : Nat) (M : zMe) (q : (Int32 × zMe)) (h : f_X12_drawn_b28  x0 M = some q) : zW g mX12_drawn 28 [.ref x0, .retAddr 0, .retAddr 0, .retAddr 0, .retAddr 0, .retAddr 0, .retAddr 0, .retAddr 0, .retAddr 0, .retAddr 0, .retAddr 0, .retAddr 0, .retAddr 0, .retAddr 0] [] M (some (.int q.1)) q.2 := by
  unfold f_X12_drawn_b28 at h
  refine z_aload_n (x := x0) rfl dX12_drawn_28 ?_
  obtain ⟨_, hb, h⟩ := zbind h
  obtain ⟨fs, hb⟩ := zob_some hb
  obtain ⟨q1, h1, h⟩ := zbind h
  refine z_callV (av := []) (rest := []) hC zcl_12 hb (s_X12_bad hC h1) lk_X12_61 im_X12_bad se_X12_bad cd_X12_bad ⟨by decide, by decide, (Nat.le_of_ble_eq_true rfl)⟩ dX12_drawn_29 ?_
  clear hb fs
  refine zeqS (stk2 := [.int q1.1]) rfl ?_
  obtain rfl := Option.some.inj h
  exact z_iret ⟨.int, rfl, rfl⟩ dX12_drawn_32
def f_X12_drawn (x0 : Nat) (x1 : Int32) (x2 : Int32) (x3 : Int32) (M : zMe) : Option (Int32 × zMe) :=
  (zob M x0 12).bind fun _ =>
  (f_X12_isDog x0 x1 M).bind fun q1 =>
  if q1.1 = 0 then (
    f_X12_drawn_b28 x0 q1.2)
  else (
    (f_X12_in x2 0 12 q1.2).bind fun q2 =>
    if q2.1 = 0 then (
      f_X12_drawn_b28 x0 q2.2)
    else (
      (f_X12_in x3 0 10 q2.2).bind fun q3 =>
      if q3.1 = 0 then (
        f_X12_drawn_b28 x0 q3.2)
      else (
        f_X12_drawn_b36 zfu x0 x1 x2 x3 0 q3.2)))
set_option maxHeartbeats 4000000 in
set_option maxRecDepth 100000 in
theorem s_X12_drawn {g : zG} (hC : zC g) {x0 : Nat} {x1 : Int32} {x2 : Int32} {x3 : Int32} {M : zMe} {q : (Int32 × zMe)} (h : f_X12_drawn x0 x1 x2 x3 M = some q) : zMet g yX12_drawn mX12_drawn [.ref x0, .int x1, .int x2, .int x3] M (some (.int q.1)) q.2 := by
  refine z_entry (by decide +kernel) rfl rfl (Nat.le_of_ble_eq_true rfl) ?_
  refine zeqL (L2 := [.ref x0, .int x1, .int x2, .int x3, .retAddr 0, .retAddr 0, .retAddr 0, .retAddr 0, .retAddr 0, .retAddr 0, .retAddr 0, .retAddr 0, .retAddr 0, .retAddr 0]) rfl ?_
  unfold f_X12_drawn at h
  refine z_aload_n (x := x0) rfl dX12_drawn_0 ?_
  refine z_iload_n (x := x1) rfl dX12_drawn_1 ?_
  obtain ⟨_, hb, h⟩ := zbind h
  obtain ⟨fs, hb⟩ := zob_some hb
  obtain ⟨q1, h1, h⟩ := zbind h
  refine z_callV (av := [.int x1]) (rest := []) hC zcl_12 hb (s_X12_isDog hC h1) lk_X12_140 im_X12_isDog se_X12_isDog cd_X12_isDog ⟨by decide, by decide, (Nat.le_of_ble_eq_true rfl)⟩ dX12_drawn_2 ?_
  clear hb fs
  refine zeqS (stk2 := [.int q1.1]) rfl ?_
  refine z_if_eq (tgt := 28) dX12_drawn_5 (by decide) (fun c1 => ?_) (fun c1 => ?_)
  · have h := zift h c1
    refine zweak [true, false, false, false, false, false, false, false, false, false, false, false, false, false] ?_
    exact s_X12_drawn_b28 hC _ _ _ h
  · have h := zife h c1
    refine z_iload_n (x := x2) rfl dX12_drawn_8 ?_
    refine z_iconst 0 (by decide) dX12_drawn_9 ?_
    refine z_bipush 12 (by decide) dX12_drawn_10 ?_
    obtain ⟨q2, h2, h⟩ := zbind h
    refine z_callS (av := [.int x2, .int 0, .int 12]) (rest := []) hC (s_X12_in hC h2) lk_X12_57 st_X12_in cd_X12_in ⟨by decide, by decide, (Nat.le_of_ble_eq_true rfl)⟩ dX12_drawn_12 ?_
    refine zeqS (stk2 := [.int q2.1]) rfl ?_
    refine z_if_eq (tgt := 28) dX12_drawn_15 (by decide) (fun c2 => ?_) (fun c2 => ?_)
    · have h := zift h c2
      refine zweak [true, false, false, false, false, false, false, false, false, false, false, false, false, false] ?_
      exact s_X12_drawn_b28 hC _ _ _ h
    · have h := zife h c2
      refine z_iload_n (x := x3) rfl dX12_drawn_18 ?_
      refine z_iconst 0 (by decide) dX12_drawn_19 ?_
      refine z_bipush 10 (by decide) dX12_drawn_20 ?_
      obtain ⟨q3, h3, h⟩ := zbind h
      refine z_callS (av := [.int x3, .int 0, .int 10]) (rest := []) hC (s_X12_in hC h3) lk_X12_57 st_X12_in cd_X12_in ⟨by decide, by decide, (Nat.le_of_ble_eq_true rfl)⟩ dX12_drawn_22 ?_
      refine zeqS (stk2 := [.int q3.1]) rfl ?_
      refine z_if_ne (tgt := 33) dX12_drawn_25 (by decide) (fun c3 => ?_) (fun c3 => ?_)
      · have h := zife h c3
        refine z_iconst 0 (by decide) dX12_drawn_33 ?_
        refine z_istore dX12_drawn_34 (by decide) ?_
        refine zeqL (L2 := [.ref x0, .int x1, .int x2, .int x3, .int 0, .retAddr 0, .retAddr 0, .retAddr 0, .retAddr 0, .retAddr 0, .retAddr 0, .retAddr 0, .retAddr 0, .retAddr 0]) rfl ?_
        exact s_X12_drawn_b36 hC _ _ _ _ _ _ _ _ h
      · have h := zift h c3
        refine zweak [true, false, false, false, false, false, false, false, false, false, false, false, false, false] ?_
        exact s_X12_drawn_b28 hC _ _ _ h
def f_X12_part_b28  (y0 : Int64) (M : zMe) : Option (Int64 × zMe) :=
  some (y0, M)
set_option maxHeartbeats 4000000 in
set_option maxRecDepth 100000 in
theorem s_X12_part_b28 {g : zG} (hC : zC g)  (y0 : Int64) (M : zMe) (q : (Int64 × zMe)) (h : f_X12_part_b28  y0 M = some q) : zW g mX12_part 28 [.retAddr 0, .retAddr 0] [.long y0] M (some (.long q.1)) q.2 := by
  unfold f_X12_part_b28 at h
  obtain rfl := Option.some.inj h
  exact z_lret rfl dX12_part_28
def f_X12_part (x0 : Nat) (x1 : Int32) (M : zMe) : Option (Int64 × zMe) :=
  if x1 = 0 then (
    (zgL M x0 [12] 7).bind fun v1 =>
    f_X12_part_b28 v1 M)
  else (
    if x1 = 1 then (
      (zgL M x0 [12] 8).bind fun v2 =>
      f_X12_part_b28 v2 M)
    else (
      (zob M x0 12).bind fun _ =>
      (f_X12_bad x0 M).bind fun q1 =>
      f_X12_part_b28 q1.1.toInt64 q1.2))
set_option maxHeartbeats 4000000 in
set_option maxRecDepth 100000 in
theorem s_X12_part {g : zG} (hC : zC g) {x0 : Nat} {x1 : Int32} {M : zMe} {q : (Int64 × zMe)} (h : f_X12_part x0 x1 M = some q) : zMet g yX12_part mX12_part [.ref x0, .int x1] M (some (.long q.1)) q.2 := by
  refine z_entry (by decide +kernel) rfl rfl (Nat.le_of_ble_eq_true rfl) ?_
  refine zeqL (L2 := [.ref x0, .int x1]) rfl ?_
  unfold f_X12_part at h
  refine z_iload_n (x := x1) rfl dX12_part_0 ?_
  refine z_if_ne (tgt := 11) dX12_part_1 (by decide) (fun c1 => ?_) (fun c1 => ?_)
  · have h := zife h c1
    refine z_iload_n (x := x1) rfl dX12_part_11 ?_
    refine z_iconst 1 (by decide) dX12_part_12 ?_
    refine z_icmp_ne (tgt := 23) dX12_part_13 (by decide) (fun c2 => ?_) (fun c2 => ?_)
    · have h := zife h c2
      refine z_aload_n (x := x0) rfl dX12_part_23 ?_
      obtain ⟨_, hb, h⟩ := zbind h
      obtain ⟨fs, hb⟩ := zob_some hb
      obtain ⟨q1, h3, h⟩ := zbind h
      refine z_callV (av := []) (rest := []) hC zcl_12 hb (s_X12_bad hC h3) lk_X12_61 im_X12_bad se_X12_bad cd_X12_bad ⟨by decide, by decide, (Nat.le_of_ble_eq_true rfl)⟩ dX12_part_24 ?_
      clear hb fs
      refine zeqS (stk2 := [.int q1.1]) rfl ?_
      refine z_i2l dX12_part_27 ?_
      refine zweak [false, false] ?_
      exact s_X12_part_b28 hC _ _ _ h
    · have h := zift h c2
      refine z_aload_n (x := x0) rfl dX12_part_16 ?_
      obtain ⟨v2, h2, h⟩ := zbind h
      refine z_gL hC fs_X12_49 h2 dX12_part_17 ?_
      refine z_goto (tgt := 28) dX12_part_20 (by decide) ?_
      refine zweak [false, false] ?_
      exact s_X12_part_b28 hC _ _ _ h
  · have h := zift h c1
    refine z_aload_n (x := x0) rfl dX12_part_4 ?_
    obtain ⟨v1, h1, h⟩ := zbind h
    refine z_gL hC fs_X12_212 h1 dX12_part_5 ?_
    refine z_goto (tgt := 28) dX12_part_8 (by decide) ?_
    refine zweak [false, false] ?_
    exact s_X12_part_b28 hC _ _ _ h
def f_X12_image_b16  : Nat → Nat → Int32 → Int32 → zMe → Option (Int32 × zMe)
  | 0, _, _, _, _ => none
  | n + 1, x0, x1, x2, M =>
    if 25 ≤ x2 then (
      (zgN M x0 [12] 3).bind fun a1 =>
      (zwZ M a1 x1 1).bind fun M1 =>
      some (1, M1))
    else (
      (zgN M x0 [12] 2).bind fun a2 =>
      (zgN M x0 [12] 0).bind fun a3 =>
      (zrI M a3 x2).bind fun v1 =>
      (zwI M a2 ((25 * x1) + x2) v1).bind fun M2 =>
      zlet (x2 + 1) fun v2 =>
      f_X12_image_b16 n x0 x1 v2 M2)
set_option maxHeartbeats 4000000 in
set_option maxRecDepth 100000 in
theorem s_X12_image_b16 {g : zG} (hC : zC g)  : ∀ (n : Nat) (x0 : Nat) (x1 : Int32) (x2 : Int32) (M : zMe) (q : (Int32 × zMe)), f_X12_image_b16  n x0 x1 x2 M = some q → zW g mX12_image 16 [.ref x0, .int x1, .int x2] [] M (some (.int q.1)) q.2 := by
  intro n
  induction n with
  | zero => intro x0 x1 x2 M q h; cases h
  | succ n ih =>
    intro x0 x1 x2 M q h
    rw [f_X12_image_b16] at h
    refine z_iload_n (x := x2) rfl dX12_image_16 ?_
    refine z_bipush 25 (by decide) dX12_image_17 ?_
    refine z_icmp_ge (tgt := 45) dX12_image_19 (by decide) (fun c1 => ?_) (fun c1 => ?_)
    · have h := zift h c1
      refine z_aload_n (x := x0) rfl dX12_image_45 ?_
      obtain ⟨a1, h1, h⟩ := zbind h
      refine z_gN hC fs_X12_19 h1 dX12_image_46 ?_
      refine z_iload_n (x := x1) rfl dX12_image_49 ?_
      refine z_iconst 1 (by decide) dX12_image_50 ?_
      obtain ⟨M1, h2, h⟩ := zbind h
      refine z_wZ h2 dX12_image_51 ?_
      refine z_iconst 1 (by decide) dX12_image_52 ?_
      obtain rfl := Option.some.inj h
      exact z_iret ⟨.int, rfl, rfl⟩ dX12_image_53
    · have h := zife h c1
      refine z_aload_n (x := x0) rfl dX12_image_22 ?_
      obtain ⟨a2, h3, h⟩ := zbind h
      refine z_gN hC fs_X12_16 h3 dX12_image_23 ?_
      refine z_bipush 25 (by decide) dX12_image_26 ?_
      refine z_iload_n (x := x1) rfl dX12_image_28 ?_
      refine z_imul dX12_image_29 ?_
      refine z_iload_n (x := x2) rfl dX12_image_30 ?_
      refine z_iadd dX12_image_31 ?_
      refine z_aload_n (x := x0) rfl dX12_image_32 ?_
      obtain ⟨a3, h4, h⟩ := zbind h
      refine z_gN hC fs_X12_7 h4 dX12_image_33 ?_
      refine z_iload_n (x := x2) rfl dX12_image_36 ?_
      obtain ⟨v1, h5, h⟩ := zbind h
      refine z_rI h5 dX12_image_37 ?_
      obtain ⟨M2, h6, h⟩ := zbind h
      refine z_wI h6 dX12_image_38 ?_
      obtain ⟨v2, hv⟩ : ∃ z : Int32, z = x2 + 1 := ⟨_, rfl⟩
      have h := zlet_use h hv
      refine z_iinc (v := v2) dX12_image_39 (x := x2) rfl (by rw [hv]; rfl) ?_
      clear hv
      refine zeqL (L2 := [.ref x0, .int x1, .int v2]) rfl ?_
      refine z_goto (tgt := 16) dX12_image_42 (by decide) ?_
      exact ih _ _ _ _ _ h
def f_X12_image (x0 : Nat) (x1 : Int32) (M : zMe) : Option (Int32 × zMe) :=
  (f_X12_in x1 0 1 M).bind fun q1 =>
  if q1.1 = 0 then (
    (zob q1.2 x0 12).bind fun _ =>
    (f_X12_bad x0 q1.2).bind fun q2 =>
    some (q2.1, q2.2))
  else (
    f_X12_image_b16 zfu x0 x1 0 q1.2)
set_option maxHeartbeats 4000000 in
set_option maxRecDepth 100000 in
theorem s_X12_image {g : zG} (hC : zC g) {x0 : Nat} {x1 : Int32} {M : zMe} {q : (Int32 × zMe)} (h : f_X12_image x0 x1 M = some q) : zMet g yX12_image mX12_image [.ref x0, .int x1] M (some (.int q.1)) q.2 := by
  refine z_entry (by decide +kernel) rfl rfl (Nat.le_of_ble_eq_true rfl) ?_
  refine zeqL (L2 := [.ref x0, .int x1, .retAddr 0]) rfl ?_
  unfold f_X12_image at h
  refine z_iload_n (x := x1) rfl dX12_image_0 ?_
  refine z_iconst 0 (by decide) dX12_image_1 ?_
  refine z_iconst 1 (by decide) dX12_image_2 ?_
  obtain ⟨q1, h1, h⟩ := zbind h
  refine z_callS (av := [.int x1, .int 0, .int 1]) (rest := []) hC (s_X12_in hC h1) lk_X12_57 st_X12_in cd_X12_in ⟨by decide, by decide, (Nat.le_of_ble_eq_true rfl)⟩ dX12_image_3 ?_
  refine zeqS (stk2 := [.int q1.1]) rfl ?_
  refine z_if_ne (tgt := 14) dX12_image_6 (by decide) (fun c1 => ?_) (fun c1 => ?_)
  · have h := zife h c1
    refine z_iconst 0 (by decide) dX12_image_14 ?_
    refine z_istore_n dX12_image_15 (by decide) ?_
    refine zeqL (L2 := [.ref x0, .int x1, .int 0]) rfl ?_
    exact s_X12_image_b16 hC _ _ _ _ _ _ h
  · have h := zift h c1
    refine z_aload_n (x := x0) rfl dX12_image_9 ?_
    obtain ⟨_, hb, h⟩ := zbind h
    obtain ⟨fs, hb⟩ := zob_some hb
    obtain ⟨q2, h2, h⟩ := zbind h
    refine z_callV (av := []) (rest := []) hC zcl_12 hb (s_X12_bad hC h2) lk_X12_61 im_X12_bad se_X12_bad cd_X12_bad ⟨by decide, by decide, (Nat.le_of_ble_eq_true rfl)⟩ dX12_image_10 ?_
    clear hb fs
    refine zeqS (stk2 := [.int q2.1]) rfl ?_
    obtain rfl := Option.some.inj h
    exact z_iret ⟨.int, rfl, rfl⟩ dX12_image_13
def f_X12_from_b33  : Nat → Nat → Int32 → Int32 → zMe → Option (Int32 × zMe)
  | 0, _, _, _, _ => none
  | n + 1, x0, x1, x2, M =>
    if 25 ≤ x2 then (
      some (1, M))
    else (
      (zgN M x0 [12] 0).bind fun a1 =>
      (zgN M x0 [12] 2).bind fun a2 =>
      (zrI M a2 ((25 * x1) + x2)).bind fun v1 =>
      (zwI M a1 x2 v1).bind fun M1 =>
      zlet (x2 + 1) fun v2 =>
      f_X12_from_b33 n x0 x1 v2 M1)
set_option maxHeartbeats 4000000 in
set_option maxRecDepth 100000 in
theorem s_X12_from_b33 {g : zG} (hC : zC g)  : ∀ (n : Nat) (x0 : Nat) (x1 : Int32) (x2 : Int32) (M : zMe) (q : (Int32 × zMe)), f_X12_from_b33  n x0 x1 x2 M = some q → zW g mX12_from 33 [.ref x0, .int x1, .int x2] [] M (some (.int q.1)) q.2 := by
  intro n
  induction n with
  | zero => intro x0 x1 x2 M q h; cases h
  | succ n ih =>
    intro x0 x1 x2 M q h
    rw [f_X12_from_b33] at h
    refine z_iload_n (x := x2) rfl dX12_from_33 ?_
    refine z_bipush 25 (by decide) dX12_from_34 ?_
    refine z_icmp_ge (tgt := 62) dX12_from_36 (by decide) (fun c1 => ?_) (fun c1 => ?_)
    · have h := zift h c1
      refine z_iconst 1 (by decide) dX12_from_62 ?_
      obtain rfl := Option.some.inj h
      exact z_iret ⟨.int, rfl, rfl⟩ dX12_from_63
    · have h := zife h c1
      refine z_aload_n (x := x0) rfl dX12_from_39 ?_
      obtain ⟨a1, h1, h⟩ := zbind h
      refine z_gN hC fs_X12_7 h1 dX12_from_40 ?_
      refine z_iload_n (x := x2) rfl dX12_from_43 ?_
      refine z_aload_n (x := x0) rfl dX12_from_44 ?_
      obtain ⟨a2, h2, h⟩ := zbind h
      refine z_gN hC fs_X12_16 h2 dX12_from_45 ?_
      refine z_bipush 25 (by decide) dX12_from_48 ?_
      refine z_iload_n (x := x1) rfl dX12_from_50 ?_
      refine z_imul dX12_from_51 ?_
      refine z_iload_n (x := x2) rfl dX12_from_52 ?_
      refine z_iadd dX12_from_53 ?_
      obtain ⟨v1, h3, h⟩ := zbind h
      refine z_rI h3 dX12_from_54 ?_
      obtain ⟨M1, h4, h⟩ := zbind h
      refine z_wI h4 dX12_from_55 ?_
      obtain ⟨v2, hv⟩ : ∃ z : Int32, z = x2 + 1 := ⟨_, rfl⟩
      have h := zlet_use h hv
      refine z_iinc (v := v2) dX12_from_56 (x := x2) rfl (by rw [hv]; rfl) ?_
      clear hv
      refine zeqL (L2 := [.ref x0, .int x1, .int v2]) rfl ?_
      refine z_goto (tgt := 33) dX12_from_59 (by decide) ?_
      exact ih _ _ _ _ _ h
def f_X12_from (x0 : Nat) (x1 : Int32) (M : zMe) : Option (Int32 × zMe) :=
  (f_X12_in x1 0 1 M).bind fun q1 =>
  if q1.1 = 0 then (
    (zob q1.2 x0 12).bind fun _ =>
    (f_X12_bad x0 q1.2).bind fun q2 =>
    some (q2.1, q2.2))
  else (
    (zgN q1.2 x0 [12] 3).bind fun a1 =>
    (zrZ q1.2 a1 x1).bind fun v1 =>
    if v1 = 0 then (
      (zob q1.2 x0 12).bind fun _ =>
      (f_X12_refuses x0 1 (-3) q1.2).bind fun q3 =>
      some (q3.1, q3.2))
    else (
      f_X12_from_b33 zfu x0 x1 0 q1.2))
set_option maxHeartbeats 4000000 in
set_option maxRecDepth 100000 in
theorem s_X12_from {g : zG} (hC : zC g) {x0 : Nat} {x1 : Int32} {M : zMe} {q : (Int32 × zMe)} (h : f_X12_from x0 x1 M = some q) : zMet g yX12_from mX12_from [.ref x0, .int x1] M (some (.int q.1)) q.2 := by
  refine z_entry (by decide +kernel) rfl rfl (Nat.le_of_ble_eq_true rfl) ?_
  refine zeqL (L2 := [.ref x0, .int x1, .retAddr 0]) rfl ?_
  unfold f_X12_from at h
  refine z_iload_n (x := x1) rfl dX12_from_0 ?_
  refine z_iconst 0 (by decide) dX12_from_1 ?_
  refine z_iconst 1 (by decide) dX12_from_2 ?_
  obtain ⟨q1, h1, h⟩ := zbind h
  refine z_callS (av := [.int x1, .int 0, .int 1]) (rest := []) hC (s_X12_in hC h1) lk_X12_57 st_X12_in cd_X12_in ⟨by decide, by decide, (Nat.le_of_ble_eq_true rfl)⟩ dX12_from_3 ?_
  refine zeqS (stk2 := [.int q1.1]) rfl ?_
  refine z_if_ne (tgt := 14) dX12_from_6 (by decide) (fun c1 => ?_) (fun c1 => ?_)
  · have h := zife h c1
    refine z_aload_n (x := x0) rfl dX12_from_14 ?_
    obtain ⟨a1, h3, h⟩ := zbind h
    refine z_gN hC fs_X12_19 h3 dX12_from_15 ?_
    refine z_iload_n (x := x1) rfl dX12_from_18 ?_
    obtain ⟨v1, h4, h⟩ := zbind h
    refine z_rZ h4 dX12_from_19 ?_
    refine z_if_ne (tgt := 31) dX12_from_20 (by decide) (fun c2 => ?_) (fun c2 => ?_)
    · have h := zife h c2
      refine z_iconst 0 (by decide) dX12_from_31 ?_
      refine z_istore_n dX12_from_32 (by decide) ?_
      refine zeqL (L2 := [.ref x0, .int x1, .int 0]) rfl ?_
      exact s_X12_from_b33 hC _ _ _ _ _ _ h
    · have h := zift h c2
      refine z_aload_n (x := x0) rfl dX12_from_23 ?_
      refine z_iconst 1 (by decide) dX12_from_24 ?_
      refine z_bipush (-3) (by decide) dX12_from_25 ?_
      obtain ⟨_, hb, h⟩ := zbind h
      obtain ⟨fs, hb⟩ := zob_some hb
      obtain ⟨q3, h5, h⟩ := zbind h
      refine z_callV (av := [.int 1, .int (-3)]) (rest := []) hC zcl_12 hb (s_X12_refuses hC h5) lk_X12_53 im_X12_refuses se_X12_refuses cd_X12_refuses ⟨by decide, by decide, (Nat.le_of_ble_eq_true rfl)⟩ dX12_from_27 ?_
      clear hb fs
      refine zeqS (stk2 := [.int q3.1]) rfl ?_
      obtain rfl := Option.some.inj h
      exact z_iret ⟨.int, rfl, rfl⟩ dX12_from_30
  · have h := zift h c1
    refine z_aload_n (x := x0) rfl dX12_from_9 ?_
    obtain ⟨_, hb, h⟩ := zbind h
    obtain ⟨fs, hb⟩ := zob_some hb
    obtain ⟨q2, h2, h⟩ := zbind h
    refine z_callV (av := []) (rest := []) hC zcl_12 hb (s_X12_bad hC h2) lk_X12_61 im_X12_bad se_X12_bad cd_X12_bad ⟨by decide, by decide, (Nat.le_of_ble_eq_true rfl)⟩ dX12_from_10 ?_
    clear hb fs
    refine zeqS (stk2 := [.int q2.1]) rfl ?_
    obtain rfl := Option.some.inj h
    exact z_iret ⟨.int, rfl, rfl⟩ dX12_from_13
def f_X12_status_b24  (y0 : Int32) (M : zMe) : Option (Int32 × zMe) :=
  some (y0, M)
set_option maxHeartbeats 4000000 in
set_option maxRecDepth 100000 in
theorem s_X12_status_b24 {g : zG} (hC : zC g)  (y0 : Int32) (M : zMe) (q : (Int32 × zMe)) (h : f_X12_status_b24  y0 M = some q) : zW g mX12_status 24 [.retAddr 0, .retAddr 0] [.int y0] M (some (.int q.1)) q.2 := by
  unfold f_X12_status_b24 at h
  obtain rfl := Option.some.inj h
  exact z_iret ⟨.int, rfl, rfl⟩ dX12_status_24
def f_X12_status (x0 : Nat) (x1 : Int32) (M : zMe) : Option (Int32 × zMe) :=
  (f_X12_in x1 0 2 M).bind fun q1 =>
  if q1.1 = 0 then (
    (zob q1.2 x0 12).bind fun _ =>
    (f_X12_refuses x0 0 (-1) q1.2).bind fun q2 =>
    f_X12_status_b24 q2.1 q2.2)
  else (
    (zgN q1.2 x0 [12] 6).bind fun a1 =>
    (zrI q1.2 a1 x1).bind fun v1 =>
    f_X12_status_b24 v1 q1.2)
set_option maxHeartbeats 4000000 in
set_option maxRecDepth 100000 in
theorem s_X12_status {g : zG} (hC : zC g) {x0 : Nat} {x1 : Int32} {M : zMe} {q : (Int32 × zMe)} (h : f_X12_status x0 x1 M = some q) : zMet g yX12_status mX12_status [.ref x0, .int x1] M (some (.int q.1)) q.2 := by
  refine z_entry (by decide +kernel) rfl rfl (Nat.le_of_ble_eq_true rfl) ?_
  refine zeqL (L2 := [.ref x0, .int x1]) rfl ?_
  unfold f_X12_status at h
  refine z_iload_n (x := x1) rfl dX12_status_0 ?_
  refine z_iconst 0 (by decide) dX12_status_1 ?_
  refine z_iconst 2 (by decide) dX12_status_2 ?_
  obtain ⟨q1, h1, h⟩ := zbind h
  refine z_callS (av := [.int x1, .int 0, .int 2]) (rest := []) hC (s_X12_in hC h1) lk_X12_57 st_X12_in cd_X12_in ⟨by decide, by decide, (Nat.le_of_ble_eq_true rfl)⟩ dX12_status_3 ?_
  refine zeqS (stk2 := [.int q1.1]) rfl ?_
  refine z_if_eq (tgt := 18) dX12_status_6 (by decide) (fun c1 => ?_) (fun c1 => ?_)
  · have h := zift h c1
    refine z_aload_n (x := x0) rfl dX12_status_18 ?_
    refine z_iconst 0 (by decide) dX12_status_19 ?_
    refine z_iconst (-1) (by decide) dX12_status_20 ?_
    obtain ⟨_, hb, h⟩ := zbind h
    obtain ⟨fs, hb⟩ := zob_some hb
    obtain ⟨q2, h2, h⟩ := zbind h
    refine z_callV (av := [.int 0, .int (-1)]) (rest := []) hC zcl_12 hb (s_X12_refuses hC h2) lk_X12_53 im_X12_refuses se_X12_refuses cd_X12_refuses ⟨by decide, by decide, (Nat.le_of_ble_eq_true rfl)⟩ dX12_status_21 ?_
    clear hb fs
    refine zeqS (stk2 := [.int q2.1]) rfl ?_
    refine zweak [false, false] ?_
    exact s_X12_status_b24 hC _ _ _ h
  · have h := zife h c1
    refine z_aload_n (x := x0) rfl dX12_status_9 ?_
    obtain ⟨a1, h3, h⟩ := zbind h
    refine z_gN hC fs_X12_26 h3 dX12_status_10 ?_
    refine z_iload_n (x := x1) rfl dX12_status_13 ?_
    obtain ⟨v1, h4, h⟩ := zbind h
    refine z_rI h4 dX12_status_14 ?_
    refine z_goto (tgt := 24) dX12_status_15 (by decide) ?_
    refine zweak [false, false] ?_
    exact s_X12_status_b24 hC _ _ _ h
def f_X12_counted_b49  (y0 : Int32) (M : zMe) : Option (Int32 × zMe) :=
  some (y0, M)
set_option maxHeartbeats 4000000 in
set_option maxRecDepth 100000 in
theorem s_X12_counted_b49 {g : zG} (hC : zC g)  (y0 : Int32) (M : zMe) (q : (Int32 × zMe)) (h : f_X12_counted_b49  y0 M = some q) : zW g mX12_counted 49 [.retAddr 0, .retAddr 0] [.int y0] M (some (.int q.1)) q.2 := by
  unfold f_X12_counted_b49 at h
  obtain rfl := Option.some.inj h
  exact z_iret ⟨.int, rfl, rfl⟩ dX12_counted_49
def f_X12_counted (x0 : Nat) (x1 : Int32) (M : zMe) : Option (Int32 × zMe) :=
  if x1 = 0 then (
    (zgN M x0 [12] 0).bind fun a1 =>
    (zrI M a1 0).bind fun v1 =>
    f_X12_counted_b49 v1 M)
  else (
    if x1 = 1 then (
      (zgN M x0 [12] 0).bind fun a2 =>
      (zrI M a2 6).bind fun v2 =>
      f_X12_counted_b49 v2 M)
    else (
      if x1 = 2 then (
        (zgN M x0 [12] 0).bind fun a3 =>
        (zrI M a3 1).bind fun v3 =>
        (f_X12_bits v3 M).bind fun q1 =>
        f_X12_counted_b49 q1.1 q1.2)
      else (
        (zgI M x0 [12] 5).bind fun v4 =>
        f_X12_counted_b49 v4 M)))
set_option maxHeartbeats 4000000 in
set_option maxRecDepth 100000 in
theorem s_X12_counted {g : zG} (hC : zC g) {x0 : Nat} {x1 : Int32} {M : zMe} {q : (Int32 × zMe)} (h : f_X12_counted x0 x1 M = some q) : zMet g yX12_counted mX12_counted [.ref x0, .int x1] M (some (.int q.1)) q.2 := by
  refine z_entry (by decide +kernel) rfl rfl (Nat.le_of_ble_eq_true rfl) ?_
  refine zeqL (L2 := [.ref x0, .int x1]) rfl ?_
  unfold f_X12_counted at h
  refine z_iload_n (x := x1) rfl dX12_counted_0 ?_
  refine z_if_ne (tgt := 13) dX12_counted_1 (by decide) (fun c1 => ?_) (fun c1 => ?_)
  · have h := zife h c1
    refine z_iload_n (x := x1) rfl dX12_counted_13 ?_
    refine z_iconst 1 (by decide) dX12_counted_14 ?_
    refine z_icmp_ne (tgt := 28) dX12_counted_15 (by decide) (fun c2 => ?_) (fun c2 => ?_)
    · have h := zife h c2
      refine z_iload_n (x := x1) rfl dX12_counted_28 ?_
      refine z_iconst 2 (by decide) dX12_counted_29 ?_
      refine z_icmp_ne (tgt := 45) dX12_counted_30 (by decide) (fun c3 => ?_) (fun c3 => ?_)
      · have h := zife h c3
        refine z_aload_n (x := x0) rfl dX12_counted_45 ?_
        obtain ⟨v4, h8, h⟩ := zbind h
        refine z_gI hC fs_X12_76 h8 dX12_counted_46 ?_
        refine zweak [false, false] ?_
        exact s_X12_counted_b49 hC _ _ _ h
      · have h := zift h c3
        refine z_aload_n (x := x0) rfl dX12_counted_33 ?_
        obtain ⟨a3, h5, h⟩ := zbind h
        refine z_gN hC fs_X12_7 h5 dX12_counted_34 ?_
        refine z_iconst 1 (by decide) dX12_counted_37 ?_
        obtain ⟨v3, h6, h⟩ := zbind h
        refine z_rI h6 dX12_counted_38 ?_
        obtain ⟨q1, h7, h⟩ := zbind h
        refine z_callS (av := [.int v3]) (rest := []) hC (s_X12_bits hC h7) lk_X12_193 st_X12_bits cd_X12_bits ⟨by decide, by decide, (Nat.le_of_ble_eq_true rfl)⟩ dX12_counted_39 ?_
        refine zeqS (stk2 := [.int q1.1]) rfl ?_
        refine z_goto (tgt := 49) dX12_counted_42 (by decide) ?_
        refine zweak [false, false] ?_
        exact s_X12_counted_b49 hC _ _ _ h
    · have h := zift h c2
      refine z_aload_n (x := x0) rfl dX12_counted_18 ?_
      obtain ⟨a2, h3, h⟩ := zbind h
      refine z_gN hC fs_X12_7 h3 dX12_counted_19 ?_
      refine z_bipush 6 (by decide) dX12_counted_22 ?_
      obtain ⟨v2, h4, h⟩ := zbind h
      refine z_rI h4 dX12_counted_24 ?_
      refine z_goto (tgt := 49) dX12_counted_25 (by decide) ?_
      refine zweak [false, false] ?_
      exact s_X12_counted_b49 hC _ _ _ h
  · have h := zift h c1
    refine z_aload_n (x := x0) rfl dX12_counted_4 ?_
    obtain ⟨a1, h1, h⟩ := zbind h
    refine z_gN hC fs_X12_7 h1 dX12_counted_5 ?_
    refine z_iconst 0 (by decide) dX12_counted_8 ?_
    obtain ⟨v1, h2, h⟩ := zbind h
    refine z_rI h2 dX12_counted_9 ?_
    refine z_goto (tgt := 49) dX12_counted_10 (by decide) ?_
    refine zweak [false, false] ?_
    exact s_X12_counted_b49 hC _ _ _ h
def f_X12_count_b21  (y0 : Int32) (M : zMe) : Option (Int32 × zMe) :=
  some (y0, M)
set_option maxHeartbeats 4000000 in
set_option maxRecDepth 100000 in
theorem s_X12_count_b21 {g : zG} (hC : zC g)  (y0 : Int32) (M : zMe) (q : (Int32 × zMe)) (h : f_X12_count_b21  y0 M = some q) : zW g mX12_count 21 [.retAddr 0, .retAddr 0] [.int y0] M (some (.int q.1)) q.2 := by
  unfold f_X12_count_b21 at h
  obtain rfl := Option.some.inj h
  exact z_iret ⟨.int, rfl, rfl⟩ dX12_count_21
def f_X12_count (x0 : Nat) (x1 : Int32) (M : zMe) : Option (Int32 × zMe) :=
  (f_X12_in x1 0 3 M).bind fun q1 =>
  if q1.1 = 0 then (
    (zob q1.2 x0 12).bind fun _ =>
    (f_X12_bad x0 q1.2).bind fun q2 =>
    f_X12_count_b21 q2.1 q2.2)
  else (
    (zob q1.2 x0 12).bind fun _ =>
    (f_X12_counted x0 x1 q1.2).bind fun q3 =>
    f_X12_count_b21 q3.1 q3.2)
set_option maxHeartbeats 4000000 in
set_option maxRecDepth 100000 in
theorem s_X12_count {g : zG} (hC : zC g) {x0 : Nat} {x1 : Int32} {M : zMe} {q : (Int32 × zMe)} (h : f_X12_count x0 x1 M = some q) : zMet g yX12_count mX12_count [.ref x0, .int x1] M (some (.int q.1)) q.2 := by
  refine z_entry (by decide +kernel) rfl rfl (Nat.le_of_ble_eq_true rfl) ?_
  refine zeqL (L2 := [.ref x0, .int x1]) rfl ?_
  unfold f_X12_count at h
  refine z_iload_n (x := x1) rfl dX12_count_0 ?_
  refine z_iconst 0 (by decide) dX12_count_1 ?_
  refine z_iconst 3 (by decide) dX12_count_2 ?_
  obtain ⟨q1, h1, h⟩ := zbind h
  refine z_callS (av := [.int x1, .int 0, .int 3]) (rest := []) hC (s_X12_in hC h1) lk_X12_57 st_X12_in cd_X12_in ⟨by decide, by decide, (Nat.le_of_ble_eq_true rfl)⟩ dX12_count_3 ?_
  refine zeqS (stk2 := [.int q1.1]) rfl ?_
  refine z_if_eq (tgt := 17) dX12_count_6 (by decide) (fun c1 => ?_) (fun c1 => ?_)
  · have h := zift h c1
    refine z_aload_n (x := x0) rfl dX12_count_17 ?_
    obtain ⟨_, hb, h⟩ := zbind h
    obtain ⟨fs, hb⟩ := zob_some hb
    obtain ⟨q2, h2, h⟩ := zbind h
    refine z_callV (av := []) (rest := []) hC zcl_12 hb (s_X12_bad hC h2) lk_X12_61 im_X12_bad se_X12_bad cd_X12_bad ⟨by decide, by decide, (Nat.le_of_ble_eq_true rfl)⟩ dX12_count_18 ?_
    clear hb fs
    refine zeqS (stk2 := [.int q2.1]) rfl ?_
    refine zweak [false, false] ?_
    exact s_X12_count_b21 hC _ _ _ h
  · have h := zife h c1
    refine z_aload_n (x := x0) rfl dX12_count_9 ?_
    refine z_iload_n (x := x1) rfl dX12_count_10 ?_
    obtain ⟨_, hb, h⟩ := zbind h
    obtain ⟨fs, hb⟩ := zob_some hb
    obtain ⟨q3, h3, h⟩ := zbind h
    refine z_callV (av := [.int x1]) (rest := []) hC zcl_12 hb (s_X12_counted hC h3) lk_X12_215 im_X12_counted se_X12_counted cd_X12_counted ⟨by decide, by decide, (Nat.le_of_ble_eq_true rfl)⟩ dX12_count_11 ?_
    clear hb fs
    refine zeqS (stk2 := [.int q3.1]) rfl ?_
    refine z_goto (tgt := 21) dX12_count_14 (by decide) ?_
    refine zweak [false, false] ?_
    exact s_X12_count_b21 hC _ _ _ h
def f_X12_digest_b71  : Nat → Nat → Int64 → Int32 → zMe → Option (Int64 × zMe)
  | 0, _, _, _, _ => none
  | n + 1, x0, x1, x3, M =>
    if 6 ≤ x3 then (
      (zgL M x0 [12] 7).bind fun v1 =>
      zlet (((31 : Int64) * x1) + v1 : Int64) fun v2 =>
      (zgL M x0 [12] 8).bind fun v3 =>
      some (((31 : Int64) * v2) + v3, M))
    else (
      (zgN M x0 [12] 0).bind fun a1 =>
      (zrI M a1 x3).bind fun v4 =>
      zlet (((31 : Int64) * x1) + v4.toInt64 : Int64) fun v5 =>
      zlet (x3 + 1) fun v6 =>
      f_X12_digest_b71 n x0 v5 v6 M)
set_option maxHeartbeats 4000000 in
set_option maxRecDepth 100000 in
theorem s_X12_digest_b71 {g : zG} (hC : zC g)  : ∀ (n : Nat) (x0 : Nat) (x1 : Int64) (x3 : Int32) (M : zMe) (q : (Int64 × zMe)), f_X12_digest_b71  n x0 x1 x3 M = some q → zW g mX12_digest 71 [.ref x0, .long x1, .retAddr 0, .int x3] [] M (some (.long q.1)) q.2 := by
  intro n
  induction n with
  | zero => intro x0 x1 x3 M q h; cases h
  | succ n ih =>
    intro x0 x1 x3 M q h
    rw [f_X12_digest_b71] at h
    refine z_iload_n (x := x3) rfl dX12_digest_71 ?_
    refine z_bipush 6 (by decide) dX12_digest_72 ?_
    refine z_icmp_ge (tgt := 97) dX12_digest_74 (by decide) (fun c1 => ?_) (fun c1 => ?_)
    · have h := zift h c1
      refine z_ldc2 hC dX12_digest_97 kl_X12_220 ?_
      refine z_lload_n (x := x1) rfl dX12_digest_100 ?_
      refine z_lmul dX12_digest_101 ?_
      refine z_aload_n (x := x0) rfl dX12_digest_102 ?_
      obtain ⟨v1, h1, h⟩ := zbind h
      refine z_gL hC fs_X12_212 h1 dX12_digest_103 ?_
      refine z_ladd dX12_digest_106 ?_
      refine z_nameL (fun v2 hv => ?_)
      have h := zlet_use h hv
      clear hv
      refine z_lstore_n dX12_digest_107 (by decide) ?_
      refine zeqL (L2 := [.ref x0, .long v2, .retAddr 0, .int x3]) rfl ?_
      refine z_ldc2 hC dX12_digest_108 kl_X12_220 ?_
      refine z_lload_n (x := v2) rfl dX12_digest_111 ?_
      refine z_lmul dX12_digest_112 ?_
      refine z_aload_n (x := x0) rfl dX12_digest_113 ?_
      obtain ⟨v3, h2, h⟩ := zbind h
      refine z_gL hC fs_X12_49 h2 dX12_digest_114 ?_
      refine z_ladd dX12_digest_117 ?_
      obtain rfl := Option.some.inj h
      exact z_lret rfl dX12_digest_118
    · have h := zife h c1
      refine z_ldc2 hC dX12_digest_77 kl_X12_220 ?_
      refine z_lload_n (x := x1) rfl dX12_digest_80 ?_
      refine z_lmul dX12_digest_81 ?_
      refine z_aload_n (x := x0) rfl dX12_digest_82 ?_
      obtain ⟨a1, h3, h⟩ := zbind h
      refine z_gN hC fs_X12_7 h3 dX12_digest_83 ?_
      refine z_iload_n (x := x3) rfl dX12_digest_86 ?_
      obtain ⟨v4, h4, h⟩ := zbind h
      refine z_rI h4 dX12_digest_87 ?_
      refine z_i2l dX12_digest_88 ?_
      refine z_ladd dX12_digest_89 ?_
      refine z_nameL (fun v5 hv => ?_)
      have h := zlet_use h hv
      clear hv
      refine z_lstore_n dX12_digest_90 (by decide) ?_
      refine zeqL (L2 := [.ref x0, .long v5, .retAddr 0, .int x3]) rfl ?_
      obtain ⟨v6, hv⟩ : ∃ z : Int32, z = x3 + 1 := ⟨_, rfl⟩
      have h := zlet_use h hv
      refine z_iinc (v := v6) dX12_digest_91 (x := x3) rfl (by rw [hv]; rfl) ?_
      clear hv
      refine zeqL (L2 := [.ref x0, .long v5, .retAddr 0, .int v6]) rfl ?_
      refine z_goto (tgt := 71) dX12_digest_94 (by decide) ?_
      exact ih _ _ _ _ _ h
def f_X12_digest_b32  : Nat → Nat → Int64 → Int32 → zMe → Option (Int64 × zMe)
  | 0, _, _, _, _ => none
  | n + 1, x0, x1, x3, M =>
    (zgN M x0 [12] 0).bind fun a1 =>
    (zrI M a1 6).bind fun v1 =>
    if (6 * v1) ≤ x3 then (
      f_X12_digest_b71 zfu x0 x1 1 M)
    else (
      (zgN M x0 [12] 0).bind fun a2 =>
      (zrI M a2 (7 + x3)).bind fun v2 =>
      zlet (((31 : Int64) * x1) + v2.toInt64 : Int64) fun v3 =>
      zlet (x3 + 1) fun v4 =>
      f_X12_digest_b32 n x0 v3 v4 M)
set_option maxHeartbeats 4000000 in
set_option maxRecDepth 100000 in
theorem s_X12_digest_b32 {g : zG} (hC : zC g)  : ∀ (n : Nat) (x0 : Nat) (x1 : Int64) (x3 : Int32) (M : zMe) (q : (Int64 × zMe)), f_X12_digest_b32  n x0 x1 x3 M = some q → zW g mX12_digest 32 [.ref x0, .long x1, .retAddr 0, .int x3] [] M (some (.long q.1)) q.2 := by
  intro n
  induction n with
  | zero => intro x0 x1 x3 M q h; cases h
  | succ n ih =>
    intro x0 x1 x3 M q h
    rw [f_X12_digest_b32] at h
    refine z_iload_n (x := x3) rfl dX12_digest_32 ?_
    refine z_bipush 6 (by decide) dX12_digest_33 ?_
    refine z_aload_n (x := x0) rfl dX12_digest_35 ?_
    obtain ⟨a1, h1, h⟩ := zbind h
    refine z_gN hC fs_X12_7 h1 dX12_digest_36 ?_
    refine z_bipush 6 (by decide) dX12_digest_39 ?_
    obtain ⟨v1, h2, h⟩ := zbind h
    refine z_rI h2 dX12_digest_41 ?_
    refine z_imul dX12_digest_42 ?_
    refine z_icmp_ge (tgt := 69) dX12_digest_43 (by decide) (fun c1 => ?_) (fun c1 => ?_)
    · have h := zift h c1
      refine z_iconst 1 (by decide) dX12_digest_69 ?_
      refine z_istore_n dX12_digest_70 (by decide) ?_
      refine zeqL (L2 := [.ref x0, .long x1, .retAddr 0, .int 1]) rfl ?_
      exact s_X12_digest_b71 hC _ _ _ _ _ _ h
    · have h := zife h c1
      refine z_ldc2 hC dX12_digest_46 kl_X12_220 ?_
      refine z_lload_n (x := x1) rfl dX12_digest_49 ?_
      refine z_lmul dX12_digest_50 ?_
      refine z_aload_n (x := x0) rfl dX12_digest_51 ?_
      obtain ⟨a2, h3, h⟩ := zbind h
      refine z_gN hC fs_X12_7 h3 dX12_digest_52 ?_
      refine z_bipush 7 (by decide) dX12_digest_55 ?_
      refine z_iload_n (x := x3) rfl dX12_digest_57 ?_
      refine z_iadd dX12_digest_58 ?_
      obtain ⟨v2, h4, h⟩ := zbind h
      refine z_rI h4 dX12_digest_59 ?_
      refine z_i2l dX12_digest_60 ?_
      refine z_ladd dX12_digest_61 ?_
      refine z_nameL (fun v3 hv => ?_)
      have h := zlet_use h hv
      clear hv
      refine z_lstore_n dX12_digest_62 (by decide) ?_
      refine zeqL (L2 := [.ref x0, .long v3, .retAddr 0, .int x3]) rfl ?_
      obtain ⟨v4, hv⟩ : ∃ z : Int32, z = x3 + 1 := ⟨_, rfl⟩
      have h := zlet_use h hv
      refine z_iinc (v := v4) dX12_digest_63 (x := x3) rfl (by rw [hv]; rfl) ?_
      clear hv
      refine zeqL (L2 := [.ref x0, .long v3, .retAddr 0, .int v4]) rfl ?_
      refine z_goto (tgt := 32) dX12_digest_66 (by decide) ?_
      exact ih _ _ _ _ _ h
def f_X12_digest_b6  : Nat → Nat → Int64 → Int32 → zMe → Option (Int64 × zMe)
  | 0, _, _, _, _ => none
  | n + 1, x0, x1, x3, M =>
    if 4 ≤ x3 then (
      f_X12_digest_b32 zfu x0 x1 0 M)
    else (
      (zob M x0 12).bind fun _ =>
      (f_X12_counted x0 x3 M).bind fun q1 =>
      zlet (((31 : Int64) * x1) + q1.1.toInt64 : Int64) fun v1 =>
      zlet (x3 + 1) fun v2 =>
      f_X12_digest_b6 n x0 v1 v2 q1.2)
set_option maxHeartbeats 4000000 in
set_option maxRecDepth 100000 in
theorem s_X12_digest_b6 {g : zG} (hC : zC g)  : ∀ (n : Nat) (x0 : Nat) (x1 : Int64) (x3 : Int32) (M : zMe) (q : (Int64 × zMe)), f_X12_digest_b6  n x0 x1 x3 M = some q → zW g mX12_digest 6 [.ref x0, .long x1, .retAddr 0, .int x3] [] M (some (.long q.1)) q.2 := by
  intro n
  induction n with
  | zero => intro x0 x1 x3 M q h; cases h
  | succ n ih =>
    intro x0 x1 x3 M q h
    rw [f_X12_digest_b6] at h
    refine z_iload_n (x := x3) rfl dX12_digest_6 ?_
    refine z_iconst 4 (by decide) dX12_digest_7 ?_
    refine z_icmp_ge (tgt := 30) dX12_digest_8 (by decide) (fun c1 => ?_) (fun c1 => ?_)
    · have h := zift h c1
      refine z_iconst 0 (by decide) dX12_digest_30 ?_
      refine z_istore_n dX12_digest_31 (by decide) ?_
      refine zeqL (L2 := [.ref x0, .long x1, .retAddr 0, .int 0]) rfl ?_
      exact s_X12_digest_b32 hC _ _ _ _ _ _ h
    · have h := zife h c1
      refine z_ldc2 hC dX12_digest_11 kl_X12_220 ?_
      refine z_lload_n (x := x1) rfl dX12_digest_14 ?_
      refine z_lmul dX12_digest_15 ?_
      refine z_aload_n (x := x0) rfl dX12_digest_16 ?_
      refine z_iload_n (x := x3) rfl dX12_digest_17 ?_
      obtain ⟨_, hb, h⟩ := zbind h
      obtain ⟨fs, hb⟩ := zob_some hb
      obtain ⟨q1, h1, h⟩ := zbind h
      refine z_callV (av := [.int x3]) (rest := [.long ((31 : Int64) * x1)]) hC zcl_12 hb (s_X12_counted hC h1) lk_X12_215 im_X12_counted se_X12_counted cd_X12_counted ⟨by decide, by decide, (Nat.le_of_ble_eq_true rfl)⟩ dX12_digest_18 ?_
      clear hb fs
      refine zeqS (stk2 := [.int q1.1, .long ((31 : Int64) * x1)]) rfl ?_
      refine z_i2l dX12_digest_21 ?_
      refine z_ladd dX12_digest_22 ?_
      refine z_nameL (fun v1 hv => ?_)
      have h := zlet_use h hv
      clear hv
      refine z_lstore_n dX12_digest_23 (by decide) ?_
      refine zeqL (L2 := [.ref x0, .long v1, .retAddr 0, .int x3]) rfl ?_
      obtain ⟨v2, hv⟩ : ∃ z : Int32, z = x3 + 1 := ⟨_, rfl⟩
      have h := zlet_use h hv
      refine z_iinc (v := v2) dX12_digest_24 (x := x3) rfl (by rw [hv]; rfl) ?_
      clear hv
      refine zeqL (L2 := [.ref x0, .long v1, .retAddr 0, .int v2]) rfl ?_
      refine z_goto (tgt := 6) dX12_digest_27 (by decide) ?_
      exact ih _ _ _ _ _ h
def f_X12_digest (x0 : Nat) (M : zMe) : Option (Int64 × zMe) :=
  f_X12_digest_b6 zfu x0 (661 : Int64) 0 M
set_option maxHeartbeats 4000000 in
set_option maxRecDepth 100000 in
theorem s_X12_digest {g : zG} (hC : zC g) {x0 : Nat} {M : zMe} {q : (Int64 × zMe)} (h : f_X12_digest x0 M = some q) : zMet g yX12_digest mX12_digest [.ref x0] M (some (.long q.1)) q.2 := by
  refine z_entry (by decide +kernel) rfl rfl (Nat.le_of_ble_eq_true rfl) ?_
  refine zeqL (L2 := [.ref x0, .retAddr 0, .retAddr 0, .retAddr 0]) rfl ?_
  unfold f_X12_digest at h
  refine z_ldc2 hC dX12_digest_0 kl_X12_218 ?_
  refine z_lstore_n dX12_digest_3 (by decide) ?_
  refine zeqL (L2 := [.ref x0, .long (661 : Int64), .retAddr 0, .retAddr 0]) rfl ?_
  refine z_iconst 0 (by decide) dX12_digest_4 ?_
  refine z_istore_n dX12_digest_5 (by decide) ?_
  refine zeqL (L2 := [.ref x0, .long (661 : Int64), .retAddr 0, .int 0]) rfl ?_
  exact s_X12_digest_b6 hC _ _ _ _ _ _ h
