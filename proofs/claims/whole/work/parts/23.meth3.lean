def f_X12_verb_b123  (y0 : Int32) (M : zMe) : Option (Int32 × zMe) :=
  some (y0, M)
set_option maxHeartbeats 4000000 in
set_option maxRecDepth 100000 in
theorem s_X12_verb_b123 {g : zG} (hC : zC g)  (y0 : Int32) (M : zMe) (q : (Int32 × zMe)) (h : f_X12_verb_b123  y0 M = some q) : zW g mX12_verb 123 [.retAddr 0, .retAddr 0, .retAddr 0, .retAddr 0] [.int y0] M (some (.int q.1)) q.2 := by
  unfold f_X12_verb_b123 at h
  obtain rfl := Option.some.inj h
  exact z_iret ⟨.int, rfl, rfl⟩ dX12_verb_123
def f_X12_verb_b52  (x1 : Int64) (M : zMe) : Option (Int32 × zMe) :=
  if (lg_cmp x1 (123610792682867 : Int64)) = 0 then (
    some (0, M))
  else (
    if (lg_cmp x1 (1936225652 : Int64)) = 0 then (
      f_X12_verb_b123 1 M)
    else (
      if (lg_cmp x1 (1735352684 : Int64)) = 0 then (
        f_X12_verb_b123 2 M)
      else (
        if (lg_cmp x1 (422541683571 : Int64)) = 0 then (
          f_X12_verb_b123 3 M)
        else (
          if (lg_cmp x1 (108243466679400 : Int64)) = 0 then (
            f_X12_verb_b123 4 M)
          else (
            if (lg_cmp x1 (6582119 : Int64)) = 0 then (
              f_X12_verb_b123 5 M)
            else (
              f_X12_verb_b123 (-1) M))))))
set_option maxHeartbeats 4000000 in
set_option maxRecDepth 100000 in
theorem s_X12_verb_b52 {g : zG} (hC : zC g)  (x1 : Int64) (M : zMe) (q : (Int32 × zMe)) (h : f_X12_verb_b52  x1 M = some q) : zW g mX12_verb 52 [.retAddr 0, .long x1, .retAddr 0, .retAddr 0] [] M (some (.int q.1)) q.2 := by
  unfold f_X12_verb_b52 at h
  refine z_lload_n (x := x1) rfl dX12_verb_52 ?_
  refine z_ldc2 hC dX12_verb_53 kl_X12_103 ?_
  refine z_lcmp dX12_verb_56 ?_
  refine z_if_ne (tgt := 62) dX12_verb_57 (by decide) (fun c1 => ?_) (fun c1 => ?_)
  · have h := zife h c1
    refine z_lload_n (x := x1) rfl dX12_verb_62 ?_
    refine z_ldc2 hC dX12_verb_63 kl_X12_105 ?_
    refine z_lcmp dX12_verb_66 ?_
    refine z_if_ne (tgt := 74) dX12_verb_67 (by decide) (fun c2 => ?_) (fun c2 => ?_)
    · have h := zife h c2
      refine z_lload_n (x := x1) rfl dX12_verb_74 ?_
      refine z_ldc2 hC dX12_verb_75 kl_X12_107 ?_
      refine z_lcmp dX12_verb_78 ?_
      refine z_if_ne (tgt := 86) dX12_verb_79 (by decide) (fun c3 => ?_) (fun c3 => ?_)
      · have h := zife h c3
        refine z_lload_n (x := x1) rfl dX12_verb_86 ?_
        refine z_ldc2 hC dX12_verb_87 kl_X12_109 ?_
        refine z_lcmp dX12_verb_90 ?_
        refine z_if_ne (tgt := 98) dX12_verb_91 (by decide) (fun c4 => ?_) (fun c4 => ?_)
        · have h := zife h c4
          refine z_lload_n (x := x1) rfl dX12_verb_98 ?_
          refine z_ldc2 hC dX12_verb_99 kl_X12_111 ?_
          refine z_lcmp dX12_verb_102 ?_
          refine z_if_ne (tgt := 110) dX12_verb_103 (by decide) (fun c5 => ?_) (fun c5 => ?_)
          · have h := zife h c5
            refine z_lload_n (x := x1) rfl dX12_verb_110 ?_
            refine z_ldc2 hC dX12_verb_111 kl_X12_113 ?_
            refine z_lcmp dX12_verb_114 ?_
            refine z_if_ne (tgt := 122) dX12_verb_115 (by decide) (fun c6 => ?_) (fun c6 => ?_)
            · have h := zife h c6
              refine z_iconst (-1) (by decide) dX12_verb_122 ?_
              refine zweak [false, false, false, false] ?_
              exact s_X12_verb_b123 hC _ _ _ h
            · have h := zift h c6
              refine z_iconst 5 (by decide) dX12_verb_118 ?_
              refine z_goto (tgt := 123) dX12_verb_119 (by decide) ?_
              refine zweak [false, false, false, false] ?_
              exact s_X12_verb_b123 hC _ _ _ h
          · have h := zift h c5
            refine z_iconst 4 (by decide) dX12_verb_106 ?_
            refine z_goto (tgt := 123) dX12_verb_107 (by decide) ?_
            refine zweak [false, false, false, false] ?_
            exact s_X12_verb_b123 hC _ _ _ h
        · have h := zift h c4
          refine z_iconst 3 (by decide) dX12_verb_94 ?_
          refine z_goto (tgt := 123) dX12_verb_95 (by decide) ?_
          refine zweak [false, false, false, false] ?_
          exact s_X12_verb_b123 hC _ _ _ h
      · have h := zift h c3
        refine z_iconst 2 (by decide) dX12_verb_82 ?_
        refine z_goto (tgt := 123) dX12_verb_83 (by decide) ?_
        refine zweak [false, false, false, false] ?_
        exact s_X12_verb_b123 hC _ _ _ h
    · have h := zift h c2
      refine z_iconst 1 (by decide) dX12_verb_70 ?_
      refine z_goto (tgt := 123) dX12_verb_71 (by decide) ?_
      refine zweak [false, false, false, false] ?_
      exact s_X12_verb_b123 hC _ _ _ h
  · have h := zift h c1
    refine z_iconst 0 (by decide) dX12_verb_60 ?_
    obtain rfl := Option.some.inj h
    exact z_iret ⟨.int, rfl, rfl⟩ dX12_verb_61
def f_X12_verb_b14  : Nat → Nat → Int64 → Int32 → zMe → Option (Int32 × zMe)
  | 0, _, _, _, _ => none
  | n + 1, x0, x1, x3, M =>
    (zgI M x0 [12] 12).bind fun v1 =>
    if v1 ≤ x3 then (
      f_X12_verb_b52 x1 M)
    else (
      if 7 ≤ x3 then (
        f_X12_verb_b52 x1 M)
      else (
        (zgI M x0 [12] 11).bind fun v2 =>
        (zob M x0 12).bind fun _ =>
        (f_X12_byteAt x0 (v2 + x3) M).bind fun q1 =>
        zlet (((256 : Int64) * x1) + q1.1.toInt64 : Int64) fun v3 =>
        zlet (x3 + 1) fun v4 =>
        f_X12_verb_b14 n x0 v3 v4 q1.2))
set_option maxHeartbeats 4000000 in
set_option maxRecDepth 100000 in
theorem s_X12_verb_b14 {g : zG} (hC : zC g)  : ∀ (n : Nat) (x0 : Nat) (x1 : Int64) (x3 : Int32) (M : zMe) (q : (Int32 × zMe)), f_X12_verb_b14  n x0 x1 x3 M = some q → zW g mX12_verb 14 [.ref x0, .long x1, .retAddr 0, .int x3] [] M (some (.int q.1)) q.2 := by
  intro n
  induction n with
  | zero => intro x0 x1 x3 M q h; cases h
  | succ n ih =>
    intro x0 x1 x3 M q h
    rw [f_X12_verb_b14] at h
    refine z_iload_n (x := x3) rfl dX12_verb_14 ?_
    refine z_aload_n (x := x0) rfl dX12_verb_15 ?_
    obtain ⟨v1, h1, h⟩ := zbind h
    refine z_gI hC fs_X12_98 h1 dX12_verb_16 ?_
    refine z_icmp_ge (tgt := 52) dX12_verb_19 (by decide) (fun c1 => ?_) (fun c1 => ?_)
    · have h := zift h c1
      refine zweak [false, true, false, false] ?_
      exact s_X12_verb_b52 hC _ _ _ h
    · have h := zife h c1
      refine z_iload_n (x := x3) rfl dX12_verb_22 ?_
      refine z_bipush 7 (by decide) dX12_verb_23 ?_
      refine z_icmp_ge (tgt := 52) dX12_verb_25 (by decide) (fun c2 => ?_) (fun c2 => ?_)
      · have h := zift h c2
        refine zweak [false, true, false, false] ?_
        exact s_X12_verb_b52 hC _ _ _ h
      · have h := zife h c2
        refine z_ldc2 hC dX12_verb_28 kl_X12_101 ?_
        refine z_lload_n (x := x1) rfl dX12_verb_31 ?_
        refine z_lmul dX12_verb_32 ?_
        refine z_aload_n (x := x0) rfl dX12_verb_33 ?_
        refine z_aload_n (x := x0) rfl dX12_verb_34 ?_
        obtain ⟨v2, h2, h⟩ := zbind h
        refine z_gI hC fs_X12_89 h2 dX12_verb_35 ?_
        refine z_iload_n (x := x3) rfl dX12_verb_38 ?_
        refine z_iadd dX12_verb_39 ?_
        obtain ⟨_, hb, h⟩ := zbind h
        obtain ⟨fs, hb⟩ := zob_some hb
        obtain ⟨q1, h3, h⟩ := zbind h
        refine z_callV (av := [.int (v2 + x3)]) (rest := [.long ((256 : Int64) * x1)]) hC zcl_12 hb (s_X12_byteAt hC h3) lk_X12_85 im_X12_byteAt se_X12_byteAt cd_X12_byteAt ⟨by decide, by decide, (Nat.le_of_ble_eq_true rfl)⟩ dX12_verb_40 ?_
        clear hb fs
        refine zeqS (stk2 := [.int q1.1, .long ((256 : Int64) * x1)]) rfl ?_
        refine z_i2l dX12_verb_43 ?_
        refine z_ladd dX12_verb_44 ?_
        refine z_nameL (fun v3 hv => ?_)
        have h := zlet_use h hv
        clear hv
        refine z_lstore_n dX12_verb_45 (by decide) ?_
        refine zeqL (L2 := [.ref x0, .long v3, .retAddr 0, .int x3]) rfl ?_
        obtain ⟨v4, hv⟩ : ∃ z : Int32, z = x3 + 1 := ⟨_, rfl⟩
        have h := zlet_use h hv
        refine z_iinc (v := v4) dX12_verb_46 (x := x3) rfl (by rw [hv]; rfl) ?_
        clear hv
        refine zeqL (L2 := [.ref x0, .long v3, .retAddr 0, .int v4]) rfl ?_
        refine z_goto (tgt := 14) dX12_verb_49 (by decide) ?_
        exact ih _ _ _ _ _ h
def f_X12_verb (x0 : Nat) (M : zMe) : Option (Int32 × zMe) :=
  (zgI M x0 [12] 10).bind fun v1 =>
  if v1 = 1 then (
    f_X12_verb_b14 zfu x0 (0 : Int64) 0 M)
  else (
    some ((-1), M))
set_option maxHeartbeats 4000000 in
set_option maxRecDepth 100000 in
theorem s_X12_verb {g : zG} (hC : zC g) {x0 : Nat} {M : zMe} {q : (Int32 × zMe)} (h : f_X12_verb x0 M = some q) : zMet g yX12_verb mX12_verb [.ref x0] M (some (.int q.1)) q.2 := by
  refine z_entry (by decide +kernel) rfl rfl (Nat.le_of_ble_eq_true rfl) ?_
  refine zeqL (L2 := [.ref x0, .retAddr 0, .retAddr 0, .retAddr 0]) rfl ?_
  unfold f_X12_verb at h
  refine z_aload_n (x := x0) rfl dX12_verb_0 ?_
  obtain ⟨v1, h1, h⟩ := zbind h
  refine z_gI hC fs_X12_95 h1 dX12_verb_1 ?_
  refine z_iconst 1 (by decide) dX12_verb_4 ?_
  refine z_icmp_eq (tgt := 10) dX12_verb_5 (by decide) (fun c1 => ?_) (fun c1 => ?_)
  · have h := zift h c1
    refine z_lconst (0 : Int64) (by decide) dX12_verb_10 ?_
    refine z_lstore_n dX12_verb_11 (by decide) ?_
    refine zeqL (L2 := [.ref x0, .long (0 : Int64), .retAddr 0, .retAddr 0]) rfl ?_
    refine z_iconst 0 (by decide) dX12_verb_12 ?_
    refine z_istore_n dX12_verb_13 (by decide) ?_
    refine zeqL (L2 := [.ref x0, .long (0 : Int64), .retAddr 0, .int 0]) rfl ?_
    exact s_X12_verb_b14 hC _ _ _ _ _ _ h
  · have h := zife h c1
    refine z_iconst (-1) (by decide) dX12_verb_8 ?_
    obtain rfl := Option.some.inj h
    exact z_iret ⟨.int, rfl, rfl⟩ dX12_verb_9
def f_X12_figure_b46  (y0 : Int32) (M : zMe) : Option (Int32 × zMe) :=
  some (y0, M)
set_option maxHeartbeats 4000000 in
set_option maxRecDepth 100000 in
theorem s_X12_figure_b46 {g : zG} (hC : zC g)  (y0 : Int32) (M : zMe) (q : (Int32 × zMe)) (h : f_X12_figure_b46  y0 M = some q) : zW g mX12_figure 46 [.retAddr 0, .retAddr 0, .retAddr 0, .retAddr 0] [.int y0] M (some (.int q.1)) q.2 := by
  unfold f_X12_figure_b46 at h
  obtain rfl := Option.some.inj h
  exact z_iret ⟨.int, rfl, rfl⟩ dX12_figure_46
def f_X12_figure_b45   (M : zMe) : Option (Int32 × zMe) :=
  f_X12_figure_b46 (-1) M
set_option maxHeartbeats 4000000 in
set_option maxRecDepth 100000 in
theorem s_X12_figure_b45 {g : zG} (hC : zC g)   (M : zMe) (q : (Int32 × zMe)) (h : f_X12_figure_b45   M = some q) : zW g mX12_figure 45 [.retAddr 0, .retAddr 0, .retAddr 0, .retAddr 0] [] M (some (.int q.1)) q.2 := by
  unfold f_X12_figure_b45 at h
  refine z_iconst (-1) (by decide) dX12_figure_45 ?_
  exact s_X12_figure_b46 hC _ _ _ h
def f_X12_figure (x0 : Nat) (x1 : Int32) (x2 : Int32) (M : zMe) : Option (Int32 × zMe) :=
  (zob M x0 12).bind fun _ =>
  (f_X12_token x0 M).bind fun q1 =>
  (zgI q1 x0 [12] 11).bind fun v1 =>
  (zob q1 x0 12).bind fun _ =>
  (f_X12_byteAt x0 v1 q1).bind fun q2 =>
  zlet (q2.1 - 48 : Int32) fun v2 =>
  (zgI q2.2 x0 [12] 10).bind fun v3 =>
  if v3 = 2 then (
    (zgI q2.2 x0 [12] 12).bind fun v4 =>
    if v4 = 1 then (
      (f_X12_in v2 x1 x2 q2.2).bind fun q3 =>
      if q3.1 = 0 then (
        f_X12_figure_b45 q3.2)
      else (
        f_X12_figure_b46 v2 q3.2))
    else (
      f_X12_figure_b45 q2.2))
  else (
    f_X12_figure_b45 q2.2)
set_option maxHeartbeats 4000000 in
set_option maxRecDepth 100000 in
theorem s_X12_figure {g : zG} (hC : zC g) {x0 : Nat} {x1 : Int32} {x2 : Int32} {M : zMe} {q : (Int32 × zMe)} (h : f_X12_figure x0 x1 x2 M = some q) : zMet g yX12_figure mX12_figure [.ref x0, .int x1, .int x2] M (some (.int q.1)) q.2 := by
  refine z_entry (by decide +kernel) rfl rfl (Nat.le_of_ble_eq_true rfl) ?_
  refine zeqL (L2 := [.ref x0, .int x1, .int x2, .retAddr 0]) rfl ?_
  unfold f_X12_figure at h
  refine z_aload_n (x := x0) rfl dX12_figure_0 ?_
  obtain ⟨_, hb, h⟩ := zbind h
  obtain ⟨fs, hb⟩ := zob_some hb
  obtain ⟨q1, h1, h⟩ := zbind h
  refine z_callV (av := []) (rest := []) hC zcl_12 hb (s_X12_token hC h1) lk_X12_115 im_X12_token se_X12_token cd_X12_token ⟨by decide, by decide, (Nat.le_of_ble_eq_true rfl)⟩ dX12_figure_1 ?_
  clear hb fs
  refine zeqS (stk2 := []) rfl ?_
  refine z_aload_n (x := x0) rfl dX12_figure_4 ?_
  refine z_aload_n (x := x0) rfl dX12_figure_5 ?_
  obtain ⟨v1, h2, h⟩ := zbind h
  refine z_gI hC fs_X12_89 h2 dX12_figure_6 ?_
  obtain ⟨_, hb, h⟩ := zbind h
  obtain ⟨fs, hb⟩ := zob_some hb
  obtain ⟨q2, h3, h⟩ := zbind h
  refine z_callV (av := [.int v1]) (rest := []) hC zcl_12 hb (s_X12_byteAt hC h3) lk_X12_85 im_X12_byteAt se_X12_byteAt cd_X12_byteAt ⟨by decide, by decide, (Nat.le_of_ble_eq_true rfl)⟩ dX12_figure_9 ?_
  clear hb fs
  refine zeqS (stk2 := [.int q2.1]) rfl ?_
  refine z_bipush 48 (by decide) dX12_figure_12 ?_
  refine z_isub dX12_figure_14 ?_
  refine z_nameI (fun v2 hv => ?_)
  have h := zlet_use h hv
  clear hv
  refine z_istore_n dX12_figure_15 (by decide) ?_
  refine zeqL (L2 := [.ref x0, .int x1, .int x2, .int v2]) rfl ?_
  refine z_aload_n (x := x0) rfl dX12_figure_16 ?_
  obtain ⟨v3, h4, h⟩ := zbind h
  refine z_gI hC fs_X12_95 h4 dX12_figure_17 ?_
  refine z_iconst 2 (by decide) dX12_figure_20 ?_
  refine z_icmp_ne (tgt := 45) dX12_figure_21 (by decide) (fun c1 => ?_) (fun c1 => ?_)
  · have h := zife h c1
    refine zweak [false, false, false, false] ?_
    exact s_X12_figure_b45 hC _ _ h
  · have h := zift h c1
    refine z_aload_n (x := x0) rfl dX12_figure_24 ?_
    obtain ⟨v4, h5, h⟩ := zbind h
    refine z_gI hC fs_X12_98 h5 dX12_figure_25 ?_
    refine z_iconst 1 (by decide) dX12_figure_28 ?_
    refine z_icmp_ne (tgt := 45) dX12_figure_29 (by decide) (fun c2 => ?_) (fun c2 => ?_)
    · have h := zife h c2
      refine zweak [false, false, false, false] ?_
      exact s_X12_figure_b45 hC _ _ h
    · have h := zift h c2
      refine z_iload_n (x := v2) rfl dX12_figure_32 ?_
      refine z_iload_n (x := x1) rfl dX12_figure_33 ?_
      refine z_iload_n (x := x2) rfl dX12_figure_34 ?_
      obtain ⟨q3, h6, h⟩ := zbind h
      refine z_callS (av := [.int v2, .int x1, .int x2]) (rest := []) hC (s_X12_in hC h6) lk_X12_57 st_X12_in cd_X12_in ⟨by decide, by decide, (Nat.le_of_ble_eq_true rfl)⟩ dX12_figure_35 ?_
      refine zeqS (stk2 := [.int q3.1]) rfl ?_
      refine z_if_eq (tgt := 45) dX12_figure_38 (by decide) (fun c3 => ?_) (fun c3 => ?_)
      · have h := zift h c3
        refine zweak [false, false, false, false] ?_
        exact s_X12_figure_b45 hC _ _ h
      · have h := zife h c3
        refine z_iload_n (x := v2) rfl dX12_figure_41 ?_
        refine z_goto (tgt := 46) dX12_figure_42 (by decide) ?_
        refine zweak [false, false, false, false] ?_
        exact s_X12_figure_b46 hC _ _ _ h
def f_X12_row_b101  (y0 : Int32) (M : zMe) : Option (Int32 × zMe) :=
  some (y0, M)
set_option maxHeartbeats 4000000 in
set_option maxRecDepth 100000 in
theorem s_X12_row_b101 {g : zG} (hC : zC g)  (y0 : Int32) (M : zMe) (q : (Int32 × zMe)) (h : f_X12_row_b101  y0 M = some q) : zW g mX12_row 101 [.retAddr 0, .retAddr 0, .retAddr 0, .retAddr 0, .retAddr 0] [.int y0] M (some (.int q.1)) q.2 := by
  unfold f_X12_row_b101 at h
  obtain rfl := Option.some.inj h
  exact z_iret ⟨.int, rfl, rfl⟩ dX12_row_101
def f_X12_row_b77 (k38 : Nat → Int32 → Int32 → Int32 → zMe → Option (Int32 × zMe)) (x0 : Nat) (x1 : Int32) (x3 : Int32) (x4 : Int32) (y0 : Int32) (M : zMe) : Option (Int32 × zMe) :=
  zlet ((8 * x1) + x4 : Int32) fun v1 =>
  zlet (x3 + (-1)) fun v2 =>
  k38 x0 v1 y0 v2 M
set_option maxHeartbeats 4000000 in
set_option maxRecDepth 100000 in
theorem s_X12_row_b77 {g : zG} (hC : zC g) {k38 : Nat → Int32 → Int32 → Int32 → zMe → Option (Int32 × zMe)} (hk38 : ∀ (x0 : Nat) (x1 : Int32) (x2 : Int32) (x3 : Int32) (M : zMe) (q : (Int32 × zMe)), k38 x0 x1 x2 x3 M = some q → zW g mX12_row 38 [.ref x0, .int x1, .int x2, .int x3, .retAddr 0] [] M (some (.int q.1)) q.2) (x0 : Nat) (x1 : Int32) (x3 : Int32) (x4 : Int32) (y0 : Int32) (M : zMe) (q : (Int32 × zMe)) (h : f_X12_row_b77 k38 x0 x1 x3 x4 y0 M = some q) : zW g mX12_row 77 [.ref x0, .int x1, .retAddr 0, .int x3, .int x4] [.int y0] M (some (.int q.1)) q.2 := by
  unfold f_X12_row_b77 at h
  refine z_istore_n dX12_row_77 (by decide) ?_
  refine zeqL (L2 := [.ref x0, .int x1, .int y0, .int x3, .int x4]) rfl ?_
  refine z_bipush 8 (by decide) dX12_row_78 ?_
  refine z_iload_n (x := x1) rfl dX12_row_80 ?_
  refine z_imul dX12_row_81 ?_
  refine z_iload (x := x4) rfl dX12_row_82 ?_
  refine z_iadd dX12_row_84 ?_
  refine z_nameI (fun v1 hv => ?_)
  have h := zlet_use h hv
  clear hv
  refine z_istore_n dX12_row_85 (by decide) ?_
  refine zeqL (L2 := [.ref x0, .int v1, .int y0, .int x3, .int x4]) rfl ?_
  obtain ⟨v2, hv⟩ : ∃ z : Int32, z = x3 + (-1) := ⟨_, rfl⟩
  have h := zlet_use h hv
  refine z_iinc (v := v2) dX12_row_86 (x := x3) rfl (by rw [hv]; rfl) ?_
  clear hv
  refine zeqL (L2 := [.ref x0, .int v1, .int y0, .int v2, .int x4]) rfl ?_
  refine z_goto (tgt := 38) dX12_row_89 (by decide) ?_
  refine zweak [true, true, true, true, false] ?_
  exact hk38 _ _ _ _ _ _ h
def f_X12_row_b76 (k38 : Nat → Int32 → Int32 → Int32 → zMe → Option (Int32 × zMe)) (x0 : Nat) (x1 : Int32) (x3 : Int32) (x4 : Int32) (M : zMe) : Option (Int32 × zMe) :=
  f_X12_row_b77 k38 x0 x1 x3 x4 0 M
set_option maxHeartbeats 4000000 in
set_option maxRecDepth 100000 in
theorem s_X12_row_b76 {g : zG} (hC : zC g) {k38 : Nat → Int32 → Int32 → Int32 → zMe → Option (Int32 × zMe)} (hk38 : ∀ (x0 : Nat) (x1 : Int32) (x2 : Int32) (x3 : Int32) (M : zMe) (q : (Int32 × zMe)), k38 x0 x1 x2 x3 M = some q → zW g mX12_row 38 [.ref x0, .int x1, .int x2, .int x3, .retAddr 0] [] M (some (.int q.1)) q.2) (x0 : Nat) (x1 : Int32) (x3 : Int32) (x4 : Int32) (M : zMe) (q : (Int32 × zMe)) (h : f_X12_row_b76 k38 x0 x1 x3 x4 M = some q) : zW g mX12_row 76 [.ref x0, .int x1, .retAddr 0, .int x3, .int x4] [] M (some (.int q.1)) q.2 := by
  unfold f_X12_row_b76 at h
  refine z_iconst 0 (by decide) dX12_row_76 ?_
  exact s_X12_row_b77 hC hk38 _ _ _ _ _ _ _ h
def f_X12_row_b38  : Nat → Nat → Int32 → Int32 → Int32 → zMe → Option (Int32 × zMe)
  | 0, _, _, _, _, _ => none
  | n + 1, x0, x1, x2, x3, M =>
    if x3 < 0 then (
      if x2 = 0 then (
        f_X12_row_b101 (-1) M)
      else (
        f_X12_row_b101 x1 M))
    else (
      (zgI M x0 [12] 11).bind fun v1 =>
      (zob M x0 12).bind fun _ =>
      (f_X12_byteAt x0 (v1 + x3) M).bind fun q1 =>
      zlet (q1.1 - 97 : Int32) fun v2 =>
      if x2 = 0 then (
        f_X12_row_b76 (f_X12_row_b38 n) x0 x1 x3 v2 q1.2)
      else (
        (zgN q1.2 x0 [12] 1).bind fun a1 =>
        (zrI q1.2 a1 0).bind fun v3 =>
        if v3 ≤ v2 then (
          f_X12_row_b76 (f_X12_row_b38 n) x0 x1 x3 v2 q1.2)
        else (
          f_X12_row_b77 (f_X12_row_b38 n) x0 x1 x3 v2 1 q1.2)))
set_option maxHeartbeats 4000000 in
set_option maxRecDepth 100000 in
theorem s_X12_row_b38 {g : zG} (hC : zC g)  : ∀ (n : Nat) (x0 : Nat) (x1 : Int32) (x2 : Int32) (x3 : Int32) (M : zMe) (q : (Int32 × zMe)), f_X12_row_b38  n x0 x1 x2 x3 M = some q → zW g mX12_row 38 [.ref x0, .int x1, .int x2, .int x3, .retAddr 0] [] M (some (.int q.1)) q.2 := by
  intro n
  induction n with
  | zero => intro x0 x1 x2 x3 M q h; cases h
  | succ n ih =>
    intro x0 x1 x2 x3 M q h
    rw [f_X12_row_b38] at h
    refine z_iload_n (x := x3) rfl dX12_row_38 ?_
    refine z_if_lt (tgt := 92) dX12_row_39 (by decide) (fun c1 => ?_) (fun c1 => ?_)
    · have h := zift h c1
      refine z_iload_n (x := x2) rfl dX12_row_92 ?_
      refine z_if_eq (tgt := 100) dX12_row_93 (by decide) (fun c2 => ?_) (fun c2 => ?_)
      · have h := zift h c2
        refine z_iconst (-1) (by decide) dX12_row_100 ?_
        refine zweak [false, false, false, false, false] ?_
        exact s_X12_row_b101 hC _ _ _ h
      · have h := zife h c2
        refine z_iload_n (x := x1) rfl dX12_row_96 ?_
        refine z_goto (tgt := 101) dX12_row_97 (by decide) ?_
        refine zweak [false, false, false, false, false] ?_
        exact s_X12_row_b101 hC _ _ _ h
    · have h := zife h c1
      refine z_aload_n (x := x0) rfl dX12_row_42 ?_
      refine z_aload_n (x := x0) rfl dX12_row_43 ?_
      obtain ⟨v1, h1, h⟩ := zbind h
      refine z_gI hC fs_X12_89 h1 dX12_row_44 ?_
      refine z_iload_n (x := x3) rfl dX12_row_47 ?_
      refine z_iadd dX12_row_48 ?_
      obtain ⟨_, hb, h⟩ := zbind h
      obtain ⟨fs, hb⟩ := zob_some hb
      obtain ⟨q1, h2, h⟩ := zbind h
      refine z_callV (av := [.int (v1 + x3)]) (rest := []) hC zcl_12 hb (s_X12_byteAt hC h2) lk_X12_85 im_X12_byteAt se_X12_byteAt cd_X12_byteAt ⟨by decide, by decide, (Nat.le_of_ble_eq_true rfl)⟩ dX12_row_49 ?_
      clear hb fs
      refine zeqS (stk2 := [.int q1.1]) rfl ?_
      refine z_bipush 97 (by decide) dX12_row_52 ?_
      refine z_isub dX12_row_54 ?_
      refine z_nameI (fun v2 hv => ?_)
      have h := zlet_use h hv
      clear hv
      refine z_istore dX12_row_55 (by decide) ?_
      refine zeqL (L2 := [.ref x0, .int x1, .int x2, .int x3, .int v2]) rfl ?_
      refine z_iload_n (x := x2) rfl dX12_row_57 ?_
      refine z_if_eq (tgt := 76) dX12_row_58 (by decide) (fun c3 => ?_) (fun c3 => ?_)
      · have h := zift h c3
        refine zweak [true, true, false, true, true] ?_
        exact s_X12_row_b76 hC ih _ _ _ _ _ _ h
      · have h := zife h c3
        refine z_iload (x := v2) rfl dX12_row_61 ?_
        refine z_aload_n (x := x0) rfl dX12_row_63 ?_
        obtain ⟨a1, h3, h⟩ := zbind h
        refine z_gN hC fs_X12_13 h3 dX12_row_64 ?_
        refine z_iconst 0 (by decide) dX12_row_67 ?_
        obtain ⟨v3, h4, h⟩ := zbind h
        refine z_rI h4 dX12_row_68 ?_
        refine z_icmp_ge (tgt := 76) dX12_row_69 (by decide) (fun c4 => ?_) (fun c4 => ?_)
        · have h := zift h c4
          refine zweak [true, true, false, true, true] ?_
          exact s_X12_row_b76 hC ih _ _ _ _ _ _ h
        · have h := zife h c4
          refine z_iconst 1 (by decide) dX12_row_72 ?_
          refine z_goto (tgt := 77) dX12_row_73 (by decide) ?_
          refine zweak [true, true, false, true, true] ?_
          exact s_X12_row_b77 hC ih _ _ _ _ _ _ _ h
def f_X12_row_b25   (M : zMe) : Option (Int32 × zMe) :=
  some ((-1), M)
set_option maxHeartbeats 4000000 in
set_option maxRecDepth 100000 in
theorem s_X12_row_b25 {g : zG} (hC : zC g)   (M : zMe) (q : (Int32 × zMe)) (h : f_X12_row_b25   M = some q) : zW g mX12_row 25 [.retAddr 0, .retAddr 0, .retAddr 0, .retAddr 0, .retAddr 0] [] M (some (.int q.1)) q.2 := by
  unfold f_X12_row_b25 at h
  refine z_iconst (-1) (by decide) dX12_row_25 ?_
  obtain rfl := Option.some.inj h
  exact z_iret ⟨.int, rfl, rfl⟩ dX12_row_26
def f_X12_row (x0 : Nat) (M : zMe) : Option (Int32 × zMe) :=
  (zob M x0 12).bind fun _ =>
  (f_X12_token x0 M).bind fun q1 =>
  (zgI q1 x0 [12] 10).bind fun v1 =>
  if v1 = 1 then (
    (zgI q1 x0 [12] 12).bind fun v2 =>
    (zgN q1 x0 [12] 1).bind fun a1 =>
    (zrI q1 a1 0).bind fun v3 =>
    if v2 = v3 then (
      (zgI q1 x0 [12] 12).bind fun v4 =>
      zlet (v4 - 1 : Int32) fun v5 =>
      f_X12_row_b38 zfu x0 0 1 v5 q1)
    else (
      f_X12_row_b25 q1))
  else (
    f_X12_row_b25 q1)
set_option maxHeartbeats 4000000 in
set_option maxRecDepth 100000 in
theorem s_X12_row {g : zG} (hC : zC g) {x0 : Nat} {M : zMe} {q : (Int32 × zMe)} (h : f_X12_row x0 M = some q) : zMet g yX12_row mX12_row [.ref x0] M (some (.int q.1)) q.2 := by
  refine z_entry (by decide +kernel) rfl rfl (Nat.le_of_ble_eq_true rfl) ?_
  refine zeqL (L2 := [.ref x0, .retAddr 0, .retAddr 0, .retAddr 0, .retAddr 0]) rfl ?_
  unfold f_X12_row at h
  refine z_aload_n (x := x0) rfl dX12_row_0 ?_
  obtain ⟨_, hb, h⟩ := zbind h
  obtain ⟨fs, hb⟩ := zob_some hb
  obtain ⟨q1, h1, h⟩ := zbind h
  refine z_callV (av := []) (rest := []) hC zcl_12 hb (s_X12_token hC h1) lk_X12_115 im_X12_token se_X12_token cd_X12_token ⟨by decide, by decide, (Nat.le_of_ble_eq_true rfl)⟩ dX12_row_1 ?_
  clear hb fs
  refine zeqS (stk2 := []) rfl ?_
  refine z_aload_n (x := x0) rfl dX12_row_4 ?_
  obtain ⟨v1, h2, h⟩ := zbind h
  refine z_gI hC fs_X12_95 h2 dX12_row_5 ?_
  refine z_iconst 1 (by decide) dX12_row_8 ?_
  refine z_icmp_ne (tgt := 25) dX12_row_9 (by decide) (fun c1 => ?_) (fun c1 => ?_)
  · have h := zife h c1
    refine zweak [false, false, false, false, false] ?_
    exact s_X12_row_b25 hC _ _ h
  · have h := zift h c1
    refine z_aload_n (x := x0) rfl dX12_row_12 ?_
    obtain ⟨v2, h3, h⟩ := zbind h
    refine z_gI hC fs_X12_98 h3 dX12_row_13 ?_
    refine z_aload_n (x := x0) rfl dX12_row_16 ?_
    obtain ⟨a1, h4, h⟩ := zbind h
    refine z_gN hC fs_X12_13 h4 dX12_row_17 ?_
    refine z_iconst 0 (by decide) dX12_row_20 ?_
    obtain ⟨v3, h5, h⟩ := zbind h
    refine z_rI h5 dX12_row_21 ?_
    refine z_icmp_eq (tgt := 27) dX12_row_22 (by decide) (fun c2 => ?_) (fun c2 => ?_)
    · have h := zift h c2
      refine z_iconst 0 (by decide) dX12_row_27 ?_
      refine z_istore_n dX12_row_28 (by decide) ?_
      refine zeqL (L2 := [.ref x0, .int 0, .retAddr 0, .retAddr 0, .retAddr 0]) rfl ?_
      refine z_iconst 1 (by decide) dX12_row_29 ?_
      refine z_istore_n dX12_row_30 (by decide) ?_
      refine zeqL (L2 := [.ref x0, .int 0, .int 1, .retAddr 0, .retAddr 0]) rfl ?_
      refine z_aload_n (x := x0) rfl dX12_row_31 ?_
      obtain ⟨v4, h6, h⟩ := zbind h
      refine z_gI hC fs_X12_98 h6 dX12_row_32 ?_
      refine z_iconst 1 (by decide) dX12_row_35 ?_
      refine z_isub dX12_row_36 ?_
      refine z_nameI (fun v5 hv => ?_)
      have h := zlet_use h hv
      clear hv
      refine z_istore_n dX12_row_37 (by decide) ?_
      refine zeqL (L2 := [.ref x0, .int 0, .int 1, .int v5, .retAddr 0]) rfl ?_
      exact s_X12_row_b38 hC _ _ _ _ _ _ _ h
    · have h := zife h c2
      refine zweak [false, false, false, false, false] ?_
      exact s_X12_row_b25 hC _ _ h
def f_X12_readsDog_b142  (x0 : Nat) (M : zMe) : Option (Int32 × zMe) :=
  (zgN M x0 [12] 1).bind fun a1 =>
  (zrI M a1 6).bind fun v1 =>
  (zwI M a1 6 (v1 + 1)).bind fun M1 =>
  some (1, M1)
set_option maxHeartbeats 4000000 in
set_option maxRecDepth 100000 in
theorem s_X12_readsDog_b142 {g : zG} (hC : zC g)  (x0 : Nat) (M : zMe) (q : (Int32 × zMe)) (h : f_X12_readsDog_b142  x0 M = some q) : zW g mX12_readsDog 142 [.ref x0, .retAddr 0, .retAddr 0, .retAddr 0, .retAddr 0, .retAddr 0] [] M (some (.int q.1)) q.2 := by
  unfold f_X12_readsDog_b142 at h
  refine z_aload_n (x := x0) rfl dX12_readsDog_142 ?_
  obtain ⟨a1, h1, h⟩ := zbind h
  refine z_gN hC fs_X12_13 h1 dX12_readsDog_143 ?_
  refine z_bipush 6 (by decide) dX12_readsDog_146 ?_
  refine z_dup2 rfl rfl dX12_readsDog_148 ?_
  obtain ⟨v1, h2, h⟩ := zbind h
  refine z_rI h2 dX12_readsDog_149 ?_
  refine z_iconst 1 (by decide) dX12_readsDog_150 ?_
  refine z_iadd dX12_readsDog_151 ?_
  obtain ⟨M1, h3, h⟩ := zbind h
  refine z_wI h3 dX12_readsDog_152 ?_
  refine z_iconst 1 (by decide) dX12_readsDog_153 ?_
  obtain rfl := Option.some.inj h
  exact z_iret ⟨.boolean, rfl, rfl⟩ dX12_readsDog_154
def f_X12_readsDog_b78 (k67 : Nat → Int32 → Int32 → Int32 → zMe → Option (Int32 × zMe)) (x0 : Nat) (x2 : Int32) (x3 : Int32) (x4 : Int32) (y0 : Int32) (y1 : Int32) (M : zMe) : Option (Int32 × zMe) :=
  if y0 ≤ y1 then (
    if x3 = 0 then (
      f_X12_readsDog_b142 x0 M)
    else (
      (zob M x0 12).bind fun _ =>
      (f_X12_figure x0 1 3 M).bind fun q1 =>
      if q1.1 = (-1) then (
        some (0, q1.2))
      else (
        (zgN q1.2 x0 [12] 1).bind fun a1 =>
        (zwI q1.2 a1 (x2 + 5) q1.1).bind fun M1 =>
        f_X12_readsDog_b142 x0 M1)))
  else (
    (zob M x0 12).bind fun _ =>
    (f_X12_row x0 M).bind fun q2 =>
    if q2.1 = (-1) then (
      some (0, q2.2))
    else (
      (zgN q2.2 x0 [12] 1).bind fun a2 =>
      (zwI q2.2 a2 (x2 + x4) q2.1).bind fun M2 =>
      zlet (x4 + 1) fun v1 =>
      k67 x0 x2 x3 v1 M2))
set_option maxHeartbeats 4000000 in
set_option maxRecDepth 100000 in
theorem s_X12_readsDog_b78 {g : zG} (hC : zC g) {k67 : Nat → Int32 → Int32 → Int32 → zMe → Option (Int32 × zMe)} (hk67 : ∀ (x0 : Nat) (x2 : Int32) (x3 : Int32) (x4 : Int32) (M : zMe) (q : (Int32 × zMe)), k67 x0 x2 x3 x4 M = some q → zW g mX12_readsDog 67 [.ref x0, .retAddr 0, .int x2, .int x3, .int x4, .retAddr 0] [] M (some (.int q.1)) q.2) (x0 : Nat) (x2 : Int32) (x3 : Int32) (x4 : Int32) (y0 : Int32) (y1 : Int32) (M : zMe) (q : (Int32 × zMe)) (h : f_X12_readsDog_b78 k67 x0 x2 x3 x4 y0 y1 M = some q) : zW g mX12_readsDog 78 [.ref x0, .retAddr 0, .int x2, .int x3, .int x4, .retAddr 0] [.int y0, .int y1] M (some (.int q.1)) q.2 := by
  unfold f_X12_readsDog_b78 at h
  refine z_icmp_ge (tgt := 112) dX12_readsDog_78 (by decide) (fun c1 => ?_) (fun c1 => ?_)
  · have h := zift h c1
    refine z_iload_n (x := x3) rfl dX12_readsDog_112 ?_
    refine z_if_eq (tgt := 142) dX12_readsDog_113 (by decide) (fun c2 => ?_) (fun c2 => ?_)
    · have h := zift h c2
      refine zweak [true, false, false, false, false, false] ?_
      exact s_X12_readsDog_b142 hC _ _ _ h
    · have h := zife h c2
      refine z_aload_n (x := x0) rfl dX12_readsDog_116 ?_
      refine z_iconst 1 (by decide) dX12_readsDog_117 ?_
      refine z_iconst 3 (by decide) dX12_readsDog_118 ?_
      obtain ⟨_, hb, h⟩ := zbind h
      obtain ⟨fs, hb⟩ := zob_some hb
      obtain ⟨q1, h1, h⟩ := zbind h
      refine z_callV (av := [.int 1, .int 3]) (rest := []) hC zcl_12 hb (s_X12_figure hC h1) lk_X12_118 im_X12_figure se_X12_figure cd_X12_figure ⟨by decide, by decide, (Nat.le_of_ble_eq_true rfl)⟩ dX12_readsDog_119 ?_
      clear hb fs
      refine zeqS (stk2 := [.int q1.1]) rfl ?_
      refine z_istore dX12_readsDog_122 (by decide) ?_
      refine zeqL (L2 := [.ref x0, .retAddr 0, .int x2, .int x3, .int q1.1, .retAddr 0]) rfl ?_
      refine z_iload (x := q1.1) rfl dX12_readsDog_124 ?_
      refine z_iconst (-1) (by decide) dX12_readsDog_126 ?_
      refine z_icmp_ne (tgt := 132) dX12_readsDog_127 (by decide) (fun c3 => ?_) (fun c3 => ?_)
      · have h := zife h c3
        refine z_aload_n (x := x0) rfl dX12_readsDog_132 ?_
        obtain ⟨a1, h2, h⟩ := zbind h
        refine z_gN hC fs_X12_13 h2 dX12_readsDog_133 ?_
        refine z_iload_n (x := x2) rfl dX12_readsDog_136 ?_
        refine z_iconst 5 (by decide) dX12_readsDog_137 ?_
        refine z_iadd dX12_readsDog_138 ?_
        refine z_iload (x := q1.1) rfl dX12_readsDog_139 ?_
        obtain ⟨M1, h3, h⟩ := zbind h
        refine z_wI h3 dX12_readsDog_141 ?_
        refine zweak [true, false, false, false, false, false] ?_
        exact s_X12_readsDog_b142 hC _ _ _ h
      · have h := zift h c3
        refine z_iconst 0 (by decide) dX12_readsDog_130 ?_
        obtain rfl := Option.some.inj h
        exact z_iret ⟨.boolean, rfl, rfl⟩ dX12_readsDog_131
  · have h := zife h c1
    refine z_aload_n (x := x0) rfl dX12_readsDog_81 ?_
    obtain ⟨_, hb, h⟩ := zbind h
    obtain ⟨fs, hb⟩ := zob_some hb
    obtain ⟨q2, h4, h⟩ := zbind h
    refine z_callV (av := []) (rest := []) hC zcl_12 hb (s_X12_row hC h4) lk_X12_121 im_X12_row se_X12_row cd_X12_row ⟨by decide, by decide, (Nat.le_of_ble_eq_true rfl)⟩ dX12_readsDog_82 ?_
    clear hb fs
    refine zeqS (stk2 := [.int q2.1]) rfl ?_
    refine z_istore dX12_readsDog_85 (by decide) ?_
    refine zeqL (L2 := [.ref x0, .retAddr 0, .int x2, .int x3, .int x4, .int q2.1]) rfl ?_
    refine z_iload (x := q2.1) rfl dX12_readsDog_87 ?_
    refine z_iconst (-1) (by decide) dX12_readsDog_89 ?_
    refine z_icmp_ne (tgt := 95) dX12_readsDog_90 (by decide) (fun c4 => ?_) (fun c4 => ?_)
    · have h := zife h c4
      refine z_aload_n (x := x0) rfl dX12_readsDog_95 ?_
      obtain ⟨a2, h5, h⟩ := zbind h
      refine z_gN hC fs_X12_13 h5 dX12_readsDog_96 ?_
      refine z_iload_n (x := x2) rfl dX12_readsDog_99 ?_
      refine z_iload (x := x4) rfl dX12_readsDog_100 ?_
      refine z_iadd dX12_readsDog_102 ?_
      refine z_iload (x := q2.1) rfl dX12_readsDog_103 ?_
      obtain ⟨M2, h6, h⟩ := zbind h
      refine z_wI h6 dX12_readsDog_105 ?_
      obtain ⟨v1, hv⟩ : ∃ z : Int32, z = x4 + 1 := ⟨_, rfl⟩
      have h := zlet_use h hv
      refine z_iinc (v := v1) dX12_readsDog_106 (x := x4) rfl (by rw [hv]; rfl) ?_
      clear hv
      refine zeqL (L2 := [.ref x0, .retAddr 0, .int x2, .int x3, .int v1, .int q2.1]) rfl ?_
      refine z_goto (tgt := 67) dX12_readsDog_109 (by decide) ?_
      refine zweak [true, false, true, true, true, false] ?_
      exact hk67 _ _ _ _ _ _ h
    · have h := zift h c4
      refine z_iconst 0 (by decide) dX12_readsDog_93 ?_
      obtain rfl := Option.some.inj h
      exact z_iret ⟨.boolean, rfl, rfl⟩ dX12_readsDog_94
def f_X12_readsDog_b67  : Nat → Nat → Int32 → Int32 → Int32 → zMe → Option (Int32 × zMe)
  | 0, _, _, _, _, _ => none
  | n + 1, x0, x2, x3, x4, M =>
    if x3 = 0 then (
      f_X12_readsDog_b78 (f_X12_readsDog_b67 n) x0 x2 x3 x4 3 x4 M)
    else (
      f_X12_readsDog_b78 (f_X12_readsDog_b67 n) x0 x2 x3 x4 5 x4 M)
set_option maxHeartbeats 4000000 in
set_option maxRecDepth 100000 in
theorem s_X12_readsDog_b67 {g : zG} (hC : zC g)  : ∀ (n : Nat) (x0 : Nat) (x2 : Int32) (x3 : Int32) (x4 : Int32) (M : zMe) (q : (Int32 × zMe)), f_X12_readsDog_b67  n x0 x2 x3 x4 M = some q → zW g mX12_readsDog 67 [.ref x0, .retAddr 0, .int x2, .int x3, .int x4, .retAddr 0] [] M (some (.int q.1)) q.2 := by
  intro n
  induction n with
  | zero => intro x0 x2 x3 x4 M q h; cases h
  | succ n ih =>
    intro x0 x2 x3 x4 M q h
    rw [f_X12_readsDog_b67] at h
    refine z_iload (x := x4) rfl dX12_readsDog_67 ?_
    refine z_iload_n (x := x3) rfl dX12_readsDog_69 ?_
    refine z_if_eq (tgt := 77) dX12_readsDog_70 (by decide) (fun c1 => ?_) (fun c1 => ?_)
    · have h := zift h c1
      refine z_iconst 3 (by decide) dX12_readsDog_77 ?_
      exact s_X12_readsDog_b78 hC ih _ _ _ _ _ _ _ _ h
    · have h := zife h c1
      refine z_iconst 5 (by decide) dX12_readsDog_73 ?_
      refine z_goto (tgt := 78) dX12_readsDog_74 (by decide) ?_
      exact s_X12_readsDog_b78 hC ih _ _ _ _ _ _ _ _ h
def f_X12_readsDog_b56  (x0 : Nat) (x1 : Int32) (x2 : Int32) (y0 : Int32) (M : zMe) : Option (Int32 × zMe) :=
  (zgN M x0 [12] 1).bind fun a1 =>
  (zwI M a1 x2 x1).bind fun M1 =>
  f_X12_readsDog_b67 zfu x0 x2 y0 1 M1
set_option maxHeartbeats 4000000 in
set_option maxRecDepth 100000 in
theorem s_X12_readsDog_b56 {g : zG} (hC : zC g)  (x0 : Nat) (x1 : Int32) (x2 : Int32) (y0 : Int32) (M : zMe) (q : (Int32 × zMe)) (h : f_X12_readsDog_b56  x0 x1 x2 y0 M = some q) : zW g mX12_readsDog 56 [.ref x0, .int x1, .int x2, .retAddr 0, .retAddr 0, .retAddr 0] [.int y0] M (some (.int q.1)) q.2 := by
  unfold f_X12_readsDog_b56 at h
  refine z_istore_n dX12_readsDog_56 (by decide) ?_
  refine zeqL (L2 := [.ref x0, .int x1, .int x2, .int y0, .retAddr 0, .retAddr 0]) rfl ?_
  refine z_aload_n (x := x0) rfl dX12_readsDog_57 ?_
  obtain ⟨a1, h1, h⟩ := zbind h
  refine z_gN hC fs_X12_13 h1 dX12_readsDog_58 ?_
  refine z_iload_n (x := x2) rfl dX12_readsDog_61 ?_
  refine z_iload_n (x := x1) rfl dX12_readsDog_62 ?_
  obtain ⟨M1, h2, h⟩ := zbind h
  refine z_wI h2 dX12_readsDog_63 ?_
  refine z_iconst 1 (by decide) dX12_readsDog_64 ?_
  refine z_istore dX12_readsDog_65 (by decide) ?_
  refine zeqL (L2 := [.ref x0, .int x1, .int x2, .int y0, .int 1, .retAddr 0]) rfl ?_
  refine zweak [true, false, true, true, true, false] ?_
  exact s_X12_readsDog_b67 hC _ _ _ _ _ _ _ h
def f_X12_readsDog_b51  (x0 : Nat) (x1 : Int32) (x2 : Int32) (M : zMe) : Option (Int32 × zMe) :=
  f_X12_readsDog_b56 x0 x1 x2 1 M
set_option maxHeartbeats 4000000 in
set_option maxRecDepth 100000 in
theorem s_X12_readsDog_b51 {g : zG} (hC : zC g)  (x0 : Nat) (x1 : Int32) (x2 : Int32) (M : zMe) (q : (Int32 × zMe)) (h : f_X12_readsDog_b51  x0 x1 x2 M = some q) : zW g mX12_readsDog 51 [.ref x0, .int x1, .int x2, .retAddr 0, .retAddr 0, .retAddr 0] [] M (some (.int q.1)) q.2 := by
  unfold f_X12_readsDog_b51 at h
  refine z_iconst 1 (by decide) dX12_readsDog_51 ?_
  refine z_goto (tgt := 56) dX12_readsDog_52 (by decide) ?_
  exact s_X12_readsDog_b56 hC _ _ _ _ _ _ h
def f_X12_readsDog (x0 : Nat) (M : zMe) : Option (Int32 × zMe) :=
  (zgN M x0 [12] 1).bind fun a1 =>
  (zrI M a1 6).bind fun v1 =>
  if v1 = 3 then (
    some (0, M))
  else (
    (zob M x0 12).bind fun _ =>
    (f_X12_figure x0 0 4 M).bind fun q1 =>
    if q1.1 = (-1) then (
      some (0, q1.2))
    else (
      (zgN q1.2 x0 [12] 1).bind fun a2 =>
      (zrI q1.2 a2 6).bind fun v2 =>
      zlet (7 + (6 * v2) : Int32) fun v3 =>
      if q1.1 = 2 then (
        f_X12_readsDog_b51 x0 q1.1 v3 q1.2)
      else (
        if q1.1 = 3 then (
          f_X12_readsDog_b51 x0 q1.1 v3 q1.2)
        else (
          f_X12_readsDog_b56 x0 q1.1 v3 0 q1.2))))
set_option maxHeartbeats 4000000 in
set_option maxRecDepth 100000 in
theorem s_X12_readsDog {g : zG} (hC : zC g) {x0 : Nat} {M : zMe} {q : (Int32 × zMe)} (h : f_X12_readsDog x0 M = some q) : zMet g yX12_readsDog mX12_readsDog [.ref x0] M (some (.int q.1)) q.2 := by
  refine z_entry (by decide +kernel) rfl rfl (Nat.le_of_ble_eq_true rfl) ?_
  refine zeqL (L2 := [.ref x0, .retAddr 0, .retAddr 0, .retAddr 0, .retAddr 0, .retAddr 0]) rfl ?_
  unfold f_X12_readsDog at h
  refine z_aload_n (x := x0) rfl dX12_readsDog_0 ?_
  obtain ⟨a1, h1, h⟩ := zbind h
  refine z_gN hC fs_X12_13 h1 dX12_readsDog_1 ?_
  refine z_bipush 6 (by decide) dX12_readsDog_4 ?_
  obtain ⟨v1, h2, h⟩ := zbind h
  refine z_rI h2 dX12_readsDog_6 ?_
  refine z_iconst 3 (by decide) dX12_readsDog_7 ?_
  refine z_icmp_ne (tgt := 13) dX12_readsDog_8 (by decide) (fun c1 => ?_) (fun c1 => ?_)
  · have h := zife h c1
    refine z_aload_n (x := x0) rfl dX12_readsDog_13 ?_
    refine z_iconst 0 (by decide) dX12_readsDog_14 ?_
    refine z_iconst 4 (by decide) dX12_readsDog_15 ?_
    obtain ⟨_, hb, h⟩ := zbind h
    obtain ⟨fs, hb⟩ := zob_some hb
    obtain ⟨q1, h3, h⟩ := zbind h
    refine z_callV (av := [.int 0, .int 4]) (rest := []) hC zcl_12 hb (s_X12_figure hC h3) lk_X12_118 im_X12_figure se_X12_figure cd_X12_figure ⟨by decide, by decide, (Nat.le_of_ble_eq_true rfl)⟩ dX12_readsDog_16 ?_
    clear hb fs
    refine zeqS (stk2 := [.int q1.1]) rfl ?_
    refine z_istore_n dX12_readsDog_19 (by decide) ?_
    refine zeqL (L2 := [.ref x0, .int q1.1, .retAddr 0, .retAddr 0, .retAddr 0, .retAddr 0]) rfl ?_
    refine z_iload_n (x := q1.1) rfl dX12_readsDog_20 ?_
    refine z_iconst (-1) (by decide) dX12_readsDog_21 ?_
    refine z_icmp_ne (tgt := 27) dX12_readsDog_22 (by decide) (fun c2 => ?_) (fun c2 => ?_)
    · have h := zife h c2
      refine z_bipush 7 (by decide) dX12_readsDog_27 ?_
      refine z_bipush 6 (by decide) dX12_readsDog_29 ?_
      refine z_aload_n (x := x0) rfl dX12_readsDog_31 ?_
      obtain ⟨a2, h4, h⟩ := zbind h
      refine z_gN hC fs_X12_13 h4 dX12_readsDog_32 ?_
      refine z_bipush 6 (by decide) dX12_readsDog_35 ?_
      obtain ⟨v2, h5, h⟩ := zbind h
      refine z_rI h5 dX12_readsDog_37 ?_
      refine z_imul dX12_readsDog_38 ?_
      refine z_iadd dX12_readsDog_39 ?_
      refine z_nameI (fun v3 hv => ?_)
      have h := zlet_use h hv
      clear hv
      refine z_istore_n dX12_readsDog_40 (by decide) ?_
      refine zeqL (L2 := [.ref x0, .int q1.1, .int v3, .retAddr 0, .retAddr 0, .retAddr 0]) rfl ?_
      refine z_iload_n (x := q1.1) rfl dX12_readsDog_41 ?_
      refine z_iconst 2 (by decide) dX12_readsDog_42 ?_
      refine z_icmp_eq (tgt := 51) dX12_readsDog_43 (by decide) (fun c3 => ?_) (fun c3 => ?_)
      · have h := zift h c3
        exact s_X12_readsDog_b51 hC _ _ _ _ _ h
      · have h := zife h c3
        refine z_iload_n (x := q1.1) rfl dX12_readsDog_46 ?_
        refine z_iconst 3 (by decide) dX12_readsDog_47 ?_
        refine z_icmp_ne (tgt := 55) dX12_readsDog_48 (by decide) (fun c4 => ?_) (fun c4 => ?_)
        · have h := zife h c4
          refine z_iconst 0 (by decide) dX12_readsDog_55 ?_
          exact s_X12_readsDog_b56 hC _ _ _ _ _ _ h
        · have h := zift h c4
          exact s_X12_readsDog_b51 hC _ _ _ _ _ h
    · have h := zift h c2
      refine z_iconst 0 (by decide) dX12_readsDog_25 ?_
      obtain rfl := Option.some.inj h
      exact z_iret ⟨.boolean, rfl, rfl⟩ dX12_readsDog_26
  · have h := zift h c1
    refine z_iconst 0 (by decide) dX12_readsDog_11 ?_
    obtain rfl := Option.some.inj h
    exact z_iret ⟨.boolean, rfl, rfl⟩ dX12_readsDog_12
def f_X12_readsItem_b151   (M : zMe) : Option (Int32 × zMe) :=
  some (1, M)
set_option maxHeartbeats 4000000 in
set_option maxRecDepth 100000 in
theorem s_X12_readsItem_b151 {g : zG} (hC : zC g)   (M : zMe) (q : (Int32 × zMe)) (h : f_X12_readsItem_b151   M = some q) : zW g mX12_readsItem 151 [.retAddr 0, .retAddr 0, .retAddr 0, .retAddr 0] [] M (some (.int q.1)) q.2 := by
  unfold f_X12_readsItem_b151 at h
  refine z_iconst 1 (by decide) dX12_readsItem_151 ?_
  obtain rfl := Option.some.inj h
  exact z_iret ⟨.boolean, rfl, rfl⟩ dX12_readsItem_152
def f_X12_readsItem_b50  (x0 : Nat) (x1 : Int32) (y0 : Int32) (M : zMe) : Option (Int32 × zMe) :=
  if y0 = (-1) then (
    some (0, M))
  else (
    if x1 = 0 then (
      (zgN M x0 [12] 1).bind fun a1 =>
      (zwI M a1 0 y0).bind fun M1 =>
      f_X12_readsItem_b151 M1)
    else (
      if x1 = 1 then (
        (zgN M x0 [12] 1).bind fun a2 =>
        (zrI M a2 1).bind fun v1 =>
        (zwI M a2 1 (v1 ||| ((1 : Int32) <<< (y0 &&& 31)))).bind fun M2 =>
        f_X12_readsItem_b151 M2)
      else (
        if x1 = 2 then (
          (zgN M x0 [12] 1).bind fun a3 =>
          (zwI M a3 2 y0).bind fun M3 =>
          f_X12_readsItem_b151 M3)
        else (
          if x1 = 3 then (
            (zgN M x0 [12] 1).bind fun a4 =>
            (zrI M a4 3).bind fun v2 =>
            (zwI M a4 3 (v2 ||| ((1 : Int32) <<< (y0 &&& 31)))).bind fun M4 =>
            f_X12_readsItem_b151 M4)
          else (
            (zob M x0 12).bind fun _ =>
            (f_X12_figure x0 1 9 M).bind fun q1 =>
            if q1.1 = (-1) then (
              some (0, q1.2))
            else (
              (zgN q1.2 x0 [12] 1).bind fun a5 =>
              (zwI q1.2 a5 (4 + y0) q1.1).bind fun M5 =>
              f_X12_readsItem_b151 M5))))))
set_option maxHeartbeats 4000000 in
set_option maxRecDepth 100000 in
theorem s_X12_readsItem_b50 {g : zG} (hC : zC g)  (x0 : Nat) (x1 : Int32) (y0 : Int32) (M : zMe) (q : (Int32 × zMe)) (h : f_X12_readsItem_b50  x0 x1 y0 M = some q) : zW g mX12_readsItem 50 [.ref x0, .int x1, .retAddr 0, .retAddr 0] [.int y0] M (some (.int q.1)) q.2 := by
  unfold f_X12_readsItem_b50 at h
  refine z_istore_n dX12_readsItem_50 (by decide) ?_
  refine zeqL (L2 := [.ref x0, .int x1, .int y0, .retAddr 0]) rfl ?_
  refine z_iload_n (x := y0) rfl dX12_readsItem_51 ?_
  refine z_iconst (-1) (by decide) dX12_readsItem_52 ?_
  refine z_icmp_ne (tgt := 58) dX12_readsItem_53 (by decide) (fun c1 => ?_) (fun c1 => ?_)
  · have h := zife h c1
    refine z_iload_n (x := x1) rfl dX12_readsItem_58 ?_
    refine z_if_ne (tgt := 72) dX12_readsItem_59 (by decide) (fun c2 => ?_) (fun c2 => ?_)
    · have h := zife h c2
      refine z_iload_n (x := x1) rfl dX12_readsItem_72 ?_
      refine z_iconst 1 (by decide) dX12_readsItem_73 ?_
      refine z_icmp_ne (tgt := 92) dX12_readsItem_74 (by decide) (fun c3 => ?_) (fun c3 => ?_)
      · have h := zife h c3
        refine z_iload_n (x := x1) rfl dX12_readsItem_92 ?_
        refine z_iconst 2 (by decide) dX12_readsItem_93 ?_
        refine z_icmp_ne (tgt := 107) dX12_readsItem_94 (by decide) (fun c4 => ?_) (fun c4 => ?_)
        · have h := zife h c4
          refine z_iload_n (x := x1) rfl dX12_readsItem_107 ?_
          refine z_iconst 3 (by decide) dX12_readsItem_108 ?_
          refine z_icmp_ne (tgt := 127) dX12_readsItem_109 (by decide) (fun c5 => ?_) (fun c5 => ?_)
          · have h := zife h c5
            refine z_aload_n (x := x0) rfl dX12_readsItem_127 ?_
            refine z_iconst 1 (by decide) dX12_readsItem_128 ?_
            refine z_bipush 9 (by decide) dX12_readsItem_129 ?_
            obtain ⟨_, hb, h⟩ := zbind h
            obtain ⟨fs, hb⟩ := zob_some hb
            obtain ⟨q1, h11, h⟩ := zbind h
            refine z_callV (av := [.int 1, .int 9]) (rest := []) hC zcl_12 hb (s_X12_figure hC h11) lk_X12_118 im_X12_figure se_X12_figure cd_X12_figure ⟨by decide, by decide, (Nat.le_of_ble_eq_true rfl)⟩ dX12_readsItem_131 ?_
            clear hb fs
            refine zeqS (stk2 := [.int q1.1]) rfl ?_
            refine z_istore_n dX12_readsItem_134 (by decide) ?_
            refine zeqL (L2 := [.ref x0, .int x1, .int y0, .int q1.1]) rfl ?_
            refine z_iload_n (x := q1.1) rfl dX12_readsItem_135 ?_
            refine z_iconst (-1) (by decide) dX12_readsItem_136 ?_
            refine z_icmp_ne (tgt := 142) dX12_readsItem_137 (by decide) (fun c6 => ?_) (fun c6 => ?_)
            · have h := zife h c6
              refine z_aload_n (x := x0) rfl dX12_readsItem_142 ?_
              obtain ⟨a5, h12, h⟩ := zbind h
              refine z_gN hC fs_X12_13 h12 dX12_readsItem_143 ?_
              refine z_iconst 4 (by decide) dX12_readsItem_146 ?_
              refine z_iload_n (x := y0) rfl dX12_readsItem_147 ?_
              refine z_iadd dX12_readsItem_148 ?_
              refine z_iload_n (x := q1.1) rfl dX12_readsItem_149 ?_
              obtain ⟨M5, h13, h⟩ := zbind h
              refine z_wI h13 dX12_readsItem_150 ?_
              refine zweak [false, false, false, false] ?_
              exact s_X12_readsItem_b151 hC _ _ h
            · have h := zift h c6
              refine z_iconst 0 (by decide) dX12_readsItem_140 ?_
              obtain rfl := Option.some.inj h
              exact z_iret ⟨.boolean, rfl, rfl⟩ dX12_readsItem_141
          · have h := zift h c5
            refine z_aload_n (x := x0) rfl dX12_readsItem_112 ?_
            obtain ⟨a4, h8, h⟩ := zbind h
            refine z_gN hC fs_X12_13 h8 dX12_readsItem_113 ?_
            refine z_iconst 3 (by decide) dX12_readsItem_116 ?_
            refine z_dup2 rfl rfl dX12_readsItem_117 ?_
            obtain ⟨v2, h9, h⟩ := zbind h
            refine z_rI h9 dX12_readsItem_118 ?_
            refine z_iconst 1 (by decide) dX12_readsItem_119 ?_
            refine z_iload_n (x := y0) rfl dX12_readsItem_120 ?_
            refine z_ishl dX12_readsItem_121 ?_
            refine z_ior dX12_readsItem_122 ?_
            obtain ⟨M4, h10, h⟩ := zbind h
            refine z_wI h10 dX12_readsItem_123 ?_
            refine z_goto (tgt := 151) dX12_readsItem_124 (by decide) ?_
            refine zweak [false, false, false, false] ?_
            exact s_X12_readsItem_b151 hC _ _ h
        · have h := zift h c4
          refine z_aload_n (x := x0) rfl dX12_readsItem_97 ?_
          obtain ⟨a3, h6, h⟩ := zbind h
          refine z_gN hC fs_X12_13 h6 dX12_readsItem_98 ?_
          refine z_iconst 2 (by decide) dX12_readsItem_101 ?_
          refine z_iload_n (x := y0) rfl dX12_readsItem_102 ?_
          obtain ⟨M3, h7, h⟩ := zbind h
          refine z_wI h7 dX12_readsItem_103 ?_
          refine z_goto (tgt := 151) dX12_readsItem_104 (by decide) ?_
          refine zweak [false, false, false, false] ?_
          exact s_X12_readsItem_b151 hC _ _ h
      · have h := zift h c3
        refine z_aload_n (x := x0) rfl dX12_readsItem_77 ?_
        obtain ⟨a2, h3, h⟩ := zbind h
        refine z_gN hC fs_X12_13 h3 dX12_readsItem_78 ?_
        refine z_iconst 1 (by decide) dX12_readsItem_81 ?_
        refine z_dup2 rfl rfl dX12_readsItem_82 ?_
        obtain ⟨v1, h4, h⟩ := zbind h
        refine z_rI h4 dX12_readsItem_83 ?_
        refine z_iconst 1 (by decide) dX12_readsItem_84 ?_
        refine z_iload_n (x := y0) rfl dX12_readsItem_85 ?_
        refine z_ishl dX12_readsItem_86 ?_
        refine z_ior dX12_readsItem_87 ?_
        obtain ⟨M2, h5, h⟩ := zbind h
        refine z_wI h5 dX12_readsItem_88 ?_
        refine z_goto (tgt := 151) dX12_readsItem_89 (by decide) ?_
        refine zweak [false, false, false, false] ?_
        exact s_X12_readsItem_b151 hC _ _ h
    · have h := zift h c2
      refine z_aload_n (x := x0) rfl dX12_readsItem_62 ?_
      obtain ⟨a1, h1, h⟩ := zbind h
      refine z_gN hC fs_X12_13 h1 dX12_readsItem_63 ?_
      refine z_iconst 0 (by decide) dX12_readsItem_66 ?_
      refine z_iload_n (x := y0) rfl dX12_readsItem_67 ?_
      obtain ⟨M1, h2, h⟩ := zbind h
      refine z_wI h2 dX12_readsItem_68 ?_
      refine z_goto (tgt := 151) dX12_readsItem_69 (by decide) ?_
      refine zweak [false, false, false, false] ?_
      exact s_X12_readsItem_b151 hC _ _ h
  · have h := zift h c1
    refine z_iconst 0 (by decide) dX12_readsItem_56 ?_
    obtain rfl := Option.some.inj h
    exact z_iret ⟨.boolean, rfl, rfl⟩ dX12_readsItem_57
def f_X12_readsItem (x0 : Nat) (x1 : Int32) (M : zMe) : Option (Int32 × zMe) :=
  if x1 = 5 then (
    (zob M x0 12).bind fun _ =>
    (f_X12_readsDog x0 M).bind fun q1 =>
    if q1.1 = 0 ∨ q1.1 = 1 then some (q1.1, q1.2) else none)
  else (
    if x1 = 0 then (
      (zob M x0 12).bind fun _ =>
      (f_X12_figure x0 2 5 M).bind fun q2 =>
      f_X12_readsItem_b50 x0 x1 q2.1 q2.2)
    else (
      if x1 = 4 then (
        (zob M x0 12).bind fun _ =>
        (f_X12_figure x0 0 1 M).bind fun q3 =>
        f_X12_readsItem_b50 x0 x1 q3.1 q3.2)
      else (
        (zgN M x0 [12] 1).bind fun a1 =>
        (zrI M a1 0).bind fun v1 =>
        (zob M x0 12).bind fun _ =>
        (f_X12_figure x0 0 (v1 - 1) M).bind fun q4 =>
        f_X12_readsItem_b50 x0 x1 q4.1 q4.2)))
set_option maxHeartbeats 4000000 in
set_option maxRecDepth 100000 in
theorem s_X12_readsItem {g : zG} (hC : zC g) {x0 : Nat} {x1 : Int32} {M : zMe} {q : (Int32 × zMe)} (h : f_X12_readsItem x0 x1 M = some q) : zMet g yX12_readsItem mX12_readsItem [.ref x0, .int x1] M (some (.int q.1)) q.2 := by
  refine z_entry (by decide +kernel) rfl rfl (Nat.le_of_ble_eq_true rfl) ?_
  refine zeqL (L2 := [.ref x0, .int x1, .retAddr 0, .retAddr 0]) rfl ?_
  unfold f_X12_readsItem at h
  refine z_iload_n (x := x1) rfl dX12_readsItem_0 ?_
  refine z_iconst 5 (by decide) dX12_readsItem_1 ?_
  refine z_icmp_ne (tgt := 10) dX12_readsItem_2 (by decide) (fun c1 => ?_) (fun c1 => ?_)
  · have h := zife h c1
    refine z_iload_n (x := x1) rfl dX12_readsItem_10 ?_
    refine z_if_ne (tgt := 23) dX12_readsItem_11 (by decide) (fun c2 => ?_) (fun c2 => ?_)
    · have h := zife h c2
      refine z_iload_n (x := x1) rfl dX12_readsItem_23 ?_
      refine z_iconst 4 (by decide) dX12_readsItem_24 ?_
      refine z_icmp_ne (tgt := 37) dX12_readsItem_25 (by decide) (fun c3 => ?_) (fun c3 => ?_)
      · have h := zife h c3
        refine z_aload_n (x := x0) rfl dX12_readsItem_37 ?_
        refine z_iconst 0 (by decide) dX12_readsItem_38 ?_
        refine z_aload_n (x := x0) rfl dX12_readsItem_39 ?_
        obtain ⟨a1, h4, h⟩ := zbind h
        refine z_gN hC fs_X12_13 h4 dX12_readsItem_40 ?_
        refine z_iconst 0 (by decide) dX12_readsItem_43 ?_
        obtain ⟨v1, h5, h⟩ := zbind h
        refine z_rI h5 dX12_readsItem_44 ?_
        refine z_iconst 1 (by decide) dX12_readsItem_45 ?_
        refine z_isub dX12_readsItem_46 ?_
        obtain ⟨_, hb, h⟩ := zbind h
        obtain ⟨fs, hb⟩ := zob_some hb
        obtain ⟨q4, h6, h⟩ := zbind h
        refine z_callV (av := [.int 0, .int (v1 - 1)]) (rest := []) hC zcl_12 hb (s_X12_figure hC h6) lk_X12_118 im_X12_figure se_X12_figure cd_X12_figure ⟨by decide, by decide, (Nat.le_of_ble_eq_true rfl)⟩ dX12_readsItem_47 ?_
        clear hb fs
        refine zeqS (stk2 := [.int q4.1]) rfl ?_
        exact s_X12_readsItem_b50 hC _ _ _ _ _ h
      · have h := zift h c3
        refine z_aload_n (x := x0) rfl dX12_readsItem_28 ?_
        refine z_iconst 0 (by decide) dX12_readsItem_29 ?_
        refine z_iconst 1 (by decide) dX12_readsItem_30 ?_
        obtain ⟨_, hb, h⟩ := zbind h
        obtain ⟨fs, hb⟩ := zob_some hb
        obtain ⟨q3, h3, h⟩ := zbind h
        refine z_callV (av := [.int 0, .int 1]) (rest := []) hC zcl_12 hb (s_X12_figure hC h3) lk_X12_118 im_X12_figure se_X12_figure cd_X12_figure ⟨by decide, by decide, (Nat.le_of_ble_eq_true rfl)⟩ dX12_readsItem_31 ?_
        clear hb fs
        refine zeqS (stk2 := [.int q3.1]) rfl ?_
        refine z_goto (tgt := 50) dX12_readsItem_34 (by decide) ?_
        exact s_X12_readsItem_b50 hC _ _ _ _ _ h
    · have h := zift h c2
      refine z_aload_n (x := x0) rfl dX12_readsItem_14 ?_
      refine z_iconst 2 (by decide) dX12_readsItem_15 ?_
      refine z_iconst 5 (by decide) dX12_readsItem_16 ?_
      obtain ⟨_, hb, h⟩ := zbind h
      obtain ⟨fs, hb⟩ := zob_some hb
      obtain ⟨q2, h2, h⟩ := zbind h
      refine z_callV (av := [.int 2, .int 5]) (rest := []) hC zcl_12 hb (s_X12_figure hC h2) lk_X12_118 im_X12_figure se_X12_figure cd_X12_figure ⟨by decide, by decide, (Nat.le_of_ble_eq_true rfl)⟩ dX12_readsItem_17 ?_
      clear hb fs
      refine zeqS (stk2 := [.int q2.1]) rfl ?_
      refine z_goto (tgt := 50) dX12_readsItem_20 (by decide) ?_
      exact s_X12_readsItem_b50 hC _ _ _ _ _ h
  · have h := zift h c1
    refine z_aload_n (x := x0) rfl dX12_readsItem_5 ?_
    obtain ⟨_, hb, h⟩ := zbind h
    obtain ⟨fs, hb⟩ := zob_some hb
    obtain ⟨q1, h1, h⟩ := zbind h
    refine z_callV (av := []) (rest := []) hC zcl_12 hb (s_X12_readsDog hC h1) lk_X12_124 im_X12_readsDog se_X12_readsDog cd_X12_readsDog ⟨by decide, by decide, (Nat.le_of_ble_eq_true rfl)⟩ dX12_readsItem_6 ?_
    clear hb fs
    refine zeqS (stk2 := [.int q1.1]) rfl ?_
    obtain ⟨hz, h⟩ := zifs h
    obtain rfl := Option.some.inj h
    exact z_iret ⟨.boolean, rfl, zbo hz⟩ dX12_readsItem_9
def f_X12_reads_b88   (M : zMe) : Option (Int32 × zMe) :=
  some (0, M)
set_option maxHeartbeats 4000000 in
set_option maxRecDepth 100000 in
theorem s_X12_reads_b88 {g : zG} (hC : zC g)   (M : zMe) (q : (Int32 × zMe)) (h : f_X12_reads_b88   M = some q) : zW g mX12_reads 88 [.retAddr 0, .retAddr 0, .retAddr 0] [] M (some (.int q.1)) q.2 := by
  unfold f_X12_reads_b88 at h
  refine z_iconst 0 (by decide) dX12_reads_88 ?_
  obtain rfl := Option.some.inj h
  exact z_iret ⟨.boolean, rfl, rfl⟩ dX12_reads_89
def f_X12_reads_b76 (k46 : Nat → Int32 → zMe → Option (Int32 × zMe)) (x0 : Nat) (x1 : Int32) (x2 : Int32) (y0 : Int32) (M : zMe) : Option (Int32 × zMe) :=
  if y0 = x1 then (
    (zob M x0 12).bind fun _ =>
    (f_X12_readsItem x0 x2 M).bind fun q1 =>
    if q1.1 = 0 then (
      f_X12_reads_b88 q1.2)
    else (
      (zob q1.2 x0 12).bind fun _ =>
      (f_X12_token x0 q1.2).bind fun q2 =>
      (zgI q2 x0 [12] 10).bind fun v1 =>
      if v1 = 3 then (
        (zob q2 x0 12).bind fun _ =>
        (f_X12_token x0 q2).bind fun q3 =>
        k46 x0 0 q3)
      else (
        some (0, q2))))
  else (
    f_X12_reads_b88 M)
set_option maxHeartbeats 4000000 in
set_option maxRecDepth 100000 in
theorem s_X12_reads_b76 {g : zG} (hC : zC g) {k46 : Nat → Int32 → zMe → Option (Int32 × zMe)} (hk46 : ∀ (x0 : Nat) (x1 : Int32) (M : zMe) (q : (Int32 × zMe)), k46 x0 x1 M = some q → zW g mX12_reads 46 [.ref x0, .int x1, .retAddr 0] [] M (some (.int q.1)) q.2) (x0 : Nat) (x1 : Int32) (x2 : Int32) (y0 : Int32) (M : zMe) (q : (Int32 × zMe)) (h : f_X12_reads_b76 k46 x0 x1 x2 y0 M = some q) : zW g mX12_reads 76 [.ref x0, .int x1, .int x2] [.int y0] M (some (.int q.1)) q.2 := by
  unfold f_X12_reads_b76 at h
  refine z_iload_n (x := x1) rfl dX12_reads_76 ?_
  refine z_icmp_ne (tgt := 88) dX12_reads_77 (by decide) (fun c1 => ?_) (fun c1 => ?_)
  · have h := zife h c1
    refine zweak [false, false, false] ?_
    exact s_X12_reads_b88 hC _ _ h
  · have h := zift h c1
    refine z_aload_n (x := x0) rfl dX12_reads_80 ?_
    refine z_iload_n (x := x2) rfl dX12_reads_81 ?_
    obtain ⟨_, hb, h⟩ := zbind h
    obtain ⟨fs, hb⟩ := zob_some hb
    obtain ⟨q1, h1, h⟩ := zbind h
    refine z_callV (av := [.int x2]) (rest := []) hC zcl_12 hb (s_X12_readsItem hC h1) lk_X12_131 im_X12_readsItem se_X12_readsItem cd_X12_readsItem ⟨by decide, by decide, (Nat.le_of_ble_eq_true rfl)⟩ dX12_reads_82 ?_
    clear hb fs
    refine zeqS (stk2 := [.int q1.1]) rfl ?_
    refine z_if_ne (tgt := 90) dX12_reads_85 (by decide) (fun c2 => ?_) (fun c2 => ?_)
    · have h := zife h c2
      refine z_aload_n (x := x0) rfl dX12_reads_90 ?_
      obtain ⟨_, hb, h⟩ := zbind h
      obtain ⟨fs, hb⟩ := zob_some hb
      obtain ⟨q2, h2, h⟩ := zbind h
      refine z_callV (av := []) (rest := []) hC zcl_12 hb (s_X12_token hC h2) lk_X12_115 im_X12_token se_X12_token cd_X12_token ⟨by decide, by decide, (Nat.le_of_ble_eq_true rfl)⟩ dX12_reads_91 ?_
      clear hb fs
      refine zeqS (stk2 := []) rfl ?_
      refine z_aload_n (x := x0) rfl dX12_reads_94 ?_
      obtain ⟨v1, h3, h⟩ := zbind h
      refine z_gI hC fs_X12_95 h3 dX12_reads_95 ?_
      refine z_iconst 3 (by decide) dX12_reads_98 ?_
      refine z_icmp_eq (tgt := 104) dX12_reads_99 (by decide) (fun c3 => ?_) (fun c3 => ?_)
      · have h := zift h c3
        refine z_iconst 0 (by decide) dX12_reads_104 ?_
        refine z_istore_n dX12_reads_105 (by decide) ?_
        refine zeqL (L2 := [.ref x0, .int 0, .int x2]) rfl ?_
        refine z_aload_n (x := x0) rfl dX12_reads_106 ?_
        obtain ⟨_, hb, h⟩ := zbind h
        obtain ⟨fs, hb⟩ := zob_some hb
        obtain ⟨q3, h4, h⟩ := zbind h
        refine z_callV (av := []) (rest := []) hC zcl_12 hb (s_X12_token hC h4) lk_X12_115 im_X12_token se_X12_token cd_X12_token ⟨by decide, by decide, (Nat.le_of_ble_eq_true rfl)⟩ dX12_reads_107 ?_
        clear hb fs
        refine zeqS (stk2 := []) rfl ?_
        refine z_goto (tgt := 46) dX12_reads_110 (by decide) ?_
        refine zweak [true, true, false] ?_
        exact hk46 _ _ _ _ h
      · have h := zife h c3
        refine z_iconst 0 (by decide) dX12_reads_102 ?_
        obtain rfl := Option.some.inj h
        exact z_iret ⟨.boolean, rfl, rfl⟩ dX12_reads_103
    · have h := zift h c2
      refine zweak [false, false, false] ?_
      exact s_X12_reads_b88 hC _ _ h
def f_X12_reads_b57 (k46 : Nat → Int32 → zMe → Option (Int32 × zMe)) (x0 : Nat) (x1 : Int32) (M : zMe) : Option (Int32 × zMe) :=
  (zob M x0 12).bind fun _ =>
  (f_X12_verb x0 M).bind fun q1 =>
  if q1.1 = (-1) then (
    f_X12_reads_b88 q1.2)
  else (
    if q1.1 = 0 then (
      f_X12_reads_b76 k46 x0 x1 q1.1 1 q1.2)
    else (
      f_X12_reads_b76 k46 x0 x1 q1.1 0 q1.2))
set_option maxHeartbeats 4000000 in
set_option maxRecDepth 100000 in
theorem s_X12_reads_b57 {g : zG} (hC : zC g) {k46 : Nat → Int32 → zMe → Option (Int32 × zMe)} (hk46 : ∀ (x0 : Nat) (x1 : Int32) (M : zMe) (q : (Int32 × zMe)), k46 x0 x1 M = some q → zW g mX12_reads 46 [.ref x0, .int x1, .retAddr 0] [] M (some (.int q.1)) q.2) (x0 : Nat) (x1 : Int32) (M : zMe) (q : (Int32 × zMe)) (h : f_X12_reads_b57 k46 x0 x1 M = some q) : zW g mX12_reads 57 [.ref x0, .int x1, .retAddr 0] [] M (some (.int q.1)) q.2 := by
  unfold f_X12_reads_b57 at h
  refine z_aload_n (x := x0) rfl dX12_reads_57 ?_
  obtain ⟨_, hb, h⟩ := zbind h
  obtain ⟨fs, hb⟩ := zob_some hb
  obtain ⟨q1, h1, h⟩ := zbind h
  refine z_callV (av := []) (rest := []) hC zcl_12 hb (s_X12_verb hC h1) lk_X12_128 im_X12_verb se_X12_verb cd_X12_verb ⟨by decide, by decide, (Nat.le_of_ble_eq_true rfl)⟩ dX12_reads_58 ?_
  clear hb fs
  refine zeqS (stk2 := [.int q1.1]) rfl ?_
  refine z_istore_n dX12_reads_61 (by decide) ?_
  refine zeqL (L2 := [.ref x0, .int x1, .int q1.1]) rfl ?_
  refine z_iload_n (x := q1.1) rfl dX12_reads_62 ?_
  refine z_iconst (-1) (by decide) dX12_reads_63 ?_
  refine z_icmp_eq (tgt := 88) dX12_reads_64 (by decide) (fun c1 => ?_) (fun c1 => ?_)
  · have h := zift h c1
    refine zweak [false, false, false] ?_
    exact s_X12_reads_b88 hC _ _ h
  · have h := zife h c1
    refine z_iload_n (x := q1.1) rfl dX12_reads_67 ?_
    refine z_if_ne (tgt := 75) dX12_reads_68 (by decide) (fun c2 => ?_) (fun c2 => ?_)
    · have h := zife h c2
      refine z_iconst 0 (by decide) dX12_reads_75 ?_
      exact s_X12_reads_b76 hC hk46 _ _ _ _ _ _ h
    · have h := zift h c2
      refine z_iconst 1 (by decide) dX12_reads_71 ?_
      refine z_goto (tgt := 76) dX12_reads_72 (by decide) ?_
      exact s_X12_reads_b76 hC hk46 _ _ _ _ _ _ h
def f_X12_reads_b46  : Nat → Nat → Int32 → zMe → Option (Int32 × zMe)
  | 0, _, _, _ => none
  | n + 1, x0, x1, M =>
    if x1 = 0 then (
      (zgI M x0 [12] 10).bind fun v1 =>
      if v1 = 0 then (
        some (1, M))
      else (
        f_X12_reads_b57 (f_X12_reads_b46 n) x0 x1 M))
    else (
      f_X12_reads_b57 (f_X12_reads_b46 n) x0 x1 M)
set_option maxHeartbeats 4000000 in
set_option maxRecDepth 100000 in
theorem s_X12_reads_b46 {g : zG} (hC : zC g)  : ∀ (n : Nat) (x0 : Nat) (x1 : Int32) (M : zMe) (q : (Int32 × zMe)), f_X12_reads_b46  n x0 x1 M = some q → zW g mX12_reads 46 [.ref x0, .int x1, .retAddr 0] [] M (some (.int q.1)) q.2 := by
  intro n
  induction n with
  | zero => intro x0 x1 M q h; cases h
  | succ n ih =>
    intro x0 x1 M q h
    rw [f_X12_reads_b46] at h
    refine z_iload_n (x := x1) rfl dX12_reads_46 ?_
    refine z_if_ne (tgt := 57) dX12_reads_47 (by decide) (fun c1 => ?_) (fun c1 => ?_)
    · have h := zife h c1
      exact s_X12_reads_b57 hC ih _ _ _ _ h
    · have h := zift h c1
      refine z_aload_n (x := x0) rfl dX12_reads_50 ?_
      obtain ⟨v1, h1, h⟩ := zbind h
      refine z_gI hC fs_X12_95 h1 dX12_reads_51 ?_
      refine z_if_eq (tgt := 113) dX12_reads_54 (by decide) (fun c2 => ?_) (fun c2 => ?_)
      · have h := zift h c2
        refine z_iconst 1 (by decide) dX12_reads_113 ?_
        obtain rfl := Option.some.inj h
        exact z_iret ⟨.boolean, rfl, rfl⟩ dX12_reads_114
      · have h := zife h c2
        exact s_X12_reads_b57 hC ih _ _ _ _ h
def f_X12_reads_b2  : Nat → Nat → Int32 → zMe → Option (Int32 × zMe)
  | 0, _, _, _ => none
  | n + 1, x0, x1, M =>
    if 25 ≤ x1 then (
      (zgN M x0 [12] 1).bind fun a1 =>
      (zwI M a1 4 1).bind fun M1 =>
      (zgN M1 x0 [12] 1).bind fun a2 =>
      (zwI M1 a2 5 1).bind fun M2 =>
      (zpI M2 x0 [12] 9 0).bind fun M3 =>
      (zob M3 x0 12).bind fun _ =>
      (f_X12_token x0 M3).bind fun q1 =>
      f_X12_reads_b46 zfu x0 1 q1)
    else (
      (zgN M x0 [12] 1).bind fun a3 =>
      (zwI M a3 x1 0).bind fun M4 =>
      zlet (x1 + 1) fun v1 =>
      f_X12_reads_b2 n x0 v1 M4)
set_option maxHeartbeats 4000000 in
set_option maxRecDepth 100000 in
theorem s_X12_reads_b2 {g : zG} (hC : zC g)  : ∀ (n : Nat) (x0 : Nat) (x1 : Int32) (M : zMe) (q : (Int32 × zMe)), f_X12_reads_b2  n x0 x1 M = some q → zW g mX12_reads 2 [.ref x0, .int x1, .retAddr 0] [] M (some (.int q.1)) q.2 := by
  intro n
  induction n with
  | zero => intro x0 x1 M q h; cases h
  | succ n ih =>
    intro x0 x1 M q h
    rw [f_X12_reads_b2] at h
    refine z_iload_n (x := x1) rfl dX12_reads_2 ?_
    refine z_bipush 25 (by decide) dX12_reads_3 ?_
    refine z_icmp_ge (tgt := 21) dX12_reads_5 (by decide) (fun c1 => ?_) (fun c1 => ?_)
    · have h := zift h c1
      refine z_aload_n (x := x0) rfl dX12_reads_21 ?_
      obtain ⟨a1, h1, h⟩ := zbind h
      refine z_gN hC fs_X12_13 h1 dX12_reads_22 ?_
      refine z_iconst 4 (by decide) dX12_reads_25 ?_
      refine z_iconst 1 (by decide) dX12_reads_26 ?_
      obtain ⟨M1, h2, h⟩ := zbind h
      refine z_wI h2 dX12_reads_27 ?_
      refine z_aload_n (x := x0) rfl dX12_reads_28 ?_
      obtain ⟨a2, h3, h⟩ := zbind h
      refine z_gN hC fs_X12_13 h3 dX12_reads_29 ?_
      refine z_iconst 5 (by decide) dX12_reads_32 ?_
      refine z_iconst 1 (by decide) dX12_reads_33 ?_
      obtain ⟨M2, h4, h⟩ := zbind h
      refine z_wI h4 dX12_reads_34 ?_
      refine z_aload_n (x := x0) rfl dX12_reads_35 ?_
      refine z_iconst 0 (by decide) dX12_reads_36 ?_
      obtain ⟨M3, h5, h⟩ := zbind h
      refine z_pI hC fp_X12_82 h5 dX12_reads_37 ?_
      refine z_aload_n (x := x0) rfl dX12_reads_40 ?_
      obtain ⟨_, hb, h⟩ := zbind h
      obtain ⟨fs, hb⟩ := zob_some hb
      obtain ⟨q1, h6, h⟩ := zbind h
      refine z_callV (av := []) (rest := []) hC zcl_12 hb (s_X12_token hC h6) lk_X12_115 im_X12_token se_X12_token cd_X12_token ⟨by decide, by decide, (Nat.le_of_ble_eq_true rfl)⟩ dX12_reads_41 ?_
      clear hb fs
      refine zeqS (stk2 := []) rfl ?_
      refine z_iconst 1 (by decide) dX12_reads_44 ?_
      refine z_istore_n dX12_reads_45 (by decide) ?_
      refine zeqL (L2 := [.ref x0, .int 1, .retAddr 0]) rfl ?_
      exact s_X12_reads_b46 hC _ _ _ _ _ h
    · have h := zife h c1
      refine z_aload_n (x := x0) rfl dX12_reads_8 ?_
      obtain ⟨a3, h7, h⟩ := zbind h
      refine z_gN hC fs_X12_13 h7 dX12_reads_9 ?_
      refine z_iload_n (x := x1) rfl dX12_reads_12 ?_
      refine z_iconst 0 (by decide) dX12_reads_13 ?_
      obtain ⟨M4, h8, h⟩ := zbind h
      refine z_wI h8 dX12_reads_14 ?_
      obtain ⟨v1, hv⟩ : ∃ z : Int32, z = x1 + 1 := ⟨_, rfl⟩
      have h := zlet_use h hv
      refine z_iinc (v := v1) dX12_reads_15 (x := x1) rfl (by rw [hv]; rfl) ?_
      clear hv
      refine zeqL (L2 := [.ref x0, .int v1, .retAddr 0]) rfl ?_
      refine z_goto (tgt := 2) dX12_reads_18 (by decide) ?_
      exact ih _ _ _ _ h
def f_X12_reads (x0 : Nat) (M : zMe) : Option (Int32 × zMe) :=
  f_X12_reads_b2 zfu x0 0 M
set_option maxHeartbeats 4000000 in
set_option maxRecDepth 100000 in
theorem s_X12_reads {g : zG} (hC : zC g) {x0 : Nat} {M : zMe} {q : (Int32 × zMe)} (h : f_X12_reads x0 M = some q) : zMet g yX12_reads mX12_reads [.ref x0] M (some (.int q.1)) q.2 := by
  refine z_entry (by decide +kernel) rfl rfl (Nat.le_of_ble_eq_true rfl) ?_
  refine zeqL (L2 := [.ref x0, .retAddr 0, .retAddr 0]) rfl ?_
  unfold f_X12_reads at h
  refine z_iconst 0 (by decide) dX12_reads_0 ?_
  refine z_istore_n dX12_reads_1 (by decide) ?_
  refine zeqL (L2 := [.ref x0, .int 0, .retAddr 0]) rfl ?_
  exact s_X12_reads_b2 hC _ _ _ _ _ h
def f_X12_read_b17  : Nat → Nat → Int32 → zMe → Option (Int32 × zMe)
  | 0, _, _, _ => none
  | n + 1, x0, x1, M =>
    if 25 ≤ x1 then (
      (zgN M x0 [12] 0).bind fun a1 =>
      (zrI M a1 6).bind fun v1 =>
      some (v1, M))
    else (
      (zgN M x0 [12] 0).bind fun a2 =>
      (zgN M x0 [12] 1).bind fun a3 =>
      (zrI M a3 x1).bind fun v2 =>
      (zwI M a2 x1 v2).bind fun M1 =>
      zlet (x1 + 1) fun v3 =>
      f_X12_read_b17 n x0 v3 M1)
set_option maxHeartbeats 4000000 in
set_option maxRecDepth 100000 in
theorem s_X12_read_b17 {g : zG} (hC : zC g)  : ∀ (n : Nat) (x0 : Nat) (x1 : Int32) (M : zMe) (q : (Int32 × zMe)), f_X12_read_b17  n x0 x1 M = some q → zW g mX12_read 17 [.ref x0, .int x1] [] M (some (.int q.1)) q.2 := by
  intro n
  induction n with
  | zero => intro x0 x1 M q h; cases h
  | succ n ih =>
    intro x0 x1 M q h
    rw [f_X12_read_b17] at h
    refine z_iload_n (x := x1) rfl dX12_read_17 ?_
    refine z_bipush 25 (by decide) dX12_read_18 ?_
    refine z_icmp_ge (tgt := 41) dX12_read_20 (by decide) (fun c1 => ?_) (fun c1 => ?_)
    · have h := zift h c1
      refine z_aload_n (x := x0) rfl dX12_read_41 ?_
      obtain ⟨a1, h1, h⟩ := zbind h
      refine z_gN hC fs_X12_7 h1 dX12_read_42 ?_
      refine z_bipush 6 (by decide) dX12_read_45 ?_
      obtain ⟨v1, h2, h⟩ := zbind h
      refine z_rI h2 dX12_read_47 ?_
      obtain rfl := Option.some.inj h
      exact z_iret ⟨.int, rfl, rfl⟩ dX12_read_48
    · have h := zife h c1
      refine z_aload_n (x := x0) rfl dX12_read_23 ?_
      obtain ⟨a2, h3, h⟩ := zbind h
      refine z_gN hC fs_X12_7 h3 dX12_read_24 ?_
      refine z_iload_n (x := x1) rfl dX12_read_27 ?_
      refine z_aload_n (x := x0) rfl dX12_read_28 ?_
      obtain ⟨a3, h4, h⟩ := zbind h
      refine z_gN hC fs_X12_13 h4 dX12_read_29 ?_
      refine z_iload_n (x := x1) rfl dX12_read_32 ?_
      obtain ⟨v2, h5, h⟩ := zbind h
      refine z_rI h5 dX12_read_33 ?_
      obtain ⟨M1, h6, h⟩ := zbind h
      refine z_wI h6 dX12_read_34 ?_
      obtain ⟨v3, hv⟩ : ∃ z : Int32, z = x1 + 1 := ⟨_, rfl⟩
      have h := zlet_use h hv
      refine z_iinc (v := v3) dX12_read_35 (x := x1) rfl (by rw [hv]; rfl) ?_
      clear hv
      refine zeqL (L2 := [.ref x0, .int v3]) rfl ?_
      refine z_goto (tgt := 17) dX12_read_38 (by decide) ?_
      exact ih _ _ _ _ h
def f_X12_read (x0 : Nat) (M : zMe) : Option (Int32 × zMe) :=
  (zob M x0 12).bind fun _ =>
  (f_X12_reads x0 M).bind fun q1 =>
  if q1.1 = 0 then (
    (zgI q1.2 x0 [12] 11).bind fun v1 =>
    some ((-10) - v1, q1.2))
  else (
    f_X12_read_b17 zfu x0 0 q1.2)
set_option maxHeartbeats 4000000 in
set_option maxRecDepth 100000 in
theorem s_X12_read {g : zG} (hC : zC g) {x0 : Nat} {M : zMe} {q : (Int32 × zMe)} (h : f_X12_read x0 M = some q) : zMet g yX12_read mX12_read [.ref x0] M (some (.int q.1)) q.2 := by
  refine z_entry (by decide +kernel) rfl rfl (Nat.le_of_ble_eq_true rfl) ?_
  refine zeqL (L2 := [.ref x0, .retAddr 0]) rfl ?_
  unfold f_X12_read at h
  refine z_aload_n (x := x0) rfl dX12_read_0 ?_
  obtain ⟨_, hb, h⟩ := zbind h
  obtain ⟨fs, hb⟩ := zob_some hb
  obtain ⟨q1, h1, h⟩ := zbind h
  refine z_callV (av := []) (rest := []) hC zcl_12 hb (s_X12_reads hC h1) lk_X12_134 im_X12_reads se_X12_reads cd_X12_reads ⟨by decide, by decide, (Nat.le_of_ble_eq_true rfl)⟩ dX12_read_1 ?_
  clear hb fs
  refine zeqS (stk2 := [.int q1.1]) rfl ?_
  refine z_if_ne (tgt := 15) dX12_read_4 (by decide) (fun c1 => ?_) (fun c1 => ?_)
  · have h := zife h c1
    refine z_iconst 0 (by decide) dX12_read_15 ?_
    refine z_istore_n dX12_read_16 (by decide) ?_
    refine zeqL (L2 := [.ref x0, .int 0]) rfl ?_
    exact s_X12_read_b17 hC _ _ _ _ _ h
  · have h := zift h c1
    refine z_bipush (-10) (by decide) dX12_read_7 ?_
    refine z_aload_n (x := x0) rfl dX12_read_9 ?_
    obtain ⟨v1, h2, h⟩ := zbind h
    refine z_gI hC fs_X12_89 h2 dX12_read_10 ?_
    refine z_isub dX12_read_13 ?_
    obtain rfl := Option.some.inj h
    exact z_iret ⟨.int, rfl, rfl⟩ dX12_read_14
def f_X12_step_b28  (y0 : Int32) (M : zMe) : Option (Int32 × zMe) :=
  some (y0, M)
set_option maxHeartbeats 4000000 in
set_option maxRecDepth 100000 in
theorem s_X12_step_b28 {g : zG} (hC : zC g)  (y0 : Int32) (M : zMe) (q : (Int32 × zMe)) (h : f_X12_step_b28  y0 M = some q) : zW g mX12_step 28 [.retAddr 0, .retAddr 0, .retAddr 0, .retAddr 0] [.int y0] M (some (.int q.1)) q.2 := by
  unfold f_X12_step_b28 at h
  obtain rfl := Option.some.inj h
  exact z_iret ⟨.int, rfl, rfl⟩ dX12_step_28
def f_X12_step (x0 : Nat) (x1 : Int32) (x2 : Int32) (M : zMe) : Option (Int32 × zMe) :=
  zlet ((x1 >>> ((3 * x2) &&& 31)) &&& 7 : Int32) fun v1 =>
  (zgN M x0 [12] 0).bind fun a1 =>
  (zrI M a1 1).bind fun v2 =>
  if ((v2 >>> (v1 &&& 31)) &&& 1) = 1 then (
    f_X12_step_b28 x2 M)
  else (
    f_X12_step_b28 v1 M)
set_option maxHeartbeats 4000000 in
set_option maxRecDepth 100000 in
theorem s_X12_step {g : zG} (hC : zC g) {x0 : Nat} {x1 : Int32} {x2 : Int32} {M : zMe} {q : (Int32 × zMe)} (h : f_X12_step x0 x1 x2 M = some q) : zMet g yX12_step mX12_step [.ref x0, .int x1, .int x2] M (some (.int q.1)) q.2 := by
  refine z_entry (by decide +kernel) rfl rfl (Nat.le_of_ble_eq_true rfl) ?_
  refine zeqL (L2 := [.ref x0, .int x1, .int x2, .retAddr 0]) rfl ?_
  unfold f_X12_step at h
  refine z_iload_n (x := x1) rfl dX12_step_0 ?_
  refine z_iconst 3 (by decide) dX12_step_1 ?_
  refine z_iload_n (x := x2) rfl dX12_step_2 ?_
  refine z_imul dX12_step_3 ?_
  refine z_ishr dX12_step_4 ?_
  refine z_bipush 7 (by decide) dX12_step_5 ?_
  refine z_iand dX12_step_7 ?_
  refine z_nameI (fun v1 hv => ?_)
  have h := zlet_use h hv
  clear hv
  refine z_istore_n dX12_step_8 (by decide) ?_
  refine zeqL (L2 := [.ref x0, .int x1, .int x2, .int v1]) rfl ?_
  refine z_aload_n (x := x0) rfl dX12_step_9 ?_
  obtain ⟨a1, h1, h⟩ := zbind h
  refine z_gN hC fs_X12_7 h1 dX12_step_10 ?_
  refine z_iconst 1 (by decide) dX12_step_13 ?_
  obtain ⟨v2, h2, h⟩ := zbind h
  refine z_rI h2 dX12_step_14 ?_
  refine z_iload_n (x := v1) rfl dX12_step_15 ?_
  refine z_ishr dX12_step_16 ?_
  refine z_iconst 1 (by decide) dX12_step_17 ?_
  refine z_iand dX12_step_18 ?_
  refine z_iconst 1 (by decide) dX12_step_19 ?_
  refine z_icmp_ne (tgt := 27) dX12_step_20 (by decide) (fun c1 => ?_) (fun c1 => ?_)
  · have h := zife h c1
    refine z_iload_n (x := v1) rfl dX12_step_27 ?_
    refine zweak [false, false, false, false] ?_
    exact s_X12_step_b28 hC _ _ _ h
  · have h := zift h c1
    refine z_iload_n (x := x2) rfl dX12_step_23 ?_
    refine z_goto (tgt := 28) dX12_step_24 (by decide) ?_
    refine zweak [false, false, false, false] ?_
    exact s_X12_step_b28 hC _ _ _ h
def f_X12_go_b137  (y0 : Int32) (M : zMe) : Option (Int32 × zMe) :=
  some (y0, M)
set_option maxHeartbeats 4000000 in
set_option maxRecDepth 100000 in
theorem s_X12_go_b137 {g : zG} (hC : zC g)  (y0 : Int32) (M : zMe) (q : (Int32 × zMe)) (h : f_X12_go_b137  y0 M = some q) : zW g mX12_go 137 [.retAddr 0, .retAddr 0, .retAddr 0, .retAddr 0, .retAddr 0, .retAddr 0, .retAddr 0, .retAddr 0, .retAddr 0, .retAddr 0] [.int y0] M (some (.int q.1)) q.2 := by
  unfold f_X12_go_b137 at h
  obtain rfl := Option.some.inj h
  exact z_iret ⟨.int, rfl, rfl⟩ dX12_go_137
def f_X12_go_b135  (x9 : Int32) (M : zMe) : Option (Int32 × zMe) :=
  f_X12_go_b137 x9 M
set_option maxHeartbeats 4000000 in
set_option maxRecDepth 100000 in
theorem s_X12_go_b135 {g : zG} (hC : zC g)  (x9 : Int32) (M : zMe) (q : (Int32 × zMe)) (h : f_X12_go_b135  x9 M = some q) : zW g mX12_go 135 [.retAddr 0, .retAddr 0, .retAddr 0, .retAddr 0, .retAddr 0, .retAddr 0, .retAddr 0, .retAddr 0, .retAddr 0, .int x9] [] M (some (.int q.1)) q.2 := by
  unfold f_X12_go_b135 at h
  refine z_iload (x := x9) rfl dX12_go_135 ?_
  refine zweak [false, false, false, false, false, false, false, false, false, false] ?_
  exact s_X12_go_b137 hC _ _ _ h
def f_X12_go_b100  (x0 : Nat) (x2 : Int32) (x6 : Int32) (x7 : Int32) (y0 : Int32) (y1 : Int32) (y2 : Nat) (M : zMe) : Option (Int32 × zMe) :=
  (zrI M y2 (y1 + y0)).bind fun v1 =>
  (zob M x0 12).bind fun _ =>
  (f_X12_step x0 v1 x2 M).bind fun q1 =>
  if x7 = 0 then (
    f_X12_go_b135 q1.1 q1.2)
  else (
    if x6 = 3 then (
      (zob q1.2 x0 12).bind fun _ =>
      (f_X12_step x0 v1 q1.1 q1.2).bind fun q2 =>
      f_X12_go_b137 q2.1 q2.2)
    else (
      f_X12_go_b135 q1.1 q1.2))
set_option maxHeartbeats 4000000 in
set_option maxRecDepth 100000 in
theorem s_X12_go_b100 {g : zG} (hC : zC g)  (x0 : Nat) (x2 : Int32) (x6 : Int32) (x7 : Int32) (y0 : Int32) (y1 : Int32) (y2 : Nat) (M : zMe) (q : (Int32 × zMe)) (h : f_X12_go_b100  x0 x2 x6 x7 y0 y1 y2 M = some q) : zW g mX12_go 100 [.ref x0, .retAddr 0, .int x2, .retAddr 0, .retAddr 0, .retAddr 0, .int x6, .int x7, .retAddr 0, .retAddr 0] [.int y0, .int y1, .ref y2] M (some (.int q.1)) q.2 := by
  unfold f_X12_go_b100 at h
  refine z_iadd dX12_go_100 ?_
  obtain ⟨v1, h1, h⟩ := zbind h
  refine z_rI h1 dX12_go_101 ?_
  refine z_istore dX12_go_102 (by decide) ?_
  refine zeqL (L2 := [.ref x0, .retAddr 0, .int x2, .retAddr 0, .retAddr 0, .retAddr 0, .int x6, .int x7, .int v1, .retAddr 0]) rfl ?_
  refine z_aload_n (x := x0) rfl dX12_go_104 ?_
  refine z_iload (x := v1) rfl dX12_go_105 ?_
  refine z_iload_n (x := x2) rfl dX12_go_107 ?_
  obtain ⟨_, hb, h⟩ := zbind h
  obtain ⟨fs, hb⟩ := zob_some hb
  obtain ⟨q1, h2, h⟩ := zbind h
  refine z_callV (av := [.int v1, .int x2]) (rest := []) hC zcl_12 hb (s_X12_step hC h2) lk_X12_137 im_X12_step se_X12_step cd_X12_step ⟨by decide, by decide, (Nat.le_of_ble_eq_true rfl)⟩ dX12_go_108 ?_
  clear hb fs
  refine zeqS (stk2 := [.int q1.1]) rfl ?_
  refine z_istore dX12_go_111 (by decide) ?_
  refine zeqL (L2 := [.ref x0, .retAddr 0, .int x2, .retAddr 0, .retAddr 0, .retAddr 0, .int x6, .int x7, .int v1, .int q1.1]) rfl ?_
  refine z_iload (x := x7) rfl dX12_go_113 ?_
  refine z_if_eq (tgt := 135) dX12_go_115 (by decide) (fun c1 => ?_) (fun c1 => ?_)
  · have h := zift h c1
    refine zweak [false, false, false, false, false, false, false, false, false, true] ?_
    exact s_X12_go_b135 hC _ _ _ h
  · have h := zife h c1
    refine z_iload (x := x6) rfl dX12_go_118 ?_
    refine z_iconst 3 (by decide) dX12_go_120 ?_
    refine z_icmp_ne (tgt := 135) dX12_go_121 (by decide) (fun c2 => ?_) (fun c2 => ?_)
    · have h := zife h c2
      refine zweak [false, false, false, false, false, false, false, false, false, true] ?_
      exact s_X12_go_b135 hC _ _ _ h
    · have h := zift h c2
      refine z_aload_n (x := x0) rfl dX12_go_124 ?_
      refine z_iload (x := v1) rfl dX12_go_125 ?_
      refine z_iload (x := q1.1) rfl dX12_go_127 ?_
      obtain ⟨_, hb, h⟩ := zbind h
      obtain ⟨fs, hb⟩ := zob_some hb
      obtain ⟨q2, h3, h⟩ := zbind h
      refine z_callV (av := [.int v1, .int q1.1]) (rest := []) hC zcl_12 hb (s_X12_step hC h3) lk_X12_137 im_X12_step se_X12_step cd_X12_step ⟨by decide, by decide, (Nat.le_of_ble_eq_true rfl)⟩ dX12_go_129 ?_
      clear hb fs
      refine zeqS (stk2 := [.int q2.1]) rfl ?_
      refine z_goto (tgt := 137) dX12_go_132 (by decide) ?_
      refine zweak [false, false, false, false, false, false, false, false, false, false] ?_
      exact s_X12_go_b137 hC _ _ _ h
def f_X12_go_b78  (x0 : Nat) (x2 : Int32) (x3 : Int32) (x5 : Int32) (x6 : Int32) (y0 : Int32) (M : zMe) : Option (Int32 × zMe) :=
  (zgN M x0 [12] 0).bind fun a1 =>
  if y0 = 0 then (
    f_X12_go_b100 x0 x2 x6 y0 0 ((x5 + 1) + x3) a1 M)
  else (
    f_X12_go_b100 x0 x2 x6 y0 2 ((x5 + 1) + x3) a1 M)
set_option maxHeartbeats 4000000 in
set_option maxRecDepth 100000 in
theorem s_X12_go_b78 {g : zG} (hC : zC g)  (x0 : Nat) (x2 : Int32) (x3 : Int32) (x5 : Int32) (x6 : Int32) (y0 : Int32) (M : zMe) (q : (Int32 × zMe)) (h : f_X12_go_b78  x0 x2 x3 x5 x6 y0 M = some q) : zW g mX12_go 78 [.ref x0, .retAddr 0, .int x2, .int x3, .retAddr 0, .int x5, .int x6, .retAddr 0, .retAddr 0, .retAddr 0] [.int y0] M (some (.int q.1)) q.2 := by
  unfold f_X12_go_b78 at h
  refine z_istore dX12_go_78 (by decide) ?_
  refine zeqL (L2 := [.ref x0, .retAddr 0, .int x2, .int x3, .retAddr 0, .int x5, .int x6, .int y0, .retAddr 0, .retAddr 0]) rfl ?_
  refine z_aload_n (x := x0) rfl dX12_go_80 ?_
  obtain ⟨a1, h1, h⟩ := zbind h
  refine z_gN hC fs_X12_7 h1 dX12_go_81 ?_
  refine z_iload (x := x5) rfl dX12_go_84 ?_
  refine z_iconst 1 (by decide) dX12_go_86 ?_
  refine z_iadd dX12_go_87 ?_
  refine z_iload_n (x := x3) rfl dX12_go_88 ?_
  refine z_iadd dX12_go_89 ?_
  refine z_iload (x := y0) rfl dX12_go_90 ?_
  refine z_if_eq (tgt := 99) dX12_go_92 (by decide) (fun c1 => ?_) (fun c1 => ?_)
  · have h := zift h c1
    refine z_iconst 0 (by decide) dX12_go_99 ?_
    refine zweak [true, false, true, false, false, false, true, true, false, false] ?_
    exact s_X12_go_b100 hC _ _ _ _ _ _ _ _ _ h
  · have h := zife h c1
    refine z_iconst 2 (by decide) dX12_go_95 ?_
    refine z_goto (tgt := 100) dX12_go_96 (by decide) ?_
    refine zweak [true, false, true, false, false, false, true, true, false, false] ?_
    exact s_X12_go_b100 hC _ _ _ _ _ _ _ _ _ h
def f_X12_go_b77  (x0 : Nat) (x2 : Int32) (x3 : Int32) (x5 : Int32) (x6 : Int32) (M : zMe) : Option (Int32 × zMe) :=
  f_X12_go_b78 x0 x2 x3 x5 x6 0 M
set_option maxHeartbeats 4000000 in
set_option maxRecDepth 100000 in
theorem s_X12_go_b77 {g : zG} (hC : zC g)  (x0 : Nat) (x2 : Int32) (x3 : Int32) (x5 : Int32) (x6 : Int32) (M : zMe) (q : (Int32 × zMe)) (h : f_X12_go_b77  x0 x2 x3 x5 x6 M = some q) : zW g mX12_go 77 [.ref x0, .retAddr 0, .int x2, .int x3, .retAddr 0, .int x5, .int x6, .retAddr 0, .retAddr 0, .retAddr 0] [] M (some (.int q.1)) q.2 := by
  unfold f_X12_go_b77 at h
  refine z_iconst 0 (by decide) dX12_go_77 ?_
  exact s_X12_go_b78 hC _ _ _ _ _ _ _ _ h
def f_X12_go_b59  (x0 : Nat) (x2 : Int32) (x3 : Int32) (x4 : Int32) (x5 : Int32) (x6 : Int32) (M : zMe) : Option (Int32 × zMe) :=
  (zgN M x0 [12] 0).bind fun a1 =>
  (zrI M a1 (x5 + 5)).bind fun v1 =>
  if x4 < v1 then (
    f_X12_go_b77 x0 x2 x3 x5 x6 M)
  else (
    f_X12_go_b78 x0 x2 x3 x5 x6 1 M)
set_option maxHeartbeats 4000000 in
set_option maxRecDepth 100000 in
theorem s_X12_go_b59 {g : zG} (hC : zC g)  (x0 : Nat) (x2 : Int32) (x3 : Int32) (x4 : Int32) (x5 : Int32) (x6 : Int32) (M : zMe) (q : (Int32 × zMe)) (h : f_X12_go_b59  x0 x2 x3 x4 x5 x6 M = some q) : zW g mX12_go 59 [.ref x0, .retAddr 0, .int x2, .int x3, .int x4, .int x5, .int x6, .retAddr 0, .retAddr 0, .retAddr 0] [] M (some (.int q.1)) q.2 := by
  unfold f_X12_go_b59 at h
  refine z_iload (x := x4) rfl dX12_go_59 ?_
  refine z_aload_n (x := x0) rfl dX12_go_61 ?_
  obtain ⟨a1, h1, h⟩ := zbind h
  refine z_gN hC fs_X12_7 h1 dX12_go_62 ?_
  refine z_iload (x := x5) rfl dX12_go_65 ?_
  refine z_iconst 5 (by decide) dX12_go_67 ?_
  refine z_iadd dX12_go_68 ?_
  obtain ⟨v1, h2, h⟩ := zbind h
  refine z_rI h2 dX12_go_69 ?_
  refine z_icmp_lt (tgt := 77) dX12_go_70 (by decide) (fun c1 => ?_) (fun c1 => ?_)
  · have h := zift h c1
    refine zweak [true, false, true, true, false, true, true, false, false, false] ?_
    exact s_X12_go_b77 hC _ _ _ _ _ _ _ h
  · have h := zife h c1
    refine z_iconst 1 (by decide) dX12_go_73 ?_
    refine z_goto (tgt := 78) dX12_go_74 (by decide) ?_
    refine zweak [true, false, true, true, false, true, true, false, false, false] ?_
    exact s_X12_go_b78 hC _ _ _ _ _ _ _ _ h
def f_X12_go_b47  (x0 : Nat) (x2 : Int32) (x3 : Int32) (x4 : Int32) (x5 : Int32) (x6 : Int32) (M : zMe) : Option (Int32 × zMe) :=
  if x6 = 2 then (
    f_X12_go_b59 x0 x2 x3 x4 x5 x6 M)
  else (
    if x6 = 3 then (
      f_X12_go_b59 x0 x2 x3 x4 x5 x6 M)
    else (
      f_X12_go_b77 x0 x2 x3 x5 x6 M))
set_option maxHeartbeats 4000000 in
set_option maxRecDepth 100000 in
theorem s_X12_go_b47 {g : zG} (hC : zC g)  (x0 : Nat) (x2 : Int32) (x3 : Int32) (x4 : Int32) (x5 : Int32) (x6 : Int32) (M : zMe) (q : (Int32 × zMe)) (h : f_X12_go_b47  x0 x2 x3 x4 x5 x6 M = some q) : zW g mX12_go 47 [.ref x0, .retAddr 0, .int x2, .int x3, .int x4, .int x5, .int x6, .retAddr 0, .retAddr 0, .retAddr 0] [] M (some (.int q.1)) q.2 := by
  unfold f_X12_go_b47 at h
  refine z_iload (x := x6) rfl dX12_go_47 ?_
  refine z_iconst 2 (by decide) dX12_go_49 ?_
  refine z_icmp_eq (tgt := 59) dX12_go_50 (by decide) (fun c1 => ?_) (fun c1 => ?_)
  · have h := zift h c1
    exact s_X12_go_b59 hC _ _ _ _ _ _ _ _ h
  · have h := zife h c1
    refine z_iload (x := x6) rfl dX12_go_53 ?_
    refine z_iconst 3 (by decide) dX12_go_55 ?_
    refine z_icmp_ne (tgt := 77) dX12_go_56 (by decide) (fun c2 => ?_) (fun c2 => ?_)
    · have h := zife h c2
      refine zweak [true, false, true, true, false, true, true, false, false, false] ?_
      exact s_X12_go_b77 hC _ _ _ _ _ _ _ h
    · have h := zift h c2
      exact s_X12_go_b59 hC _ _ _ _ _ _ _ _ h
def f_X12_go_b45  (x2 : Int32) (M : zMe) : Option (Int32 × zMe) :=
  some (x2, M)
set_option maxHeartbeats 4000000 in
set_option maxRecDepth 100000 in
theorem s_X12_go_b45 {g : zG} (hC : zC g)  (x2 : Int32) (M : zMe) (q : (Int32 × zMe)) (h : f_X12_go_b45  x2 M = some q) : zW g mX12_go 45 [.retAddr 0, .retAddr 0, .int x2, .retAddr 0, .retAddr 0, .retAddr 0, .retAddr 0, .retAddr 0, .retAddr 0, .retAddr 0] [] M (some (.int q.1)) q.2 := by
  unfold f_X12_go_b45 at h
  refine z_iload_n (x := x2) rfl dX12_go_45 ?_
  obtain rfl := Option.some.inj h
  exact z_iret ⟨.int, rfl, rfl⟩ dX12_go_46
def f_X12_go_b32  (x0 : Nat) (x2 : Int32) (x3 : Int32) (x4 : Int32) (x5 : Int32) (x6 : Int32) (M : zMe) : Option (Int32 × zMe) :=
  if x6 = 4 then (
    zlet (x4 - x4 / 2 * 2) fun v1 =>
    if v1 = 0 then (
      f_X12_go_b45 x2 M)
    else (
      f_X12_go_b47 x0 x2 x3 x4 x5 x6 M))
  else (
    f_X12_go_b47 x0 x2 x3 x4 x5 x6 M)
set_option maxHeartbeats 4000000 in
set_option maxRecDepth 100000 in
theorem s_X12_go_b32 {g : zG} (hC : zC g)  (x0 : Nat) (x2 : Int32) (x3 : Int32) (x4 : Int32) (x5 : Int32) (x6 : Int32) (M : zMe) (q : (Int32 × zMe)) (h : f_X12_go_b32  x0 x2 x3 x4 x5 x6 M = some q) : zW g mX12_go 32 [.ref x0, .retAddr 0, .int x2, .int x3, .int x4, .int x5, .int x6, .retAddr 0, .retAddr 0, .retAddr 0] [] M (some (.int q.1)) q.2 := by
  unfold f_X12_go_b32 at h
  refine z_iload (x := x6) rfl dX12_go_32 ?_
  refine z_iconst 4 (by decide) dX12_go_34 ?_
  refine z_icmp_ne (tgt := 47) dX12_go_35 (by decide) (fun c1 => ?_) (fun c1 => ?_)
  · have h := zife h c1
    exact s_X12_go_b47 hC _ _ _ _ _ _ _ _ h
  · have h := zift h c1
    refine z_iload (x := x4) rfl dX12_go_38 ?_
    refine z_iconst 2 (by decide) dX12_go_40 ?_
    refine z_irem (by decide) dX12_go_41 ?_
    refine z_nameI (fun v1 hv => ?_)
    have h := zlet_use h hv
    clear hv
    refine z_if_ne (tgt := 47) dX12_go_42 (by decide) (fun c2 => ?_) (fun c2 => ?_)
    · have h := zife h c2
      exact s_X12_go_b47 hC _ _ _ _ _ _ _ _ h
    · have h := zift h c2
      refine zweak [false, false, true, false, false, false, false, false, false, false] ?_
      exact s_X12_go_b45 hC _ _ _ h
def f_X12_go (x0 : Nat) (x1 : Int32) (x2 : Int32) (x3 : Int32) (x4 : Int32) (M : zMe) : Option (Int32 × zMe) :=
  zlet (7 + (6 * x1) : Int32) fun v1 =>
  (zgN M x0 [12] 0).bind fun a1 =>
  (zrI M a1 v1).bind fun v2 =>
  if v2 = 1 then (
    zlet (x4 - x4 / 2 * 2) fun v3 =>
    if v3 = 1 then (
      f_X12_go_b45 x2 M)
    else (
      f_X12_go_b32 x0 x2 x3 x4 v1 v2 M))
  else (
    f_X12_go_b32 x0 x2 x3 x4 v1 v2 M)
set_option maxHeartbeats 4000000 in
set_option maxRecDepth 100000 in
theorem s_X12_go {g : zG} (hC : zC g) {x0 : Nat} {x1 : Int32} {x2 : Int32} {x3 : Int32} {x4 : Int32} {M : zMe} {q : (Int32 × zMe)} (h : f_X12_go x0 x1 x2 x3 x4 M = some q) : zMet g yX12_go mX12_go [.ref x0, .int x1, .int x2, .int x3, .int x4] M (some (.int q.1)) q.2 := by
  refine z_entry (by decide +kernel) rfl rfl (Nat.le_of_ble_eq_true rfl) ?_
  refine zeqL (L2 := [.ref x0, .int x1, .int x2, .int x3, .int x4, .retAddr 0, .retAddr 0, .retAddr 0, .retAddr 0, .retAddr 0]) rfl ?_
  unfold f_X12_go at h
  refine z_bipush 7 (by decide) dX12_go_0 ?_
  refine z_bipush 6 (by decide) dX12_go_2 ?_
  refine z_iload_n (x := x1) rfl dX12_go_4 ?_
  refine z_imul dX12_go_5 ?_
  refine z_iadd dX12_go_6 ?_
  refine z_nameI (fun v1 hv => ?_)
  have h := zlet_use h hv
  clear hv
  refine z_istore dX12_go_7 (by decide) ?_
  refine zeqL (L2 := [.ref x0, .int x1, .int x2, .int x3, .int x4, .int v1, .retAddr 0, .retAddr 0, .retAddr 0, .retAddr 0]) rfl ?_
  refine z_aload_n (x := x0) rfl dX12_go_9 ?_
  obtain ⟨a1, h1, h⟩ := zbind h
  refine z_gN hC fs_X12_7 h1 dX12_go_10 ?_
  refine z_iload (x := v1) rfl dX12_go_13 ?_
  obtain ⟨v2, h2, h⟩ := zbind h
  refine z_rI h2 dX12_go_15 ?_
  refine z_istore dX12_go_16 (by decide) ?_
  refine zeqL (L2 := [.ref x0, .int x1, .int x2, .int x3, .int x4, .int v1, .int v2, .retAddr 0, .retAddr 0, .retAddr 0]) rfl ?_
  refine z_iload (x := v2) rfl dX12_go_18 ?_
  refine z_iconst 1 (by decide) dX12_go_20 ?_
  refine z_icmp_ne (tgt := 32) dX12_go_21 (by decide) (fun c1 => ?_) (fun c1 => ?_)
  · have h := zife h c1
    refine zweak [true, false, true, true, true, true, true, false, false, false] ?_
    exact s_X12_go_b32 hC _ _ _ _ _ _ _ _ h
  · have h := zift h c1
    refine z_iload (x := x4) rfl dX12_go_24 ?_
    refine z_iconst 2 (by decide) dX12_go_26 ?_
    refine z_irem (by decide) dX12_go_27 ?_
    refine z_nameI (fun v3 hv => ?_)
    have h := zlet_use h hv
    clear hv
    refine z_iconst 1 (by decide) dX12_go_28 ?_
    refine z_icmp_eq (tgt := 45) dX12_go_29 (by decide) (fun c2 => ?_) (fun c2 => ?_)
    · have h := zift h c2
      refine zweak [false, false, true, false, false, false, false, false, false, false] ?_
      exact s_X12_go_b45 hC _ _ _ h
    · have h := zife h c2
      refine zweak [true, false, true, true, true, true, true, false, false, false] ?_
      exact s_X12_go_b32 hC _ _ _ _ _ _ _ _ h
def f_X12_goes_b52  (y0 : Int32) (M : zMe) : Option (Int32 × zMe) :=
  some (y0, M)
set_option maxHeartbeats 4000000 in
set_option maxRecDepth 100000 in
theorem s_X12_goes_b52 {g : zG} (hC : zC g)  (y0 : Int32) (M : zMe) (q : (Int32 × zMe)) (h : f_X12_goes_b52  y0 M = some q) : zW g mX12_goes 52 [.retAddr 0, .retAddr 0, .retAddr 0, .retAddr 0, .retAddr 0] [.int y0] M (some (.int q.1)) q.2 := by
  unfold f_X12_goes_b52 at h
  obtain rfl := Option.some.inj h
  exact z_iret ⟨.int, rfl, rfl⟩ dX12_goes_52
def f_X12_goes_b48  (x0 : Nat) (M : zMe) : Option (Int32 × zMe) :=
  (zob M x0 12).bind fun _ =>
  (f_X12_bad x0 M).bind fun q1 =>
  f_X12_goes_b52 q1.1 q1.2
set_option maxHeartbeats 4000000 in
set_option maxRecDepth 100000 in
theorem s_X12_goes_b48 {g : zG} (hC : zC g)  (x0 : Nat) (M : zMe) (q : (Int32 × zMe)) (h : f_X12_goes_b48  x0 M = some q) : zW g mX12_goes 48 [.ref x0, .retAddr 0, .retAddr 0, .retAddr 0, .retAddr 0] [] M (some (.int q.1)) q.2 := by
  unfold f_X12_goes_b48 at h
  refine z_aload_n (x := x0) rfl dX12_goes_48 ?_
  obtain ⟨_, hb, h⟩ := zbind h
  obtain ⟨fs, hb⟩ := zob_some hb
  obtain ⟨q1, h1, h⟩ := zbind h
  refine z_callV (av := []) (rest := []) hC zcl_12 hb (s_X12_bad hC h1) lk_X12_61 im_X12_bad se_X12_bad cd_X12_bad ⟨by decide, by decide, (Nat.le_of_ble_eq_true rfl)⟩ dX12_goes_49 ?_
  clear hb fs
  refine zeqS (stk2 := [.int q1.1]) rfl ?_
  refine zweak [false, false, false, false, false] ?_
  exact s_X12_goes_b52 hC _ _ _ h
def f_X12_goes (x0 : Nat) (x1 : Int32) (x2 : Int32) (x3 : Int32) (x4 : Int32) (M : zMe) : Option (Int32 × zMe) :=
  (zob M x0 12).bind fun _ =>
  (f_X12_isDog x0 x1 M).bind fun q1 =>
  if q1.1 = 0 then (
    f_X12_goes_b48 x0 q1.2)
  else (
    (zob q1.2 x0 12).bind fun _ =>
    (f_X12_isPlace x0 x2 q1.2).bind fun q2 =>
    if q2.1 = 0 then (
      f_X12_goes_b48 x0 q2.2)
    else (
      (f_X12_in x3 0 1 q2.2).bind fun q3 =>
      if q3.1 = 0 then (
        f_X12_goes_b48 x0 q3.2)
      else (
        (f_X12_in x4 0 99 q3.2).bind fun q4 =>
        if q4.1 = 0 then (
          f_X12_goes_b48 x0 q4.2)
        else (
          (zob q4.2 x0 12).bind fun _ =>
          (f_X12_go x0 x1 x2 x3 x4 q4.2).bind fun q5 =>
          f_X12_goes_b52 q5.1 q5.2))))
set_option maxHeartbeats 4000000 in
set_option maxRecDepth 100000 in
theorem s_X12_goes {g : zG} (hC : zC g) {x0 : Nat} {x1 : Int32} {x2 : Int32} {x3 : Int32} {x4 : Int32} {M : zMe} {q : (Int32 × zMe)} (h : f_X12_goes x0 x1 x2 x3 x4 M = some q) : zMet g yX12_goes mX12_goes [.ref x0, .int x1, .int x2, .int x3, .int x4] M (some (.int q.1)) q.2 := by
  refine z_entry (by decide +kernel) rfl rfl (Nat.le_of_ble_eq_true rfl) ?_
  refine zeqL (L2 := [.ref x0, .int x1, .int x2, .int x3, .int x4]) rfl ?_
  unfold f_X12_goes at h
  refine z_aload_n (x := x0) rfl dX12_goes_0 ?_
  refine z_iload_n (x := x1) rfl dX12_goes_1 ?_
  obtain ⟨_, hb, h⟩ := zbind h
  obtain ⟨fs, hb⟩ := zob_some hb
  obtain ⟨q1, h1, h⟩ := zbind h
  refine z_callV (av := [.int x1]) (rest := []) hC zcl_12 hb (s_X12_isDog hC h1) lk_X12_140 im_X12_isDog se_X12_isDog cd_X12_isDog ⟨by decide, by decide, (Nat.le_of_ble_eq_true rfl)⟩ dX12_goes_2 ?_
  clear hb fs
  refine zeqS (stk2 := [.int q1.1]) rfl ?_
  refine z_if_eq (tgt := 48) dX12_goes_5 (by decide) (fun c1 => ?_) (fun c1 => ?_)
  · have h := zift h c1
    refine zweak [true, false, false, false, false] ?_
    exact s_X12_goes_b48 hC _ _ _ h
  · have h := zife h c1
    refine z_aload_n (x := x0) rfl dX12_goes_8 ?_
    refine z_iload_n (x := x2) rfl dX12_goes_9 ?_
    obtain ⟨_, hb, h⟩ := zbind h
    obtain ⟨fs, hb⟩ := zob_some hb
    obtain ⟨q2, h2, h⟩ := zbind h
    refine z_callV (av := [.int x2]) (rest := []) hC zcl_12 hb (s_X12_isPlace hC h2) lk_X12_73 im_X12_isPlace se_X12_isPlace cd_X12_isPlace ⟨by decide, by decide, (Nat.le_of_ble_eq_true rfl)⟩ dX12_goes_10 ?_
    clear hb fs
    refine zeqS (stk2 := [.int q2.1]) rfl ?_
    refine z_if_eq (tgt := 48) dX12_goes_13 (by decide) (fun c2 => ?_) (fun c2 => ?_)
    · have h := zift h c2
      refine zweak [true, false, false, false, false] ?_
      exact s_X12_goes_b48 hC _ _ _ h
    · have h := zife h c2
      refine z_iload_n (x := x3) rfl dX12_goes_16 ?_
      refine z_iconst 0 (by decide) dX12_goes_17 ?_
      refine z_iconst 1 (by decide) dX12_goes_18 ?_
      obtain ⟨q3, h3, h⟩ := zbind h
      refine z_callS (av := [.int x3, .int 0, .int 1]) (rest := []) hC (s_X12_in hC h3) lk_X12_57 st_X12_in cd_X12_in ⟨by decide, by decide, (Nat.le_of_ble_eq_true rfl)⟩ dX12_goes_19 ?_
      refine zeqS (stk2 := [.int q3.1]) rfl ?_
      refine z_if_eq (tgt := 48) dX12_goes_22 (by decide) (fun c3 => ?_) (fun c3 => ?_)
      · have h := zift h c3
        refine zweak [true, false, false, false, false] ?_
        exact s_X12_goes_b48 hC _ _ _ h
      · have h := zife h c3
        refine z_iload (x := x4) rfl dX12_goes_25 ?_
        refine z_iconst 0 (by decide) dX12_goes_27 ?_
        refine z_bipush 99 (by decide) dX12_goes_28 ?_
        obtain ⟨q4, h4, h⟩ := zbind h
        refine z_callS (av := [.int x4, .int 0, .int 99]) (rest := []) hC (s_X12_in hC h4) lk_X12_57 st_X12_in cd_X12_in ⟨by decide, by decide, (Nat.le_of_ble_eq_true rfl)⟩ dX12_goes_30 ?_
        refine zeqS (stk2 := [.int q4.1]) rfl ?_
        refine z_if_eq (tgt := 48) dX12_goes_33 (by decide) (fun c4 => ?_) (fun c4 => ?_)
        · have h := zift h c4
          refine zweak [true, false, false, false, false] ?_
          exact s_X12_goes_b48 hC _ _ _ h
        · have h := zife h c4
          refine z_aload_n (x := x0) rfl dX12_goes_36 ?_
          refine z_iload_n (x := x1) rfl dX12_goes_37 ?_
          refine z_iload_n (x := x2) rfl dX12_goes_38 ?_
          refine z_iload_n (x := x3) rfl dX12_goes_39 ?_
          refine z_iload (x := x4) rfl dX12_goes_40 ?_
          obtain ⟨_, hb, h⟩ := zbind h
          obtain ⟨fs, hb⟩ := zob_some hb
          obtain ⟨q5, h5, h⟩ := zbind h
          refine z_callV (av := [.int x1, .int x2, .int x3, .int x4]) (rest := []) hC zcl_12 hb (s_X12_go hC h5) lk_X12_143 im_X12_go se_X12_go cd_X12_go ⟨by decide, by decide, (Nat.le_of_ble_eq_true rfl)⟩ dX12_goes_42 ?_
          clear hb fs
          refine zeqS (stk2 := [.int q5.1]) rfl ?_
          refine z_goto (tgt := 52) dX12_goes_45 (by decide) ?_
          refine zweak [false, false, false, false, false] ?_
          exact s_X12_goes_b52 hC _ _ _ h
def f_X12_ran_b6  : Nat → Nat → Int32 → Int32 → Int32 → Int32 → Int32 → zMe → Option (Int32 × zMe)
  | 0, _, _, _, _, _, _, _ => none
  | n + 1, x0, x1, x3, x4, x5, x6, M =>
    if x4 ≤ x6 then (
      some (x5, M))
    else (
      (zob M x0 12).bind fun _ =>
      (f_X12_go x0 x1 x5 ((x3 >>> (x6 &&& 31)) &&& 1) x6 M).bind fun q1 =>
      zlet (x6 + 1) fun v1 =>
      f_X12_ran_b6 n x0 x1 x3 x4 q1.1 v1 q1.2)
set_option maxHeartbeats 4000000 in
set_option maxRecDepth 100000 in
theorem s_X12_ran_b6 {g : zG} (hC : zC g)  : ∀ (n : Nat) (x0 : Nat) (x1 : Int32) (x3 : Int32) (x4 : Int32) (x5 : Int32) (x6 : Int32) (M : zMe) (q : (Int32 × zMe)), f_X12_ran_b6  n x0 x1 x3 x4 x5 x6 M = some q → zW g mX12_ran 6 [.ref x0, .int x1, .retAddr 0, .int x3, .int x4, .int x5, .int x6] [] M (some (.int q.1)) q.2 := by
  intro n
  induction n with
  | zero => intro x0 x1 x3 x4 x5 x6 M q h; cases h
  | succ n ih =>
    intro x0 x1 x3 x4 x5 x6 M q h
    rw [f_X12_ran_b6] at h
    refine z_iload (x := x6) rfl dX12_ran_6 ?_
    refine z_iload (x := x4) rfl dX12_ran_8 ?_
    refine z_icmp_ge (tgt := 36) dX12_ran_10 (by decide) (fun c1 => ?_) (fun c1 => ?_)
    · have h := zift h c1
      refine z_iload (x := x5) rfl dX12_ran_36 ?_
      obtain rfl := Option.some.inj h
      exact z_iret ⟨.int, rfl, rfl⟩ dX12_ran_38
    · have h := zife h c1
      refine z_aload_n (x := x0) rfl dX12_ran_13 ?_
      refine z_iload_n (x := x1) rfl dX12_ran_14 ?_
      refine z_iload (x := x5) rfl dX12_ran_15 ?_
      refine z_iload_n (x := x3) rfl dX12_ran_17 ?_
      refine z_iload (x := x6) rfl dX12_ran_18 ?_
      refine z_ishr dX12_ran_20 ?_
      refine z_iconst 1 (by decide) dX12_ran_21 ?_
      refine z_iand dX12_ran_22 ?_
      refine z_iload (x := x6) rfl dX12_ran_23 ?_
      obtain ⟨_, hb, h⟩ := zbind h
      obtain ⟨fs, hb⟩ := zob_some hb
      obtain ⟨q1, h1, h⟩ := zbind h
      refine z_callV (av := [.int x1, .int x5, .int ((x3 >>> (x6 &&& 31)) &&& 1), .int x6]) (rest := []) hC zcl_12 hb (s_X12_go hC h1) lk_X12_143 im_X12_go se_X12_go cd_X12_go ⟨by decide, by decide, (Nat.le_of_ble_eq_true rfl)⟩ dX12_ran_25 ?_
      clear hb fs
      refine zeqS (stk2 := [.int q1.1]) rfl ?_
      refine z_istore dX12_ran_28 (by decide) ?_
      refine zeqL (L2 := [.ref x0, .int x1, .retAddr 0, .int x3, .int x4, .int q1.1, .int x6]) rfl ?_
      obtain ⟨v1, hv⟩ : ∃ z : Int32, z = x6 + 1 := ⟨_, rfl⟩
      have h := zlet_use h hv
      refine z_iinc (v := v1) dX12_ran_30 (x := x6) rfl (by rw [hv]; rfl) ?_
      clear hv
      refine zeqL (L2 := [.ref x0, .int x1, .retAddr 0, .int x3, .int x4, .int q1.1, .int v1]) rfl ?_
      refine z_goto (tgt := 6) dX12_ran_33 (by decide) ?_
      exact ih _ _ _ _ _ _ _ _ h
def f_X12_ran (x0 : Nat) (x1 : Int32) (x2 : Int32) (x3 : Int32) (x4 : Int32) (M : zMe) : Option (Int32 × zMe) :=
  f_X12_ran_b6 zfu x0 x1 x3 x4 x2 0 M
set_option maxHeartbeats 4000000 in
set_option maxRecDepth 100000 in
theorem s_X12_ran {g : zG} (hC : zC g) {x0 : Nat} {x1 : Int32} {x2 : Int32} {x3 : Int32} {x4 : Int32} {M : zMe} {q : (Int32 × zMe)} (h : f_X12_ran x0 x1 x2 x3 x4 M = some q) : zMet g yX12_ran mX12_ran [.ref x0, .int x1, .int x2, .int x3, .int x4] M (some (.int q.1)) q.2 := by
  refine z_entry (by decide +kernel) rfl rfl (Nat.le_of_ble_eq_true rfl) ?_
  refine zeqL (L2 := [.ref x0, .int x1, .int x2, .int x3, .int x4, .retAddr 0, .retAddr 0]) rfl ?_
  unfold f_X12_ran at h
  refine z_iload_n (x := x2) rfl dX12_ran_0 ?_
  refine z_istore dX12_ran_1 (by decide) ?_
  refine zeqL (L2 := [.ref x0, .int x1, .int x2, .int x3, .int x4, .int x2, .retAddr 0]) rfl ?_
  refine z_iconst 0 (by decide) dX12_ran_3 ?_
  refine z_istore dX12_ran_4 (by decide) ?_
  refine zeqL (L2 := [.ref x0, .int x1, .int x2, .int x3, .int x4, .int x2, .int 0]) rfl ?_
  refine zweak [true, true, false, true, true, true, true] ?_
  exact s_X12_ran_b6 hC _ _ _ _ _ _ _ _ _ h
def f_X12_run_b53  (y0 : Int32) (M : zMe) : Option (Int32 × zMe) :=
  some (y0, M)
set_option maxHeartbeats 4000000 in
set_option maxRecDepth 100000 in
theorem s_X12_run_b53 {g : zG} (hC : zC g)  (y0 : Int32) (M : zMe) (q : (Int32 × zMe)) (h : f_X12_run_b53  y0 M = some q) : zW g mX12_run 53 [.retAddr 0, .retAddr 0, .retAddr 0, .retAddr 0, .retAddr 0] [.int y0] M (some (.int q.1)) q.2 := by
  unfold f_X12_run_b53 at h
  obtain rfl := Option.some.inj h
  exact z_iret ⟨.int, rfl, rfl⟩ dX12_run_53
def f_X12_run_b49  (x0 : Nat) (M : zMe) : Option (Int32 × zMe) :=
  (zob M x0 12).bind fun _ =>
  (f_X12_bad x0 M).bind fun q1 =>
  f_X12_run_b53 q1.1 q1.2
set_option maxHeartbeats 4000000 in
set_option maxRecDepth 100000 in
theorem s_X12_run_b49 {g : zG} (hC : zC g)  (x0 : Nat) (M : zMe) (q : (Int32 × zMe)) (h : f_X12_run_b49  x0 M = some q) : zW g mX12_run 49 [.ref x0, .retAddr 0, .retAddr 0, .retAddr 0, .retAddr 0] [] M (some (.int q.1)) q.2 := by
  unfold f_X12_run_b49 at h
  refine z_aload_n (x := x0) rfl dX12_run_49 ?_
  obtain ⟨_, hb, h⟩ := zbind h
  obtain ⟨fs, hb⟩ := zob_some hb
  obtain ⟨q1, h1, h⟩ := zbind h
  refine z_callV (av := []) (rest := []) hC zcl_12 hb (s_X12_bad hC h1) lk_X12_61 im_X12_bad se_X12_bad cd_X12_bad ⟨by decide, by decide, (Nat.le_of_ble_eq_true rfl)⟩ dX12_run_50 ?_
  clear hb fs
  refine zeqS (stk2 := [.int q1.1]) rfl ?_
  refine zweak [false, false, false, false, false] ?_
  exact s_X12_run_b53 hC _ _ _ h
def f_X12_run (x0 : Nat) (x1 : Int32) (x2 : Int32) (x3 : Int32) (x4 : Int32) (M : zMe) : Option (Int32 × zMe) :=
  (zob M x0 12).bind fun _ =>
  (f_X12_isDog x0 x1 M).bind fun q1 =>
  if q1.1 = 0 then (
    f_X12_run_b49 x0 q1.2)
  else (
    (zob q1.2 x0 12).bind fun _ =>
    (f_X12_isPlace x0 x2 q1.2).bind fun q2 =>
    if q2.1 = 0 then (
      f_X12_run_b49 x0 q2.2)
    else (
      (f_X12_in x4 0 20 q2.2).bind fun q3 =>
      if q3.1 = 0 then (
        f_X12_run_b49 x0 q3.2)
      else (
        (zob q3.2 x0 12).bind fun _ =>
        (f_X12_isTune x0 x3 x4 q3.2).bind fun q4 =>
        if q4.1 = 0 then (
          f_X12_run_b49 x0 q4.2)
        else (
          (zob q4.2 x0 12).bind fun _ =>
          (f_X12_ran x0 x1 x2 x3 x4 q4.2).bind fun q5 =>
          f_X12_run_b53 q5.1 q5.2))))
set_option maxHeartbeats 4000000 in
set_option maxRecDepth 100000 in
theorem s_X12_run {g : zG} (hC : zC g) {x0 : Nat} {x1 : Int32} {x2 : Int32} {x3 : Int32} {x4 : Int32} {M : zMe} {q : (Int32 × zMe)} (h : f_X12_run x0 x1 x2 x3 x4 M = some q) : zMet g yX12_run mX12_run [.ref x0, .int x1, .int x2, .int x3, .int x4] M (some (.int q.1)) q.2 := by
  refine z_entry (by decide +kernel) rfl rfl (Nat.le_of_ble_eq_true rfl) ?_
  refine zeqL (L2 := [.ref x0, .int x1, .int x2, .int x3, .int x4]) rfl ?_
  unfold f_X12_run at h
  refine z_aload_n (x := x0) rfl dX12_run_0 ?_
  refine z_iload_n (x := x1) rfl dX12_run_1 ?_
  obtain ⟨_, hb, h⟩ := zbind h
  obtain ⟨fs, hb⟩ := zob_some hb
  obtain ⟨q1, h1, h⟩ := zbind h
  refine z_callV (av := [.int x1]) (rest := []) hC zcl_12 hb (s_X12_isDog hC h1) lk_X12_140 im_X12_isDog se_X12_isDog cd_X12_isDog ⟨by decide, by decide, (Nat.le_of_ble_eq_true rfl)⟩ dX12_run_2 ?_
  clear hb fs
  refine zeqS (stk2 := [.int q1.1]) rfl ?_
  refine z_if_eq (tgt := 49) dX12_run_5 (by decide) (fun c1 => ?_) (fun c1 => ?_)
  · have h := zift h c1
    refine zweak [true, false, false, false, false] ?_
    exact s_X12_run_b49 hC _ _ _ h
  · have h := zife h c1
    refine z_aload_n (x := x0) rfl dX12_run_8 ?_
    refine z_iload_n (x := x2) rfl dX12_run_9 ?_
    obtain ⟨_, hb, h⟩ := zbind h
    obtain ⟨fs, hb⟩ := zob_some hb
    obtain ⟨q2, h2, h⟩ := zbind h
    refine z_callV (av := [.int x2]) (rest := []) hC zcl_12 hb (s_X12_isPlace hC h2) lk_X12_73 im_X12_isPlace se_X12_isPlace cd_X12_isPlace ⟨by decide, by decide, (Nat.le_of_ble_eq_true rfl)⟩ dX12_run_10 ?_
    clear hb fs
    refine zeqS (stk2 := [.int q2.1]) rfl ?_
    refine z_if_eq (tgt := 49) dX12_run_13 (by decide) (fun c2 => ?_) (fun c2 => ?_)
    · have h := zift h c2
      refine zweak [true, false, false, false, false] ?_
      exact s_X12_run_b49 hC _ _ _ h
    · have h := zife h c2
      refine z_iload (x := x4) rfl dX12_run_16 ?_
      refine z_iconst 0 (by decide) dX12_run_18 ?_
      refine z_bipush 20 (by decide) dX12_run_19 ?_
      obtain ⟨q3, h3, h⟩ := zbind h
      refine z_callS (av := [.int x4, .int 0, .int 20]) (rest := []) hC (s_X12_in hC h3) lk_X12_57 st_X12_in cd_X12_in ⟨by decide, by decide, (Nat.le_of_ble_eq_true rfl)⟩ dX12_run_21 ?_
      refine zeqS (stk2 := [.int q3.1]) rfl ?_
      refine z_if_eq (tgt := 49) dX12_run_24 (by decide) (fun c3 => ?_) (fun c3 => ?_)
      · have h := zift h c3
        refine zweak [true, false, false, false, false] ?_
        exact s_X12_run_b49 hC _ _ _ h
      · have h := zife h c3
        refine z_aload_n (x := x0) rfl dX12_run_27 ?_
        refine z_iload_n (x := x3) rfl dX12_run_28 ?_
        refine z_iload (x := x4) rfl dX12_run_29 ?_
        obtain ⟨_, hb, h⟩ := zbind h
        obtain ⟨fs, hb⟩ := zob_some hb
        obtain ⟨q4, h4, h⟩ := zbind h
        refine z_callV (av := [.int x3, .int x4]) (rest := []) hC zcl_12 hb (s_X12_isTune hC h4) lk_X12_147 im_X12_isTune se_X12_isTune cd_X12_isTune ⟨by decide, by decide, (Nat.le_of_ble_eq_true rfl)⟩ dX12_run_31 ?_
        clear hb fs
        refine zeqS (stk2 := [.int q4.1]) rfl ?_
        refine z_if_eq (tgt := 49) dX12_run_34 (by decide) (fun c4 => ?_) (fun c4 => ?_)
        · have h := zift h c4
          refine zweak [true, false, false, false, false] ?_
          exact s_X12_run_b49 hC _ _ _ h
        · have h := zife h c4
          refine z_aload_n (x := x0) rfl dX12_run_37 ?_
          refine z_iload_n (x := x1) rfl dX12_run_38 ?_
          refine z_iload_n (x := x2) rfl dX12_run_39 ?_
          refine z_iload_n (x := x3) rfl dX12_run_40 ?_
          refine z_iload (x := x4) rfl dX12_run_41 ?_
          obtain ⟨_, hb, h⟩ := zbind h
          obtain ⟨fs, hb⟩ := zob_some hb
          obtain ⟨q5, h5, h⟩ := zbind h
          refine z_callV (av := [.int x1, .int x2, .int x3, .int x4]) (rest := []) hC zcl_12 hb (s_X12_ran hC h5) lk_X12_151 im_X12_ran se_X12_ran cd_X12_ran ⟨by decide, by decide, (Nat.le_of_ble_eq_true rfl)⟩ dX12_run_43 ?_
          clear hb fs
          refine zeqS (stk2 := [.int q5.1]) rfl ?_
          refine z_goto (tgt := 53) dX12_run_46 (by decide) ?_
          refine zweak [false, false, false, false, false] ?_
          exact s_X12_run_b53 hC _ _ _ h
def f_X12_meets_b38  : Nat → Nat → Int32 → Int32 → Int32 → Int32 → Int32 → zMe → Option (Int32 × zMe)
  | 0, _, _, _, _, _, _, _ => none
  | n + 1, x0, x1, x2, x3, x4, x5, M =>
    (zgN M x0 [12] 0).bind fun a1 =>
    (zrI M a1 0).bind fun v1 =>
    if v1 ≤ x5 then (
      some (x4, M))
    else (
      (zob M x0 12).bind fun _ =>
      (f_X12_ran x0 x1 x5 x2 x3 M).bind fun q1 =>
      zlet (x4 ||| ((1 : Int32) <<< (q1.1 &&& 31)) : Int32) fun v2 =>
      zlet (x5 + 1) fun v3 =>
      f_X12_meets_b38 n x0 x1 x2 x3 v2 v3 q1.2)
set_option maxHeartbeats 4000000 in
set_option maxRecDepth 100000 in
theorem s_X12_meets_b38 {g : zG} (hC : zC g)  : ∀ (n : Nat) (x0 : Nat) (x1 : Int32) (x2 : Int32) (x3 : Int32) (x4 : Int32) (x5 : Int32) (M : zMe) (q : (Int32 × zMe)), f_X12_meets_b38  n x0 x1 x2 x3 x4 x5 M = some q → zW g mX12_meets 38 [.ref x0, .int x1, .int x2, .int x3, .int x4, .int x5] [] M (some (.int q.1)) q.2 := by
  intro n
  induction n with
  | zero => intro x0 x1 x2 x3 x4 x5 M q h; cases h
  | succ n ih =>
    intro x0 x1 x2 x3 x4 x5 M q h
    rw [f_X12_meets_b38] at h
    refine z_iload (x := x5) rfl dX12_meets_38 ?_
    refine z_aload_n (x := x0) rfl dX12_meets_40 ?_
    obtain ⟨a1, h1, h⟩ := zbind h
    refine z_gN hC fs_X12_7 h1 dX12_meets_41 ?_
    refine z_iconst 0 (by decide) dX12_meets_44 ?_
    obtain ⟨v1, h2, h⟩ := zbind h
    refine z_rI h2 dX12_meets_45 ?_
    refine z_icmp_ge (tgt := 71) dX12_meets_46 (by decide) (fun c1 => ?_) (fun c1 => ?_)
    · have h := zift h c1
      refine z_iload (x := x4) rfl dX12_meets_71 ?_
      obtain rfl := Option.some.inj h
      exact z_iret ⟨.int, rfl, rfl⟩ dX12_meets_73
    · have h := zife h c1
      refine z_iload (x := x4) rfl dX12_meets_49 ?_
      refine z_iconst 1 (by decide) dX12_meets_51 ?_
      refine z_aload_n (x := x0) rfl dX12_meets_52 ?_
      refine z_iload_n (x := x1) rfl dX12_meets_53 ?_
      refine z_iload (x := x5) rfl dX12_meets_54 ?_
      refine z_iload_n (x := x2) rfl dX12_meets_56 ?_
      refine z_iload_n (x := x3) rfl dX12_meets_57 ?_
      obtain ⟨_, hb, h⟩ := zbind h
      obtain ⟨fs, hb⟩ := zob_some hb
      obtain ⟨q1, h3, h⟩ := zbind h
      refine z_callV (av := [.int x1, .int x5, .int x2, .int x3]) (rest := [.int 1, .int x4]) hC zcl_12 hb (s_X12_ran hC h3) lk_X12_151 im_X12_ran se_X12_ran cd_X12_ran ⟨by decide, by decide, (Nat.le_of_ble_eq_true rfl)⟩ dX12_meets_58 ?_
      clear hb fs
      refine zeqS (stk2 := [.int q1.1, .int 1, .int x4]) rfl ?_
      refine z_ishl dX12_meets_61 ?_
      refine z_ior dX12_meets_62 ?_
      refine z_nameI (fun v2 hv => ?_)
      have h := zlet_use h hv
      clear hv
      refine z_istore dX12_meets_63 (by decide) ?_
      refine zeqL (L2 := [.ref x0, .int x1, .int x2, .int x3, .int v2, .int x5]) rfl ?_
      obtain ⟨v3, hv⟩ : ∃ z : Int32, z = x5 + 1 := ⟨_, rfl⟩
      have h := zlet_use h hv
      refine z_iinc (v := v3) dX12_meets_65 (x := x5) rfl (by rw [hv]; rfl) ?_
      clear hv
      refine zeqL (L2 := [.ref x0, .int x1, .int x2, .int x3, .int v2, .int v3]) rfl ?_
      refine z_goto (tgt := 38) dX12_meets_68 (by decide) ?_
      exact ih _ _ _ _ _ _ _ _ h
def f_X12_meets_b27  (x0 : Nat) (M : zMe) : Option (Int32 × zMe) :=
  (zob M x0 12).bind fun _ =>
  (f_X12_bad x0 M).bind fun q1 =>
  some (q1.1, q1.2)
set_option maxHeartbeats 4000000 in
set_option maxRecDepth 100000 in
theorem s_X12_meets_b27 {g : zG} (hC : zC g)  (x0 : Nat) (M : zMe) (q : (Int32 × zMe)) (h : f_X12_meets_b27  x0 M = some q) : zW g mX12_meets 27 [.ref x0, .retAddr 0, .retAddr 0, .retAddr 0, .retAddr 0, .retAddr 0] [] M (some (.int q.1)) q.2 := by
  unfold f_X12_meets_b27 at h
  refine z_aload_n (x := x0) rfl dX12_meets_27 ?_
  obtain ⟨_, hb, h⟩ := zbind h
  obtain ⟨fs, hb⟩ := zob_some hb
  obtain ⟨q1, h1, h⟩ := zbind h
  refine z_callV (av := []) (rest := []) hC zcl_12 hb (s_X12_bad hC h1) lk_X12_61 im_X12_bad se_X12_bad cd_X12_bad ⟨by decide, by decide, (Nat.le_of_ble_eq_true rfl)⟩ dX12_meets_28 ?_
  clear hb fs
  refine zeqS (stk2 := [.int q1.1]) rfl ?_
  obtain rfl := Option.some.inj h
  exact z_iret ⟨.int, rfl, rfl⟩ dX12_meets_31
def f_X12_meets (x0 : Nat) (x1 : Int32) (x2 : Int32) (x3 : Int32) (M : zMe) : Option (Int32 × zMe) :=
  (zob M x0 12).bind fun _ =>
  (f_X12_isDog x0 x1 M).bind fun q1 =>
  if q1.1 = 0 then (
    f_X12_meets_b27 x0 q1.2)
  else (
    (f_X12_in x3 0 20 q1.2).bind fun q2 =>
    if q2.1 = 0 then (
      f_X12_meets_b27 x0 q2.2)
    else (
      (zob q2.2 x0 12).bind fun _ =>
      (f_X12_isTune x0 x2 x3 q2.2).bind fun q3 =>
      if q3.1 = 0 then (
        f_X12_meets_b27 x0 q3.2)
      else (
        f_X12_meets_b38 zfu x0 x1 x2 x3 0 0 q3.2)))
set_option maxHeartbeats 4000000 in
set_option maxRecDepth 100000 in
theorem s_X12_meets {g : zG} (hC : zC g) {x0 : Nat} {x1 : Int32} {x2 : Int32} {x3 : Int32} {M : zMe} {q : (Int32 × zMe)} (h : f_X12_meets x0 x1 x2 x3 M = some q) : zMet g yX12_meets mX12_meets [.ref x0, .int x1, .int x2, .int x3] M (some (.int q.1)) q.2 := by
  refine z_entry (by decide +kernel) rfl rfl (Nat.le_of_ble_eq_true rfl) ?_
  refine zeqL (L2 := [.ref x0, .int x1, .int x2, .int x3, .retAddr 0, .retAddr 0]) rfl ?_
  unfold f_X12_meets at h
  refine z_aload_n (x := x0) rfl dX12_meets_0 ?_
  refine z_iload_n (x := x1) rfl dX12_meets_1 ?_
  obtain ⟨_, hb, h⟩ := zbind h
  obtain ⟨fs, hb⟩ := zob_some hb
  obtain ⟨q1, h1, h⟩ := zbind h
  refine z_callV (av := [.int x1]) (rest := []) hC zcl_12 hb (s_X12_isDog hC h1) lk_X12_140 im_X12_isDog se_X12_isDog cd_X12_isDog ⟨by decide, by decide, (Nat.le_of_ble_eq_true rfl)⟩ dX12_meets_2 ?_
  clear hb fs
  refine zeqS (stk2 := [.int q1.1]) rfl ?_
  refine z_if_eq (tgt := 27) dX12_meets_5 (by decide) (fun c1 => ?_) (fun c1 => ?_)
  · have h := zift h c1
    refine zweak [true, false, false, false, false, false] ?_
    exact s_X12_meets_b27 hC _ _ _ h
  · have h := zife h c1
    refine z_iload_n (x := x3) rfl dX12_meets_8 ?_
    refine z_iconst 0 (by decide) dX12_meets_9 ?_
    refine z_bipush 20 (by decide) dX12_meets_10 ?_
    obtain ⟨q2, h2, h⟩ := zbind h
    refine z_callS (av := [.int x3, .int 0, .int 20]) (rest := []) hC (s_X12_in hC h2) lk_X12_57 st_X12_in cd_X12_in ⟨by decide, by decide, (Nat.le_of_ble_eq_true rfl)⟩ dX12_meets_12 ?_
    refine zeqS (stk2 := [.int q2.1]) rfl ?_
    refine z_if_eq (tgt := 27) dX12_meets_15 (by decide) (fun c2 => ?_) (fun c2 => ?_)
    · have h := zift h c2
      refine zweak [true, false, false, false, false, false] ?_
      exact s_X12_meets_b27 hC _ _ _ h
    · have h := zife h c2
      refine z_aload_n (x := x0) rfl dX12_meets_18 ?_
      refine z_iload_n (x := x2) rfl dX12_meets_19 ?_
      refine z_iload_n (x := x3) rfl dX12_meets_20 ?_
      obtain ⟨_, hb, h⟩ := zbind h
      obtain ⟨fs, hb⟩ := zob_some hb
      obtain ⟨q3, h3, h⟩ := zbind h
      refine z_callV (av := [.int x2, .int x3]) (rest := []) hC zcl_12 hb (s_X12_isTune hC h3) lk_X12_147 im_X12_isTune se_X12_isTune cd_X12_isTune ⟨by decide, by decide, (Nat.le_of_ble_eq_true rfl)⟩ dX12_meets_21 ?_
      clear hb fs
      refine zeqS (stk2 := [.int q3.1]) rfl ?_
      refine z_if_ne (tgt := 32) dX12_meets_24 (by decide) (fun c3 => ?_) (fun c3 => ?_)
      · have h := zife h c3
        refine z_iconst 0 (by decide) dX12_meets_32 ?_
        refine z_istore dX12_meets_33 (by decide) ?_
        refine zeqL (L2 := [.ref x0, .int x1, .int x2, .int x3, .int 0, .retAddr 0]) rfl ?_
        refine z_iconst 0 (by decide) dX12_meets_35 ?_
        refine z_istore dX12_meets_36 (by decide) ?_
        refine zeqL (L2 := [.ref x0, .int x1, .int x2, .int x3, .int 0, .int 0]) rfl ?_
        exact s_X12_meets_b38 hC _ _ _ _ _ _ _ _ _ h
      · have h := zift h c3
        refine zweak [true, false, false, false, false, false] ?_
        exact s_X12_meets_b27 hC _ _ _ h
def f_X12_after_b70 (k6 : Nat → Int32 → Int32 → Int32 → Int32 → Int32 → zMe → Option (Int32 × zMe)) (k21 : Nat → Int32 → Int32 → Int32 → Int32 → Int32 → Int32 → zMe → Option (Int32 × zMe)) (x0 : Nat) (x1 : Int32) (x2 : Int32) (x3 : Int32) (x5 : Int32) (x6 : Int32) (y0 : Int32) (y1 : Int32) (M : zMe) : Option (Int32 × zMe) :=
  zlet (y1 ||| y0 : Int32) fun v1 =>
  zlet (x6 + 1) fun v2 =>
  k21 x0 x1 x2 x3 v1 x5 v2 M
set_option maxHeartbeats 4000000 in
set_option maxRecDepth 100000 in
theorem s_X12_after_b70 {g : zG} (hC : zC g) {k6 : Nat → Int32 → Int32 → Int32 → Int32 → Int32 → zMe → Option (Int32 × zMe)} {k21 : Nat → Int32 → Int32 → Int32 → Int32 → Int32 → Int32 → zMe → Option (Int32 × zMe)} (hk6 : ∀ (x0 : Nat) (x1 : Int32) (x2 : Int32) (x3 : Int32) (x4 : Int32) (x5 : Int32) (M : zMe) (q : (Int32 × zMe)), k6 x0 x1 x2 x3 x4 x5 M = some q → zW g mX12_after 6 [.ref x0, .int x1, .int x2, .int x3, .int x4, .int x5, .retAddr 0] [] M (some (.int q.1)) q.2) (hk21 : ∀ (x0 : Nat) (x1 : Int32) (x2 : Int32) (x3 : Int32) (x4 : Int32) (x5 : Int32) (x6 : Int32) (M : zMe) (q : (Int32 × zMe)), k21 x0 x1 x2 x3 x4 x5 x6 M = some q → zW g mX12_after 21 [.ref x0, .int x1, .int x2, .int x3, .int x4, .int x5, .int x6] [] M (some (.int q.1)) q.2) (x0 : Nat) (x1 : Int32) (x2 : Int32) (x3 : Int32) (x5 : Int32) (x6 : Int32) (y0 : Int32) (y1 : Int32) (M : zMe) (q : (Int32 × zMe)) (h : f_X12_after_b70 k6 k21 x0 x1 x2 x3 x5 x6 y0 y1 M = some q) : zW g mX12_after 70 [.ref x0, .int x1, .int x2, .int x3, .retAddr 0, .int x5, .int x6] [.int y0, .int y1] M (some (.int q.1)) q.2 := by
  unfold f_X12_after_b70 at h
  refine z_ior dX12_after_70 ?_
  refine z_nameI (fun v1 hv => ?_)
  have h := zlet_use h hv
  clear hv
  refine z_istore dX12_after_71 (by decide) ?_
  refine zeqL (L2 := [.ref x0, .int x1, .int x2, .int x3, .int v1, .int x5, .int x6]) rfl ?_
  obtain ⟨v2, hv⟩ : ∃ z : Int32, z = x6 + 1 := ⟨_, rfl⟩
  have h := zlet_use h hv
  refine z_iinc (v := v2) dX12_after_73 (x := x6) rfl (by rw [hv]; rfl) ?_
  clear hv
  refine zeqL (L2 := [.ref x0, .int x1, .int x2, .int x3, .int v1, .int x5, .int v2]) rfl ?_
  refine z_goto (tgt := 21) dX12_after_76 (by decide) ?_
  exact hk21 _ _ _ _ _ _ _ _ _ h
def f_X12_after_b21 (k6 : Nat → Int32 → Int32 → Int32 → Int32 → Int32 → zMe → Option (Int32 × zMe)) : Nat → Nat → Int32 → Int32 → Int32 → Int32 → Int32 → Int32 → zMe → Option (Int32 × zMe)
  | 0, _, _, _, _, _, _, _, _ => none
  | n + 1, x0, x1, x2, x3, x4, x5, x6, M =>
    (zgN M x0 [12] 0).bind fun a1 =>
    (zrI M a1 0).bind fun v1 =>
    if v1 ≤ x6 then (
      zlet (x5 + 1) fun v2 =>
      k6 x0 x1 x2 x3 x4 v2 M)
    else (
      if ((x1 >>> (((5 * x5) + x6) &&& 31)) &&& 1) = 1 then (
        (zob M x0 12).bind fun _ =>
        (f_X12_go x0 x5 x6 x2 x3 M).bind fun q1 =>
        f_X12_after_b70 k6 (f_X12_after_b21 k6 n) x0 x1 x2 x3 x5 x6 ((1 : Int32) <<< (((5 * x5) + q1.1) &&& 31)) x4 q1.2)
      else (
        f_X12_after_b70 k6 (f_X12_after_b21 k6 n) x0 x1 x2 x3 x5 x6 0 x4 M))
set_option maxHeartbeats 4000000 in
set_option maxRecDepth 100000 in
theorem s_X12_after_b21 {g : zG} (hC : zC g) {k6 : Nat → Int32 → Int32 → Int32 → Int32 → Int32 → zMe → Option (Int32 × zMe)} (hk6 : ∀ (x0 : Nat) (x1 : Int32) (x2 : Int32) (x3 : Int32) (x4 : Int32) (x5 : Int32) (M : zMe) (q : (Int32 × zMe)), k6 x0 x1 x2 x3 x4 x5 M = some q → zW g mX12_after 6 [.ref x0, .int x1, .int x2, .int x3, .int x4, .int x5, .retAddr 0] [] M (some (.int q.1)) q.2) : ∀ (n : Nat) (x0 : Nat) (x1 : Int32) (x2 : Int32) (x3 : Int32) (x4 : Int32) (x5 : Int32) (x6 : Int32) (M : zMe) (q : (Int32 × zMe)), f_X12_after_b21 k6 n x0 x1 x2 x3 x4 x5 x6 M = some q → zW g mX12_after 21 [.ref x0, .int x1, .int x2, .int x3, .int x4, .int x5, .int x6] [] M (some (.int q.1)) q.2 := by
  intro n
  induction n with
  | zero => intro x0 x1 x2 x3 x4 x5 x6 M q h; cases h
  | succ n ih =>
    intro x0 x1 x2 x3 x4 x5 x6 M q h
    rw [f_X12_after_b21] at h
    refine z_iload (x := x6) rfl dX12_after_21 ?_
    refine z_aload_n (x := x0) rfl dX12_after_23 ?_
    obtain ⟨a1, h1, h⟩ := zbind h
    refine z_gN hC fs_X12_7 h1 dX12_after_24 ?_
    refine z_iconst 0 (by decide) dX12_after_27 ?_
    obtain ⟨v1, h2, h⟩ := zbind h
    refine z_rI h2 dX12_after_28 ?_
    refine z_icmp_ge (tgt := 79) dX12_after_29 (by decide) (fun c1 => ?_) (fun c1 => ?_)
    · have h := zift h c1
      obtain ⟨v2, hv⟩ : ∃ z : Int32, z = x5 + 1 := ⟨_, rfl⟩
      have h := zlet_use h hv
      refine z_iinc (v := v2) dX12_after_79 (x := x5) rfl (by rw [hv]; rfl) ?_
      clear hv
      refine zeqL (L2 := [.ref x0, .int x1, .int x2, .int x3, .int x4, .int v2, .int x6]) rfl ?_
      refine z_goto (tgt := 6) dX12_after_82 (by decide) ?_
      refine zweak [true, true, true, true, true, true, false] ?_
      exact hk6 _ _ _ _ _ _ _ _ h
    · have h := zife h c1
      refine z_iload (x := x4) rfl dX12_after_32 ?_
      refine z_iload_n (x := x1) rfl dX12_after_34 ?_
      refine z_iconst 5 (by decide) dX12_after_35 ?_
      refine z_iload (x := x5) rfl dX12_after_36 ?_
      refine z_imul dX12_after_38 ?_
      refine z_iload (x := x6) rfl dX12_after_39 ?_
      refine z_iadd dX12_after_41 ?_
      refine z_ishr dX12_after_42 ?_
      refine z_iconst 1 (by decide) dX12_after_43 ?_
      refine z_iand dX12_after_44 ?_
      refine z_iconst 1 (by decide) dX12_after_45 ?_
      refine z_icmp_ne (tgt := 69) dX12_after_46 (by decide) (fun c2 => ?_) (fun c2 => ?_)
      · have h := zife h c2
        refine z_iconst 0 (by decide) dX12_after_69 ?_
        refine zweak [true, true, true, true, false, true, true] ?_
        exact s_X12_after_b70 hC hk6 ih _ _ _ _ _ _ _ _ _ _ h
      · have h := zift h c2
        refine z_iconst 1 (by decide) dX12_after_49 ?_
        refine z_iconst 5 (by decide) dX12_after_50 ?_
        refine z_iload (x := x5) rfl dX12_after_51 ?_
        refine z_imul dX12_after_53 ?_
        refine z_aload_n (x := x0) rfl dX12_after_54 ?_
        refine z_iload (x := x5) rfl dX12_after_55 ?_
        refine z_iload (x := x6) rfl dX12_after_57 ?_
        refine z_iload_n (x := x2) rfl dX12_after_59 ?_
        refine z_iload_n (x := x3) rfl dX12_after_60 ?_
        obtain ⟨_, hb, h⟩ := zbind h
        obtain ⟨fs, hb⟩ := zob_some hb
        obtain ⟨q1, h3, h⟩ := zbind h
        refine z_callV (av := [.int x5, .int x6, .int x2, .int x3]) (rest := [.int (5 * x5), .int 1, .int x4]) hC zcl_12 hb (s_X12_go hC h3) lk_X12_143 im_X12_go se_X12_go cd_X12_go ⟨by decide, by decide, (Nat.le_of_ble_eq_true rfl)⟩ dX12_after_61 ?_
        clear hb fs
        refine zeqS (stk2 := [.int q1.1, .int (5 * x5), .int 1, .int x4]) rfl ?_
        refine z_iadd dX12_after_64 ?_
        refine z_ishl dX12_after_65 ?_
        refine z_goto (tgt := 70) dX12_after_66 (by decide) ?_
        refine zweak [true, true, true, true, false, true, true] ?_
        exact s_X12_after_b70 hC hk6 ih _ _ _ _ _ _ _ _ _ _ h
def f_X12_after_b6  : Nat → Nat → Int32 → Int32 → Int32 → Int32 → Int32 → zMe → Option (Int32 × zMe)
  | 0, _, _, _, _, _, _, _ => none
  | n + 1, x0, x1, x2, x3, x4, x5, M =>
    (zgN M x0 [12] 0).bind fun a1 =>
    (zrI M a1 6).bind fun v1 =>
    if v1 ≤ x5 then (
      some (x4, M))
    else (
      f_X12_after_b21 (f_X12_after_b6 n) zfu x0 x1 x2 x3 x4 x5 0 M)
set_option maxHeartbeats 4000000 in
set_option maxRecDepth 100000 in
theorem s_X12_after_b6 {g : zG} (hC : zC g)  : ∀ (n : Nat) (x0 : Nat) (x1 : Int32) (x2 : Int32) (x3 : Int32) (x4 : Int32) (x5 : Int32) (M : zMe) (q : (Int32 × zMe)), f_X12_after_b6  n x0 x1 x2 x3 x4 x5 M = some q → zW g mX12_after 6 [.ref x0, .int x1, .int x2, .int x3, .int x4, .int x5, .retAddr 0] [] M (some (.int q.1)) q.2 := by
  intro n
  induction n with
  | zero => intro x0 x1 x2 x3 x4 x5 M q h; cases h
  | succ n ih =>
    intro x0 x1 x2 x3 x4 x5 M q h
    rw [f_X12_after_b6] at h
    refine z_iload (x := x5) rfl dX12_after_6 ?_
    refine z_aload_n (x := x0) rfl dX12_after_8 ?_
    obtain ⟨a1, h1, h⟩ := zbind h
    refine z_gN hC fs_X12_7 h1 dX12_after_9 ?_
    refine z_bipush 6 (by decide) dX12_after_12 ?_
    obtain ⟨v1, h2, h⟩ := zbind h
    refine z_rI h2 dX12_after_14 ?_
    refine z_icmp_ge (tgt := 85) dX12_after_15 (by decide) (fun c1 => ?_) (fun c1 => ?_)
    · have h := zift h c1
      refine z_iload (x := x4) rfl dX12_after_85 ?_
      obtain rfl := Option.some.inj h
      exact z_iret ⟨.int, rfl, rfl⟩ dX12_after_87
    · have h := zife h c1
      refine z_iconst 0 (by decide) dX12_after_18 ?_
      refine z_istore dX12_after_19 (by decide) ?_
      refine zeqL (L2 := [.ref x0, .int x1, .int x2, .int x3, .int x4, .int x5, .int 0]) rfl ?_
      exact s_X12_after_b21 hC ih _ _ _ _ _ _ _ _ _ _ h
def f_X12_after (x0 : Nat) (x1 : Int32) (x2 : Int32) (x3 : Int32) (M : zMe) : Option (Int32 × zMe) :=
  f_X12_after_b6 zfu x0 x1 x2 x3 0 0 M
set_option maxHeartbeats 4000000 in
set_option maxRecDepth 100000 in
theorem s_X12_after {g : zG} (hC : zC g) {x0 : Nat} {x1 : Int32} {x2 : Int32} {x3 : Int32} {M : zMe} {q : (Int32 × zMe)} (h : f_X12_after x0 x1 x2 x3 M = some q) : zMet g yX12_after mX12_after [.ref x0, .int x1, .int x2, .int x3] M (some (.int q.1)) q.2 := by
  refine z_entry (by decide +kernel) rfl rfl (Nat.le_of_ble_eq_true rfl) ?_
  refine zeqL (L2 := [.ref x0, .int x1, .int x2, .int x3, .retAddr 0, .retAddr 0, .retAddr 0]) rfl ?_
  unfold f_X12_after at h
  refine z_iconst 0 (by decide) dX12_after_0 ?_
  refine z_istore dX12_after_1 (by decide) ?_
  refine zeqL (L2 := [.ref x0, .int x1, .int x2, .int x3, .int 0, .retAddr 0, .retAddr 0]) rfl ?_
  refine z_iconst 0 (by decide) dX12_after_3 ?_
  refine z_istore dX12_after_4 (by decide) ?_
  refine zeqL (L2 := [.ref x0, .int x1, .int x2, .int x3, .int 0, .int 0, .retAddr 0]) rfl ?_
  exact s_X12_after_b6 hC _ _ _ _ _ _ _ _ _ h
def f_X12_comesTo_b81   (M : zMe) : Option zMe :=
  some M
set_option maxHeartbeats 4000000 in
set_option maxRecDepth 100000 in
theorem s_X12_comesTo_b81 {g : zG} (hC : zC g)   (M : zMe) (q : zMe) (h : f_X12_comesTo_b81   M = some q) : zW g mX12_comesTo 81 [.retAddr 0, .retAddr 0, .retAddr 0, .retAddr 0, .retAddr 0] [] M none q := by
  unfold f_X12_comesTo_b81 at h
  obtain rfl := Option.some.inj h
  exact z_ret rfl dX12_comesTo_81
def f_X12_comesTo (x0 : Nat) (x1 : Int32) (x2 : Int32) (x3 : Int32) (M : zMe) : Option zMe :=
  zlet ((32768 * x1) + x2 : Int32) fun v1 =>
  (zgN M x0 [12] 13).bind fun a1 =>
  (zrI M a1 v1).bind fun v2 =>
  if v2 = 0 then (
    (zgN M x0 [12] 14).bind fun a2 =>
    (zgN M x0 [12] 15).bind fun a3 =>
    (zrI M a3 x1).bind fun v3 =>
    (zwI M a2 ((32768 * x1) + v3) x2).bind fun M1 =>
    (zgN M1 x0 [12] 15).bind fun a4 =>
    (zrI M1 a4 x1).bind fun v4 =>
    (zwI M1 a4 x1 (v4 + 1)).bind fun M2 =>
    (zgN M2 x0 [12] 13).bind fun a5 =>
    (zwI M2 a5 v1 (x3 + 1)).bind fun M3 =>
    f_X12_comesTo_b81 M3)
  else (
    (zgN M x0 [12] 13).bind fun a6 =>
    (zrI M a6 v1).bind fun v5 =>
    if v5 ≤ (x3 + 1) then (
      f_X12_comesTo_b81 M)
    else (
      (zgN M x0 [12] 13).bind fun a7 =>
      (zwI M a7 v1 (x3 + 1)).bind fun M4 =>
      f_X12_comesTo_b81 M4))
set_option maxHeartbeats 4000000 in
set_option maxRecDepth 100000 in
theorem s_X12_comesTo {g : zG} (hC : zC g) {x0 : Nat} {x1 : Int32} {x2 : Int32} {x3 : Int32} {M : zMe} {q : zMe} (h : f_X12_comesTo x0 x1 x2 x3 M = some q) : zMet g yX12_comesTo mX12_comesTo [.ref x0, .int x1, .int x2, .int x3] M none q := by
  refine z_entry (by decide +kernel) rfl rfl (Nat.le_of_ble_eq_true rfl) ?_
  refine zeqL (L2 := [.ref x0, .int x1, .int x2, .int x3, .retAddr 0]) rfl ?_
  unfold f_X12_comesTo at h
  refine z_ldc hC dX12_comesTo_0 kc_X12_154 ?_
  refine z_iload_n (x := x1) rfl dX12_comesTo_2 ?_
  refine z_imul dX12_comesTo_3 ?_
  refine z_iload_n (x := x2) rfl dX12_comesTo_4 ?_
  refine z_iadd dX12_comesTo_5 ?_
  refine z_nameI (fun v1 hv => ?_)
  have h := zlet_use h hv
  clear hv
  refine z_istore dX12_comesTo_6 (by decide) ?_
  refine zeqL (L2 := [.ref x0, .int x1, .int x2, .int x3, .int v1]) rfl ?_
  refine z_aload_n (x := x0) rfl dX12_comesTo_8 ?_
  obtain ⟨a1, h1, h⟩ := zbind h
  refine z_gN hC fs_X12_30 h1 dX12_comesTo_9 ?_
  refine z_iload (x := v1) rfl dX12_comesTo_12 ?_
  obtain ⟨v2, h2, h⟩ := zbind h
  refine z_rI h2 dX12_comesTo_14 ?_
  refine z_if_ne (tgt := 58) dX12_comesTo_15 (by decide) (fun c1 => ?_) (fun c1 => ?_)
  · have h := zife h c1
    refine z_iload_n (x := x3) rfl dX12_comesTo_58 ?_
    refine z_iconst 1 (by decide) dX12_comesTo_59 ?_
    refine z_iadd dX12_comesTo_60 ?_
    refine z_aload_n (x := x0) rfl dX12_comesTo_61 ?_
    obtain ⟨a6, h12, h⟩ := zbind h
    refine z_gN hC fs_X12_30 h12 dX12_comesTo_62 ?_
    refine z_iload (x := v1) rfl dX12_comesTo_65 ?_
    obtain ⟨v5, h13, h⟩ := zbind h
    refine z_rI h13 dX12_comesTo_67 ?_
    refine z_icmp_ge (tgt := 81) dX12_comesTo_68 (by decide) (fun c2 => ?_) (fun c2 => ?_)
    · have h := zift h c2
      refine zweak [false, false, false, false, false] ?_
      exact s_X12_comesTo_b81 hC _ _ h
    · have h := zife h c2
      refine z_aload_n (x := x0) rfl dX12_comesTo_71 ?_
      obtain ⟨a7, h14, h⟩ := zbind h
      refine z_gN hC fs_X12_30 h14 dX12_comesTo_72 ?_
      refine z_iload (x := v1) rfl dX12_comesTo_75 ?_
      refine z_iload_n (x := x3) rfl dX12_comesTo_77 ?_
      refine z_iconst 1 (by decide) dX12_comesTo_78 ?_
      refine z_iadd dX12_comesTo_79 ?_
      obtain ⟨M4, h15, h⟩ := zbind h
      refine z_wI h15 dX12_comesTo_80 ?_
      refine zweak [false, false, false, false, false] ?_
      exact s_X12_comesTo_b81 hC _ _ h
  · have h := zift h c1
    refine z_aload_n (x := x0) rfl dX12_comesTo_18 ?_
    obtain ⟨a2, h3, h⟩ := zbind h
    refine z_gN hC fs_X12_33 h3 dX12_comesTo_19 ?_
    refine z_ldc hC dX12_comesTo_22 kc_X12_154 ?_
    refine z_iload_n (x := x1) rfl dX12_comesTo_24 ?_
    refine z_imul dX12_comesTo_25 ?_
    refine z_aload_n (x := x0) rfl dX12_comesTo_26 ?_
    obtain ⟨a3, h4, h⟩ := zbind h
    refine z_gN hC fs_X12_36 h4 dX12_comesTo_27 ?_
    refine z_iload_n (x := x1) rfl dX12_comesTo_30 ?_
    obtain ⟨v3, h5, h⟩ := zbind h
    refine z_rI h5 dX12_comesTo_31 ?_
    refine z_iadd dX12_comesTo_32 ?_
    refine z_iload_n (x := x2) rfl dX12_comesTo_33 ?_
    obtain ⟨M1, h6, h⟩ := zbind h
    refine z_wI h6 dX12_comesTo_34 ?_
    refine z_aload_n (x := x0) rfl dX12_comesTo_35 ?_
    obtain ⟨a4, h7, h⟩ := zbind h
    refine z_gN hC fs_X12_36 h7 dX12_comesTo_36 ?_
    refine z_iload_n (x := x1) rfl dX12_comesTo_39 ?_
    refine z_dup2 rfl rfl dX12_comesTo_40 ?_
    obtain ⟨v4, h8, h⟩ := zbind h
    refine z_rI h8 dX12_comesTo_41 ?_
    refine z_iconst 1 (by decide) dX12_comesTo_42 ?_
    refine z_iadd dX12_comesTo_43 ?_
    obtain ⟨M2, h9, h⟩ := zbind h
    refine z_wI h9 dX12_comesTo_44 ?_
    refine z_aload_n (x := x0) rfl dX12_comesTo_45 ?_
    obtain ⟨a5, h10, h⟩ := zbind h
    refine z_gN hC fs_X12_30 h10 dX12_comesTo_46 ?_
    refine z_iload (x := v1) rfl dX12_comesTo_49 ?_
    refine z_iload_n (x := x3) rfl dX12_comesTo_51 ?_
    refine z_iconst 1 (by decide) dX12_comesTo_52 ?_
    refine z_iadd dX12_comesTo_53 ?_
    obtain ⟨M3, h11, h⟩ := zbind h
    refine z_wI h11 dX12_comesTo_54 ?_
    refine z_goto (tgt := 81) dX12_comesTo_55 (by decide) ?_
    refine zweak [false, false, false, false, false] ?_
    exact s_X12_comesTo_b81 hC _ _ h
def f_X12_layer_b109 (k7 : Nat → Int32 → Int32 → Int32 → Int32 → zMe → Option zMe) (k64 : Nat → Int32 → Int32 → Int32 → Int32 → Int32 → Int32 → Int32 → zMe → Option zMe) (x0 : Nat) (x1 : Int32) (x2 : Int32) (x3 : Int32) (x4 : Int32) (x5 : Int32) (x6 : Int32) (x7 : Int32) (y0 : Int32) (y1 : Int32) (y2 : Int32) (y3 : Nat) (M : zMe) : Option zMe :=
  (zob M y3 12).bind fun _ =>
  (f_X12_comesTo y3 y2 y1 y0 M).bind fun q1 =>
  zlet (x7 + 1) fun v1 =>
  k64 x0 x1 x2 x3 x4 x5 x6 v1 q1
set_option maxHeartbeats 4000000 in
set_option maxRecDepth 100000 in
theorem s_X12_layer_b109 {g : zG} (hC : zC g) {k7 : Nat → Int32 → Int32 → Int32 → Int32 → zMe → Option zMe} {k64 : Nat → Int32 → Int32 → Int32 → Int32 → Int32 → Int32 → Int32 → zMe → Option zMe} (hk7 : ∀ (x0 : Nat) (x1 : Int32) (x2 : Int32) (x3 : Int32) (x4 : Int32) (M : zMe) (q : zMe), k7 x0 x1 x2 x3 x4 M = some q → zW g mX12_layer 7 [.ref x0, .int x1, .int x2, .int x3, .int x4, .retAddr 0, .retAddr 0, .retAddr 0] [] M none q) (hk64 : ∀ (x0 : Nat) (x1 : Int32) (x2 : Int32) (x3 : Int32) (x4 : Int32) (x5 : Int32) (x6 : Int32) (x7 : Int32) (M : zMe) (q : zMe), k64 x0 x1 x2 x3 x4 x5 x6 x7 M = some q → zW g mX12_layer 64 [.ref x0, .int x1, .int x2, .int x3, .int x4, .int x5, .int x6, .int x7] [] M none q) (x0 : Nat) (x1 : Int32) (x2 : Int32) (x3 : Int32) (x4 : Int32) (x5 : Int32) (x6 : Int32) (x7 : Int32) (y0 : Int32) (y1 : Int32) (y2 : Int32) (y3 : Nat) (M : zMe) (q : zMe) (h : f_X12_layer_b109 k7 k64 x0 x1 x2 x3 x4 x5 x6 x7 y0 y1 y2 y3 M = some q) : zW g mX12_layer 109 [.ref x0, .int x1, .int x2, .int x3, .int x4, .int x5, .int x6, .int x7] [.int y0, .int y1, .int y2, .ref y3] M none q := by
  unfold f_X12_layer_b109 at h
  obtain ⟨_, hb, h⟩ := zbind h
  obtain ⟨fs, hb⟩ := zob_some hb
  obtain ⟨q1, h1, h⟩ := zbind h
  refine z_callV (av := [.int y2, .int y1, .int y0]) (rest := []) hC zcl_12 hb (s_X12_comesTo hC h1) lk_X12_159 im_X12_comesTo se_X12_comesTo cd_X12_comesTo ⟨by decide, by decide, (Nat.le_of_ble_eq_true rfl)⟩ dX12_layer_109 ?_
  clear hb fs
  refine zeqS (stk2 := []) rfl ?_
  obtain ⟨v1, hv⟩ : ∃ z : Int32, z = x7 + 1 := ⟨_, rfl⟩
  have h := zlet_use h hv
  refine z_iinc (v := v1) dX12_layer_112 (x := x7) rfl (by rw [hv]; rfl) ?_
  clear hv
  refine zeqL (L2 := [.ref x0, .int x1, .int x2, .int x3, .int x4, .int x5, .int x6, .int v1]) rfl ?_
  refine z_goto (tgt := 64) dX12_layer_115 (by decide) ?_
  exact hk64 _ _ _ _ _ _ _ _ _ _ h
def f_X12_layer_b64 (k7 : Nat → Int32 → Int32 → Int32 → Int32 → zMe → Option zMe) : Nat → Nat → Int32 → Int32 → Int32 → Int32 → Int32 → Int32 → Int32 → zMe → Option zMe
  | 0, _, _, _, _, _, _, _, _, _ => none
  | n + 1, x0, x1, x2, x3, x4, x5, x6, x7, M =>
    if 2 ≤ x7 then (
      zlet (x4 + 1) fun v1 =>
      k7 x0 x1 x2 x3 v1 M)
    else (
      (zob M x0 12).bind fun _ =>
      (f_X12_after x0 x5 x7 x1 M).bind fun q1 =>
      if x2 = 0 then (
        f_X12_layer_b109 k7 (f_X12_layer_b64 k7 n) x0 x1 x2 x3 x4 x5 x6 x7 ((2 * x6) + x7) q1.1 (1 - x3) x0 q1.2)
      else (
        (zgN q1.2 x0 [12] 0).bind fun a1 =>
        (zrI q1.2 a1 (4 + x7)).bind fun v2 =>
        f_X12_layer_b109 k7 (f_X12_layer_b64 k7 n) x0 x1 x2 x3 x4 x5 x6 x7 (x6 + v2) q1.1 (1 - x3) x0 q1.2))
set_option maxHeartbeats 4000000 in
set_option maxRecDepth 100000 in
theorem s_X12_layer_b64 {g : zG} (hC : zC g) {k7 : Nat → Int32 → Int32 → Int32 → Int32 → zMe → Option zMe} (hk7 : ∀ (x0 : Nat) (x1 : Int32) (x2 : Int32) (x3 : Int32) (x4 : Int32) (M : zMe) (q : zMe), k7 x0 x1 x2 x3 x4 M = some q → zW g mX12_layer 7 [.ref x0, .int x1, .int x2, .int x3, .int x4, .retAddr 0, .retAddr 0, .retAddr 0] [] M none q) : ∀ (n : Nat) (x0 : Nat) (x1 : Int32) (x2 : Int32) (x3 : Int32) (x4 : Int32) (x5 : Int32) (x6 : Int32) (x7 : Int32) (M : zMe) (q : zMe), f_X12_layer_b64 k7 n x0 x1 x2 x3 x4 x5 x6 x7 M = some q → zW g mX12_layer 64 [.ref x0, .int x1, .int x2, .int x3, .int x4, .int x5, .int x6, .int x7] [] M none q := by
  intro n
  induction n with
  | zero => intro x0 x1 x2 x3 x4 x5 x6 x7 M q h; cases h
  | succ n ih =>
    intro x0 x1 x2 x3 x4 x5 x6 x7 M q h
    rw [f_X12_layer_b64] at h
    refine z_iload (x := x7) rfl dX12_layer_64 ?_
    refine z_iconst 2 (by decide) dX12_layer_66 ?_
    refine z_icmp_ge (tgt := 118) dX12_layer_67 (by decide) (fun c1 => ?_) (fun c1 => ?_)
    · have h := zift h c1
      obtain ⟨v1, hv⟩ : ∃ z : Int32, z = x4 + 1 := ⟨_, rfl⟩
      have h := zlet_use h hv
      refine z_iinc (v := v1) dX12_layer_118 (x := x4) rfl (by rw [hv]; rfl) ?_
      clear hv
      refine zeqL (L2 := [.ref x0, .int x1, .int x2, .int x3, .int v1, .int x5, .int x6, .int x7]) rfl ?_
      refine z_goto (tgt := 7) dX12_layer_121 (by decide) ?_
      refine zweak [true, true, true, true, true, false, false, false] ?_
      exact hk7 _ _ _ _ _ _ _ h
    · have h := zife h c1
      refine z_aload_n (x := x0) rfl dX12_layer_70 ?_
      refine z_iconst 1 (by decide) dX12_layer_71 ?_
      refine z_iload_n (x := x3) rfl dX12_layer_72 ?_
      refine z_isub dX12_layer_73 ?_
      refine z_aload_n (x := x0) rfl dX12_layer_74 ?_
      refine z_iload (x := x5) rfl dX12_layer_75 ?_
      refine z_iload (x := x7) rfl dX12_layer_77 ?_
      refine z_iload_n (x := x1) rfl dX12_layer_79 ?_
      obtain ⟨_, hb, h⟩ := zbind h
      obtain ⟨fs, hb⟩ := zob_some hb
      obtain ⟨q1, h1, h⟩ := zbind h
      refine z_callV (av := [.int x5, .int x7, .int x1]) (rest := [.int (1 - x3), .ref x0]) hC zcl_12 hb (s_X12_after hC h1) lk_X12_155 im_X12_after se_X12_after cd_X12_after ⟨by decide, by decide, (Nat.le_of_ble_eq_true rfl)⟩ dX12_layer_80 ?_
      clear hb fs
      refine zeqS (stk2 := [.int q1.1, .int (1 - x3), .ref x0]) rfl ?_
      refine z_iload_n (x := x2) rfl dX12_layer_83 ?_
      refine z_if_eq (tgt := 102) dX12_layer_84 (by decide) (fun c2 => ?_) (fun c2 => ?_)
      · have h := zift h c2
        refine z_iconst 2 (by decide) dX12_layer_102 ?_
        refine z_iload (x := x6) rfl dX12_layer_103 ?_
        refine z_imul dX12_layer_105 ?_
        refine z_iload (x := x7) rfl dX12_layer_106 ?_
        refine z_iadd dX12_layer_108 ?_
        exact s_X12_layer_b109 hC hk7 ih _ _ _ _ _ _ _ _ _ _ _ _ _ _ h
      · have h := zife h c2
        refine z_iload (x := x6) rfl dX12_layer_87 ?_
        refine z_aload_n (x := x0) rfl dX12_layer_89 ?_
        obtain ⟨a1, h2, h⟩ := zbind h
        refine z_gN hC fs_X12_7 h2 dX12_layer_90 ?_
        refine z_iconst 4 (by decide) dX12_layer_93 ?_
        refine z_iload (x := x7) rfl dX12_layer_94 ?_
        refine z_iadd dX12_layer_96 ?_
        obtain ⟨v2, h3, h⟩ := zbind h
        refine z_rI h3 dX12_layer_97 ?_
        refine z_iadd dX12_layer_98 ?_
        refine z_goto (tgt := 109) dX12_layer_99 (by decide) ?_
        exact s_X12_layer_b109 hC hk7 ih _ _ _ _ _ _ _ _ _ _ _ _ _ _ h
def f_X12_layer_b7  : Nat → Nat → Int32 → Int32 → Int32 → Int32 → zMe → Option zMe
  | 0, _, _, _, _, _, _ => none
  | n + 1, x0, x1, x2, x3, x4, M =>
    (zgN M x0 [12] 15).bind fun a1 =>
    (zrI M a1 x3).bind fun v1 =>
    if v1 ≤ x4 then (
      (zgN M x0 [12] 15).bind fun a2 =>
      (zwI M a2 x3 0).bind fun M1 =>
      some M1)
    else (
      (zgN M x0 [12] 14).bind fun a3 =>
      (zrI M a3 ((32768 * x3) + x4)).bind fun v2 =>
      (zgN M x0 [12] 13).bind fun a4 =>
      (zrI M a4 ((32768 * x3) + v2)).bind fun v3 =>
      zlet (v3 - 1 : Int32) fun v4 =>
      (zgN M x0 [12] 13).bind fun a5 =>
      (zwI M a5 ((32768 * x3) + v2) 0).bind fun M2 =>
      f_X12_layer_b64 (f_X12_layer_b7 n) zfu x0 x1 x2 x3 x4 v2 v4 0 M2)
set_option maxHeartbeats 4000000 in
set_option maxRecDepth 100000 in
theorem s_X12_layer_b7 {g : zG} (hC : zC g)  : ∀ (n : Nat) (x0 : Nat) (x1 : Int32) (x2 : Int32) (x3 : Int32) (x4 : Int32) (M : zMe) (q : zMe), f_X12_layer_b7  n x0 x1 x2 x3 x4 M = some q → zW g mX12_layer 7 [.ref x0, .int x1, .int x2, .int x3, .int x4, .retAddr 0, .retAddr 0, .retAddr 0] [] M none q := by
  intro n
  induction n with
  | zero => intro x0 x1 x2 x3 x4 M q h; cases h
  | succ n ih =>
    intro x0 x1 x2 x3 x4 M q h
    rw [f_X12_layer_b7] at h
    refine z_iload (x := x4) rfl dX12_layer_7 ?_
    refine z_aload_n (x := x0) rfl dX12_layer_9 ?_
    obtain ⟨a1, h1, h⟩ := zbind h
    refine z_gN hC fs_X12_36 h1 dX12_layer_10 ?_
    refine z_iload_n (x := x3) rfl dX12_layer_13 ?_
    obtain ⟨v1, h2, h⟩ := zbind h
    refine z_rI h2 dX12_layer_14 ?_
    refine z_icmp_ge (tgt := 124) dX12_layer_15 (by decide) (fun c1 => ?_) (fun c1 => ?_)
    · have h := zift h c1
      refine z_aload_n (x := x0) rfl dX12_layer_124 ?_
      obtain ⟨a2, h3, h⟩ := zbind h
      refine z_gN hC fs_X12_36 h3 dX12_layer_125 ?_
      refine z_iload_n (x := x3) rfl dX12_layer_128 ?_
      refine z_iconst 0 (by decide) dX12_layer_129 ?_
      obtain ⟨M1, h4, h⟩ := zbind h
      refine z_wI h4 dX12_layer_130 ?_
      obtain rfl := Option.some.inj h
      exact z_ret rfl dX12_layer_131
    · have h := zife h c1
      refine z_aload_n (x := x0) rfl dX12_layer_18 ?_
      obtain ⟨a3, h5, h⟩ := zbind h
      refine z_gN hC fs_X12_33 h5 dX12_layer_19 ?_
      refine z_ldc hC dX12_layer_22 kc_X12_154 ?_
      refine z_iload_n (x := x3) rfl dX12_layer_24 ?_
      refine z_imul dX12_layer_25 ?_
      refine z_iload (x := x4) rfl dX12_layer_26 ?_
      refine z_iadd dX12_layer_28 ?_
      obtain ⟨v2, h6, h⟩ := zbind h
      refine z_rI h6 dX12_layer_29 ?_
      refine z_istore dX12_layer_30 (by decide) ?_
      refine zeqL (L2 := [.ref x0, .int x1, .int x2, .int x3, .int x4, .int v2, .retAddr 0, .retAddr 0]) rfl ?_
      refine z_aload_n (x := x0) rfl dX12_layer_32 ?_
      obtain ⟨a4, h7, h⟩ := zbind h
      refine z_gN hC fs_X12_30 h7 dX12_layer_33 ?_
      refine z_ldc hC dX12_layer_36 kc_X12_154 ?_
      refine z_iload_n (x := x3) rfl dX12_layer_38 ?_
      refine z_imul dX12_layer_39 ?_
      refine z_iload (x := v2) rfl dX12_layer_40 ?_
      refine z_iadd dX12_layer_42 ?_
      obtain ⟨v3, h8, h⟩ := zbind h
      refine z_rI h8 dX12_layer_43 ?_
      refine z_iconst 1 (by decide) dX12_layer_44 ?_
      refine z_isub dX12_layer_45 ?_
      refine z_nameI (fun v4 hv => ?_)
      have h := zlet_use h hv
      clear hv
      refine z_istore dX12_layer_46 (by decide) ?_
      refine zeqL (L2 := [.ref x0, .int x1, .int x2, .int x3, .int x4, .int v2, .int v4, .retAddr 0]) rfl ?_
      refine z_aload_n (x := x0) rfl dX12_layer_48 ?_
      obtain ⟨a5, h9, h⟩ := zbind h
      refine z_gN hC fs_X12_30 h9 dX12_layer_49 ?_
      refine z_ldc hC dX12_layer_52 kc_X12_154 ?_
      refine z_iload_n (x := x3) rfl dX12_layer_54 ?_
      refine z_imul dX12_layer_55 ?_
      refine z_iload (x := v2) rfl dX12_layer_56 ?_
      refine z_iadd dX12_layer_58 ?_
      refine z_iconst 0 (by decide) dX12_layer_59 ?_
      obtain ⟨M2, h10, h⟩ := zbind h
      refine z_wI h10 dX12_layer_60 ?_
      refine z_iconst 0 (by decide) dX12_layer_61 ?_
      refine z_istore dX12_layer_62 (by decide) ?_
      refine zeqL (L2 := [.ref x0, .int x1, .int x2, .int x3, .int x4, .int v2, .int v4, .int 0]) rfl ?_
      exact s_X12_layer_b64 hC ih _ _ _ _ _ _ _ _ _ _ _ h
def f_X12_layer (x0 : Nat) (x1 : Int32) (x2 : Int32) (M : zMe) : Option zMe :=
  zlet (x1 - x1 / 2 * 2) fun v1 =>
  f_X12_layer_b7 zfu x0 x1 x2 v1 0 M
set_option maxHeartbeats 4000000 in
set_option maxRecDepth 100000 in
theorem s_X12_layer {g : zG} (hC : zC g) {x0 : Nat} {x1 : Int32} {x2 : Int32} {M : zMe} {q : zMe} (h : f_X12_layer x0 x1 x2 M = some q) : zMet g yX12_layer mX12_layer [.ref x0, .int x1, .int x2] M none q := by
  refine z_entry (by decide +kernel) rfl rfl (Nat.le_of_ble_eq_true rfl) ?_
  refine zeqL (L2 := [.ref x0, .int x1, .int x2, .retAddr 0, .retAddr 0, .retAddr 0, .retAddr 0, .retAddr 0]) rfl ?_
  unfold f_X12_layer at h
  refine z_iload_n (x := x1) rfl dX12_layer_0 ?_
  refine z_iconst 2 (by decide) dX12_layer_1 ?_
  refine z_irem (by decide) dX12_layer_2 ?_
  refine z_nameI (fun v1 hv => ?_)
  have h := zlet_use h hv
  clear hv
  refine z_istore_n dX12_layer_3 (by decide) ?_
  refine zeqL (L2 := [.ref x0, .int x1, .int x2, .int v1, .retAddr 0, .retAddr 0, .retAddr 0, .retAddr 0]) rfl ?_
  refine z_iconst 0 (by decide) dX12_layer_4 ?_
  refine z_istore dX12_layer_5 (by decide) ?_
  refine zeqL (L2 := [.ref x0, .int x1, .int x2, .int v1, .int 0, .retAddr 0, .retAddr 0, .retAddr 0]) rfl ?_
  exact s_X12_layer_b7 hC _ _ _ _ _ _ _ _ h
def f_X12_empties_b9 (k2 : Nat → Int32 → zMe → Option zMe) : Nat → Nat → Int32 → Int32 → zMe → Option zMe
  | 0, _, _, _, _ => none
  | n + 1, x0, x1, x2, M =>
    (zgN M x0 [12] 15).bind fun a1 =>
    (zrI M a1 x1).bind fun v1 =>
    if v1 ≤ x2 then (
      (zgN M x0 [12] 15).bind fun a2 =>
      (zwI M a2 x1 0).bind fun M1 =>
      zlet (x1 + 1) fun v2 =>
      k2 x0 v2 M1)
    else (
      (zgN M x0 [12] 13).bind fun a3 =>
      (zgN M x0 [12] 14).bind fun a4 =>
      (zrI M a4 ((32768 * x1) + x2)).bind fun v3 =>
      (zwI M a3 ((32768 * x1) + v3) 0).bind fun M2 =>
      zlet (x2 + 1) fun v4 =>
      f_X12_empties_b9 k2 n x0 x1 v4 M2)
set_option maxHeartbeats 4000000 in
set_option maxRecDepth 100000 in
theorem s_X12_empties_b9 {g : zG} (hC : zC g) {k2 : Nat → Int32 → zMe → Option zMe} (hk2 : ∀ (x0 : Nat) (x1 : Int32) (M : zMe) (q : zMe), k2 x0 x1 M = some q → zW g mX12_empties 2 [.ref x0, .int x1, .retAddr 0] [] M none q) : ∀ (n : Nat) (x0 : Nat) (x1 : Int32) (x2 : Int32) (M : zMe) (q : zMe), f_X12_empties_b9 k2 n x0 x1 x2 M = some q → zW g mX12_empties 9 [.ref x0, .int x1, .int x2] [] M none q := by
  intro n
  induction n with
  | zero => intro x0 x1 x2 M q h; cases h
  | succ n ih =>
    intro x0 x1 x2 M q h
    rw [f_X12_empties_b9] at h
    refine z_iload_n (x := x2) rfl dX12_empties_9 ?_
    refine z_aload_n (x := x0) rfl dX12_empties_10 ?_
    obtain ⟨a1, h1, h⟩ := zbind h
    refine z_gN hC fs_X12_36 h1 dX12_empties_11 ?_
    refine z_iload_n (x := x1) rfl dX12_empties_14 ?_
    obtain ⟨v1, h2, h⟩ := zbind h
    refine z_rI h2 dX12_empties_15 ?_
    refine z_icmp_ge (tgt := 47) dX12_empties_16 (by decide) (fun c1 => ?_) (fun c1 => ?_)
    · have h := zift h c1
      refine z_aload_n (x := x0) rfl dX12_empties_47 ?_
      obtain ⟨a2, h3, h⟩ := zbind h
      refine z_gN hC fs_X12_36 h3 dX12_empties_48 ?_
      refine z_iload_n (x := x1) rfl dX12_empties_51 ?_
      refine z_iconst 0 (by decide) dX12_empties_52 ?_
      obtain ⟨M1, h4, h⟩ := zbind h
      refine z_wI h4 dX12_empties_53 ?_
      obtain ⟨v2, hv⟩ : ∃ z : Int32, z = x1 + 1 := ⟨_, rfl⟩
      have h := zlet_use h hv
      refine z_iinc (v := v2) dX12_empties_54 (x := x1) rfl (by rw [hv]; rfl) ?_
      clear hv
      refine zeqL (L2 := [.ref x0, .int v2, .int x2]) rfl ?_
      refine z_goto (tgt := 2) dX12_empties_57 (by decide) ?_
      refine zweak [true, true, false] ?_
      exact hk2 _ _ _ _ h
    · have h := zife h c1
      refine z_aload_n (x := x0) rfl dX12_empties_19 ?_
      obtain ⟨a3, h5, h⟩ := zbind h
      refine z_gN hC fs_X12_30 h5 dX12_empties_20 ?_
      refine z_ldc hC dX12_empties_23 kc_X12_154 ?_
      refine z_iload_n (x := x1) rfl dX12_empties_25 ?_
      refine z_imul dX12_empties_26 ?_
      refine z_aload_n (x := x0) rfl dX12_empties_27 ?_
      obtain ⟨a4, h6, h⟩ := zbind h
      refine z_gN hC fs_X12_33 h6 dX12_empties_28 ?_
      refine z_ldc hC dX12_empties_31 kc_X12_154 ?_
      refine z_iload_n (x := x1) rfl dX12_empties_33 ?_
      refine z_imul dX12_empties_34 ?_
      refine z_iload_n (x := x2) rfl dX12_empties_35 ?_
      refine z_iadd dX12_empties_36 ?_
      obtain ⟨v3, h7, h⟩ := zbind h
      refine z_rI h7 dX12_empties_37 ?_
      refine z_iadd dX12_empties_38 ?_
      refine z_iconst 0 (by decide) dX12_empties_39 ?_
      obtain ⟨M2, h8, h⟩ := zbind h
      refine z_wI h8 dX12_empties_40 ?_
      obtain ⟨v4, hv⟩ : ∃ z : Int32, z = x2 + 1 := ⟨_, rfl⟩
      have h := zlet_use h hv
      refine z_iinc (v := v4) dX12_empties_41 (x := x2) rfl (by rw [hv]; rfl) ?_
      clear hv
      refine zeqL (L2 := [.ref x0, .int x1, .int v4]) rfl ?_
      refine z_goto (tgt := 9) dX12_empties_44 (by decide) ?_
      exact ih _ _ _ _ _ h
def f_X12_empties_b2  : Nat → Nat → Int32 → zMe → Option zMe
  | 0, _, _, _ => none
  | n + 1, x0, x1, M =>
    if 2 ≤ x1 then (
      some M)
    else (
      f_X12_empties_b9 (f_X12_empties_b2 n) zfu x0 x1 0 M)
set_option maxHeartbeats 4000000 in
set_option maxRecDepth 100000 in
theorem s_X12_empties_b2 {g : zG} (hC : zC g)  : ∀ (n : Nat) (x0 : Nat) (x1 : Int32) (M : zMe) (q : zMe), f_X12_empties_b2  n x0 x1 M = some q → zW g mX12_empties 2 [.ref x0, .int x1, .retAddr 0] [] M none q := by
  intro n
  induction n with
  | zero => intro x0 x1 M q h; cases h
  | succ n ih =>
    intro x0 x1 M q h
    rw [f_X12_empties_b2] at h
    refine z_iload_n (x := x1) rfl dX12_empties_2 ?_
    refine z_iconst 2 (by decide) dX12_empties_3 ?_
    refine z_icmp_ge (tgt := 60) dX12_empties_4 (by decide) (fun c1 => ?_) (fun c1 => ?_)
    · have h := zift h c1
      obtain rfl := Option.some.inj h
      exact z_ret rfl dX12_empties_60
    · have h := zife h c1
      refine z_iconst 0 (by decide) dX12_empties_7 ?_
      refine z_istore_n dX12_empties_8 (by decide) ?_
      refine zeqL (L2 := [.ref x0, .int x1, .int 0]) rfl ?_
      exact s_X12_empties_b9 hC ih _ _ _ _ _ _ h
def f_X12_empties (x0 : Nat) (M : zMe) : Option zMe :=
  f_X12_empties_b2 zfu x0 0 M
set_option maxHeartbeats 4000000 in
set_option maxRecDepth 100000 in
theorem s_X12_empties {g : zG} (hC : zC g) {x0 : Nat} {M : zMe} {q : zMe} (h : f_X12_empties x0 M = some q) : zMet g yX12_empties mX12_empties [.ref x0] M none q := by
  refine z_entry (by decide +kernel) rfl rfl (Nat.le_of_ble_eq_true rfl) ?_
  refine zeqL (L2 := [.ref x0, .retAddr 0, .retAddr 0]) rfl ?_
  unfold f_X12_empties at h
  refine z_iconst 0 (by decide) dX12_empties_0 ?_
  refine z_istore_n dX12_empties_1 (by decide) ?_
  refine zeqL (L2 := [.ref x0, .int 0, .retAddr 0]) rfl ?_
  exact s_X12_empties_b2 hC _ _ _ _ _ h
def f_X12_leads_b123  (y0 : Int32) (M : zMe) : Option (Int32 × zMe) :=
  if y0 = 0 ∨ y0 = 1 then some (y0, M) else none
set_option maxHeartbeats 4000000 in
set_option maxRecDepth 100000 in
theorem s_X12_leads_b123 {g : zG} (hC : zC g)  (y0 : Int32) (M : zMe) (q : (Int32 × zMe)) (h : f_X12_leads_b123  y0 M = some q) : zW g mX12_leads 123 [.retAddr 0, .retAddr 0, .retAddr 0, .retAddr 0, .retAddr 0, .retAddr 0] [.int y0] M (some (.int q.1)) q.2 := by
  unfold f_X12_leads_b123 at h
  obtain ⟨hz, h⟩ := zifs h
  obtain rfl := Option.some.inj h
  exact z_iret ⟨.boolean, rfl, zbo hz⟩ dX12_leads_123
def f_X12_leads_b106  (x0 : Nat) (M : zMe) : Option (Int32 × zMe) :=
  (zob M x0 12).bind fun _ =>
  (f_X12_empties x0 M).bind fun q1 =>
  (zgI q1 x0 [12] 16).bind fun v1 =>
  if v1 = (-1) then (
    f_X12_leads_b123 0 q1)
  else (
    f_X12_leads_b123 1 q1)
set_option maxHeartbeats 4000000 in
set_option maxRecDepth 100000 in
theorem s_X12_leads_b106 {g : zG} (hC : zC g)  (x0 : Nat) (M : zMe) (q : (Int32 × zMe)) (h : f_X12_leads_b106  x0 M = some q) : zW g mX12_leads 106 [.ref x0, .retAddr 0, .retAddr 0, .retAddr 0, .retAddr 0, .retAddr 0] [] M (some (.int q.1)) q.2 := by
  unfold f_X12_leads_b106 at h
  refine z_aload_n (x := x0) rfl dX12_leads_106 ?_
  obtain ⟨_, hb, h⟩ := zbind h
  obtain ⟨fs, hb⟩ := zob_some hb
  obtain ⟨q1, h1, h⟩ := zbind h
  refine z_callV (av := []) (rest := []) hC zcl_12 hb (s_X12_empties hC h1) lk_X12_173 im_X12_empties se_X12_empties cd_X12_empties ⟨by decide, by decide, (Nat.le_of_ble_eq_true rfl)⟩ dX12_leads_107 ?_
  clear hb fs
  refine zeqS (stk2 := []) rfl ?_
  refine z_aload_n (x := x0) rfl dX12_leads_110 ?_
  obtain ⟨v1, h2, h⟩ := zbind h
  refine z_gI hC fs_X12_163 h2 dX12_leads_111 ?_
  refine z_iconst (-1) (by decide) dX12_leads_114 ?_
  refine z_icmp_eq (tgt := 122) dX12_leads_115 (by decide) (fun c1 => ?_) (fun c1 => ?_)
  · have h := zift h c1
    refine z_iconst 0 (by decide) dX12_leads_122 ?_
    refine zweak [false, false, false, false, false, false] ?_
    exact s_X12_leads_b123 hC _ _ _ h
  · have h := zife h c1
    refine z_iconst 1 (by decide) dX12_leads_118 ?_
    refine z_goto (tgt := 123) dX12_leads_119 (by decide) ?_
    refine zweak [false, false, false, false, false, false] ?_
    exact s_X12_leads_b123 hC _ _ _ h
def f_X12_leads_b100 (k15 : Nat → Int32 → Int32 → Int32 → zMe → Option (Int32 × zMe)) (x0 : Nat) (x2 : Int32) (x3 : Int32) (x4 : Int32) (M : zMe) : Option (Int32 × zMe) :=
  zlet (x4 + 1) fun v1 =>
  k15 x0 x2 x3 v1 M
set_option maxHeartbeats 4000000 in
set_option maxRecDepth 100000 in
theorem s_X12_leads_b100 {g : zG} (hC : zC g) {k15 : Nat → Int32 → Int32 → Int32 → zMe → Option (Int32 × zMe)} (hk15 : ∀ (x0 : Nat) (x2 : Int32) (x3 : Int32) (x4 : Int32) (M : zMe) (q : (Int32 × zMe)), k15 x0 x2 x3 x4 M = some q → zW g mX12_leads 15 [.ref x0, .retAddr 0, .int x2, .int x3, .int x4, .retAddr 0] [] M (some (.int q.1)) q.2) (x0 : Nat) (x2 : Int32) (x3 : Int32) (x4 : Int32) (M : zMe) (q : (Int32 × zMe)) (h : f_X12_leads_b100 k15 x0 x2 x3 x4 M = some q) : zW g mX12_leads 100 [.ref x0, .retAddr 0, .int x2, .int x3, .int x4, .retAddr 0] [] M (some (.int q.1)) q.2 := by
  unfold f_X12_leads_b100 at h
  obtain ⟨v1, hv⟩ : ∃ z : Int32, z = x4 + 1 := ⟨_, rfl⟩
  have h := zlet_use h hv
  refine z_iinc (v := v1) dX12_leads_100 (x := x4) rfl (by rw [hv]; rfl) ?_
  clear hv
  refine zeqL (L2 := [.ref x0, .retAddr 0, .int x2, .int x3, .int v1, .retAddr 0]) rfl ?_
  refine z_goto (tgt := 15) dX12_leads_103 (by decide) ?_
  exact hk15 _ _ _ _ _ _ h
def f_X12_leads_b86 (k15 : Nat → Int32 → Int32 → Int32 → zMe → Option (Int32 × zMe)) (x0 : Nat) (x2 : Int32) (x3 : Int32) (x4 : Int32) (M : zMe) : Option (Int32 × zMe) :=
  if 20 ≤ x4 then (
    f_X12_leads_b100 k15 x0 x2 x3 x4 M)
  else (
    (zob M x0 12).bind fun _ =>
    (f_X12_layer x0 x4 x3 M).bind fun q1 =>
    f_X12_leads_b100 k15 x0 x2 x3 x4 q1)
set_option maxHeartbeats 4000000 in
set_option maxRecDepth 100000 in
theorem s_X12_leads_b86 {g : zG} (hC : zC g) {k15 : Nat → Int32 → Int32 → Int32 → zMe → Option (Int32 × zMe)} (hk15 : ∀ (x0 : Nat) (x2 : Int32) (x3 : Int32) (x4 : Int32) (M : zMe) (q : (Int32 × zMe)), k15 x0 x2 x3 x4 M = some q → zW g mX12_leads 15 [.ref x0, .retAddr 0, .int x2, .int x3, .int x4, .retAddr 0] [] M (some (.int q.1)) q.2) (x0 : Nat) (x2 : Int32) (x3 : Int32) (x4 : Int32) (M : zMe) (q : (Int32 × zMe)) (h : f_X12_leads_b86 k15 x0 x2 x3 x4 M = some q) : zW g mX12_leads 86 [.ref x0, .retAddr 0, .int x2, .int x3, .int x4, .retAddr 0] [] M (some (.int q.1)) q.2 := by
  unfold f_X12_leads_b86 at h
  refine z_iload (x := x4) rfl dX12_leads_86 ?_
  refine z_bipush 20 (by decide) dX12_leads_88 ?_
  refine z_icmp_ge (tgt := 100) dX12_leads_90 (by decide) (fun c1 => ?_) (fun c1 => ?_)
  · have h := zift h c1
    exact s_X12_leads_b100 hC hk15 _ _ _ _ _ _ h
  · have h := zife h c1
    refine z_aload_n (x := x0) rfl dX12_leads_93 ?_
    refine z_iload (x := x4) rfl dX12_leads_94 ?_
    refine z_iload_n (x := x3) rfl dX12_leads_96 ?_
    obtain ⟨_, hb, h⟩ := zbind h
    obtain ⟨fs, hb⟩ := zob_some hb
    obtain ⟨q1, h1, h⟩ := zbind h
    refine z_callV (av := [.int x4, .int x3]) (rest := []) hC zcl_12 hb (s_X12_layer hC h1) lk_X12_169 im_X12_layer se_X12_layer cd_X12_layer ⟨by decide, by decide, (Nat.le_of_ble_eq_true rfl)⟩ dX12_leads_97 ?_
    clear hb fs
    refine zeqS (stk2 := []) rfl ?_
    exact s_X12_leads_b100 hC hk15 _ _ _ _ _ _ h
def f_X12_leads_b74 (k15 : Nat → Int32 → Int32 → Int32 → zMe → Option (Int32 × zMe)) (x0 : Nat) (x2 : Int32) (x3 : Int32) (x4 : Int32) (x5 : Int32) (M : zMe) : Option (Int32 × zMe) :=
  (zpI M x0 [12] 16 x4).bind fun M1 =>
  (zpI M1 x0 [12] 17 x5).bind fun M2 =>
  f_X12_leads_b86 k15 x0 x2 x3 x4 M2
set_option maxHeartbeats 4000000 in
set_option maxRecDepth 100000 in
theorem s_X12_leads_b74 {g : zG} (hC : zC g) {k15 : Nat → Int32 → Int32 → Int32 → zMe → Option (Int32 × zMe)} (hk15 : ∀ (x0 : Nat) (x2 : Int32) (x3 : Int32) (x4 : Int32) (M : zMe) (q : (Int32 × zMe)), k15 x0 x2 x3 x4 M = some q → zW g mX12_leads 15 [.ref x0, .retAddr 0, .int x2, .int x3, .int x4, .retAddr 0] [] M (some (.int q.1)) q.2) (x0 : Nat) (x2 : Int32) (x3 : Int32) (x4 : Int32) (x5 : Int32) (M : zMe) (q : (Int32 × zMe)) (h : f_X12_leads_b74 k15 x0 x2 x3 x4 x5 M = some q) : zW g mX12_leads 74 [.ref x0, .retAddr 0, .int x2, .int x3, .int x4, .int x5] [] M (some (.int q.1)) q.2 := by
  unfold f_X12_leads_b74 at h
  refine z_aload_n (x := x0) rfl dX12_leads_74 ?_
  refine z_iload (x := x4) rfl dX12_leads_75 ?_
  obtain ⟨M1, h1, h⟩ := zbind h
  refine z_pI hC fp_X12_163 h1 dX12_leads_77 ?_
  refine z_aload_n (x := x0) rfl dX12_leads_80 ?_
  refine z_iload (x := x5) rfl dX12_leads_81 ?_
  obtain ⟨M2, h2, h⟩ := zbind h
  refine z_pI hC fp_X12_166 h2 dX12_leads_83 ?_
  refine zweak [true, false, true, true, true, false] ?_
  exact s_X12_leads_b86 hC hk15 _ _ _ _ _ _ h
def f_X12_leads_b34 (k15 : Nat → Int32 → Int32 → Int32 → zMe → Option (Int32 × zMe)) (x0 : Nat) (x2 : Int32) (x3 : Int32) (x4 : Int32) (M : zMe) : Option (Int32 × zMe) :=
  (zgN M x0 [12] 13).bind fun a1 =>
  zlet (x4 - x4 / 2 * 2) fun v1 =>
  (zrI M a1 ((32768 * v1) + x2)).bind fun v2 =>
  zlet (v2 - 1 : Int32) fun v3 =>
  if v3 < 0 then (
    f_X12_leads_b86 k15 x0 x2 x3 x4 M)
  else (
    (zgI M x0 [12] 16).bind fun v4 =>
    if v4 = (-1) then (
      f_X12_leads_b74 k15 x0 x2 x3 x4 v3 M)
    else (
      (zgI M x0 [12] 17).bind fun v5 =>
      if v5 ≤ v3 then (
        f_X12_leads_b86 k15 x0 x2 x3 x4 M)
      else (
        f_X12_leads_b74 k15 x0 x2 x3 x4 v3 M)))
set_option maxHeartbeats 4000000 in
set_option maxRecDepth 100000 in
theorem s_X12_leads_b34 {g : zG} (hC : zC g) {k15 : Nat → Int32 → Int32 → Int32 → zMe → Option (Int32 × zMe)} (hk15 : ∀ (x0 : Nat) (x2 : Int32) (x3 : Int32) (x4 : Int32) (M : zMe) (q : (Int32 × zMe)), k15 x0 x2 x3 x4 M = some q → zW g mX12_leads 15 [.ref x0, .retAddr 0, .int x2, .int x3, .int x4, .retAddr 0] [] M (some (.int q.1)) q.2) (x0 : Nat) (x2 : Int32) (x3 : Int32) (x4 : Int32) (M : zMe) (q : (Int32 × zMe)) (h : f_X12_leads_b34 k15 x0 x2 x3 x4 M = some q) : zW g mX12_leads 34 [.ref x0, .retAddr 0, .int x2, .int x3, .int x4, .retAddr 0] [] M (some (.int q.1)) q.2 := by
  unfold f_X12_leads_b34 at h
  refine z_aload_n (x := x0) rfl dX12_leads_34 ?_
  obtain ⟨a1, h1, h⟩ := zbind h
  refine z_gN hC fs_X12_30 h1 dX12_leads_35 ?_
  refine z_ldc hC dX12_leads_38 kc_X12_154 ?_
  refine z_iload (x := x4) rfl dX12_leads_40 ?_
  refine z_iconst 2 (by decide) dX12_leads_42 ?_
  refine z_irem (by decide) dX12_leads_43 ?_
  refine z_nameI (fun v1 hv => ?_)
  have h := zlet_use h hv
  clear hv
  refine z_imul dX12_leads_44 ?_
  refine z_iload_n (x := x2) rfl dX12_leads_45 ?_
  refine z_iadd dX12_leads_46 ?_
  obtain ⟨v2, h2, h⟩ := zbind h
  refine z_rI h2 dX12_leads_47 ?_
  refine z_iconst 1 (by decide) dX12_leads_48 ?_
  refine z_isub dX12_leads_49 ?_
  refine z_nameI (fun v3 hv => ?_)
  have h := zlet_use h hv
  clear hv
  refine z_istore dX12_leads_50 (by decide) ?_
  refine zeqL (L2 := [.ref x0, .retAddr 0, .int x2, .int x3, .int x4, .int v3]) rfl ?_
  refine z_iload (x := v3) rfl dX12_leads_52 ?_
  refine z_if_lt (tgt := 86) dX12_leads_54 (by decide) (fun c1 => ?_) (fun c1 => ?_)
  · have h := zift h c1
    refine zweak [true, false, true, true, true, false] ?_
    exact s_X12_leads_b86 hC hk15 _ _ _ _ _ _ h
  · have h := zife h c1
    refine z_aload_n (x := x0) rfl dX12_leads_57 ?_
    obtain ⟨v4, h3, h⟩ := zbind h
    refine z_gI hC fs_X12_163 h3 dX12_leads_58 ?_
    refine z_iconst (-1) (by decide) dX12_leads_61 ?_
    refine z_icmp_eq (tgt := 74) dX12_leads_62 (by decide) (fun c2 => ?_) (fun c2 => ?_)
    · have h := zift h c2
      exact s_X12_leads_b74 hC hk15 _ _ _ _ _ _ _ h
    · have h := zife h c2
      refine z_iload (x := v3) rfl dX12_leads_65 ?_
      refine z_aload_n (x := x0) rfl dX12_leads_67 ?_
      obtain ⟨v5, h4, h⟩ := zbind h
      refine z_gI hC fs_X12_166 h4 dX12_leads_68 ?_
      refine z_icmp_ge (tgt := 86) dX12_leads_71 (by decide) (fun c3 => ?_) (fun c3 => ?_)
      · have h := zift h c3
        refine zweak [true, false, true, true, true, false] ?_
        exact s_X12_leads_b86 hC hk15 _ _ _ _ _ _ h
      · have h := zife h c3
        exact s_X12_leads_b74 hC hk15 _ _ _ _ _ _ _ h
def f_X12_leads_b15  : Nat → Nat → Int32 → Int32 → Int32 → zMe → Option (Int32 × zMe)
  | 0, _, _, _, _, _ => none
  | n + 1, x0, x2, x3, x4, M =>
    if 20 < x4 then (
      f_X12_leads_b106 x0 M)
    else (
      if x3 = 0 then (
        (zgI M x0 [12] 16).bind fun v1 =>
        if v1 = (-1) then (
          f_X12_leads_b34 (f_X12_leads_b15 n) x0 x2 x3 x4 M)
        else (
          f_X12_leads_b106 x0 M))
      else (
        f_X12_leads_b34 (f_X12_leads_b15 n) x0 x2 x3 x4 M))
set_option maxHeartbeats 4000000 in
set_option maxRecDepth 100000 in
theorem s_X12_leads_b15 {g : zG} (hC : zC g)  : ∀ (n : Nat) (x0 : Nat) (x2 : Int32) (x3 : Int32) (x4 : Int32) (M : zMe) (q : (Int32 × zMe)), f_X12_leads_b15  n x0 x2 x3 x4 M = some q → zW g mX12_leads 15 [.ref x0, .retAddr 0, .int x2, .int x3, .int x4, .retAddr 0] [] M (some (.int q.1)) q.2 := by
  intro n
  induction n with
  | zero => intro x0 x2 x3 x4 M q h; cases h
  | succ n ih =>
    intro x0 x2 x3 x4 M q h
    rw [f_X12_leads_b15] at h
    refine z_iload (x := x4) rfl dX12_leads_15 ?_
    refine z_bipush 20 (by decide) dX12_leads_17 ?_
    refine z_icmp_gt (tgt := 106) dX12_leads_19 (by decide) (fun c1 => ?_) (fun c1 => ?_)
    · have h := zift h c1
      refine zweak [true, false, false, false, false, false] ?_
      exact s_X12_leads_b106 hC _ _ _ h
    · have h := zife h c1
      refine z_iload_n (x := x3) rfl dX12_leads_22 ?_
      refine z_if_ne (tgt := 34) dX12_leads_23 (by decide) (fun c2 => ?_) (fun c2 => ?_)
      · have h := zife h c2
        exact s_X12_leads_b34 hC ih _ _ _ _ _ _ h
      · have h := zift h c2
        refine z_aload_n (x := x0) rfl dX12_leads_26 ?_
        obtain ⟨v1, h1, h⟩ := zbind h
        refine z_gI hC fs_X12_163 h1 dX12_leads_27 ?_
        refine z_iconst (-1) (by decide) dX12_leads_30 ?_
        refine z_icmp_ne (tgt := 106) dX12_leads_31 (by decide) (fun c3 => ?_) (fun c3 => ?_)
        · have h := zife h c3
          refine zweak [true, false, false, false, false, false] ?_
          exact s_X12_leads_b106 hC _ _ _ h
        · have h := zift h c3
          exact s_X12_leads_b34 hC ih _ _ _ _ _ _ h
def f_X12_leads (x0 : Nat) (x1 : Int32) (x2 : Int32) (x3 : Int32) (M : zMe) : Option (Int32 × zMe) :=
  (zpI M x0 [12] 16 (-1)).bind fun M1 =>
  (zob M1 x0 12).bind fun _ =>
  (f_X12_comesTo x0 0 x1 0 M1).bind fun q1 =>
  f_X12_leads_b15 zfu x0 x2 x3 0 q1
set_option maxHeartbeats 4000000 in
set_option maxRecDepth 100000 in
theorem s_X12_leads {g : zG} (hC : zC g) {x0 : Nat} {x1 : Int32} {x2 : Int32} {x3 : Int32} {M : zMe} {q : (Int32 × zMe)} (h : f_X12_leads x0 x1 x2 x3 M = some q) : zMet g yX12_leads mX12_leads [.ref x0, .int x1, .int x2, .int x3] M (some (.int q.1)) q.2 := by
  refine z_entry (by decide +kernel) rfl rfl (Nat.le_of_ble_eq_true rfl) ?_
  refine zeqL (L2 := [.ref x0, .int x1, .int x2, .int x3, .retAddr 0, .retAddr 0]) rfl ?_
  unfold f_X12_leads at h
  refine z_aload_n (x := x0) rfl dX12_leads_0 ?_
  refine z_iconst (-1) (by decide) dX12_leads_1 ?_
  obtain ⟨M1, h1, h⟩ := zbind h
  refine z_pI hC fp_X12_163 h1 dX12_leads_2 ?_
  refine z_aload_n (x := x0) rfl dX12_leads_5 ?_
  refine z_iconst 0 (by decide) dX12_leads_6 ?_
  refine z_iload_n (x := x1) rfl dX12_leads_7 ?_
  refine z_iconst 0 (by decide) dX12_leads_8 ?_
  obtain ⟨_, hb, h⟩ := zbind h
  obtain ⟨fs, hb⟩ := zob_some hb
  obtain ⟨q1, h2, h⟩ := zbind h
  refine z_callV (av := [.int 0, .int x1, .int 0]) (rest := []) hC zcl_12 hb (s_X12_comesTo hC h2) lk_X12_159 im_X12_comesTo se_X12_comesTo cd_X12_comesTo ⟨by decide, by decide, (Nat.le_of_ble_eq_true rfl)⟩ dX12_leads_9 ?_
  clear hb fs
  refine zeqS (stk2 := []) rfl ?_
  refine z_iconst 0 (by decide) dX12_leads_12 ?_
  refine z_istore dX12_leads_13 (by decide) ?_
  refine zeqL (L2 := [.ref x0, .int x1, .int x2, .int x3, .int 0, .retAddr 0]) rfl ?_
  refine zweak [true, false, true, true, true, false] ?_
  exact s_X12_leads_b15 hC _ _ _ _ _ _ _ h
def f_X12_all_b38 (k5 : Nat → Int32 → Int32 → Int32 → Int32 → zMe → Option (Int32 × zMe)) (x0 : Nat) (x1 : Int32) (x2 : Int32) (x4 : Int32) (y0 : Int32) (y1 : Int32) (M : zMe) : Option (Int32 × zMe) :=
  zlet (y1 ||| y0 : Int32) fun v1 =>
  zlet (x4 + 1) fun v2 =>
  k5 x0 x1 x2 v1 v2 M
set_option maxHeartbeats 4000000 in
set_option maxRecDepth 100000 in
theorem s_X12_all_b38 {g : zG} (hC : zC g) {k5 : Nat → Int32 → Int32 → Int32 → Int32 → zMe → Option (Int32 × zMe)} (hk5 : ∀ (x0 : Nat) (x1 : Int32) (x2 : Int32) (x3 : Int32) (x4 : Int32) (M : zMe) (q : (Int32 × zMe)), k5 x0 x1 x2 x3 x4 M = some q → zW g mX12_all 5 [.ref x0, .int x1, .int x2, .int x3, .int x4] [] M (some (.int q.1)) q.2) (x0 : Nat) (x1 : Int32) (x2 : Int32) (x4 : Int32) (y0 : Int32) (y1 : Int32) (M : zMe) (q : (Int32 × zMe)) (h : f_X12_all_b38 k5 x0 x1 x2 x4 y0 y1 M = some q) : zW g mX12_all 38 [.ref x0, .int x1, .int x2, .retAddr 0, .int x4] [.int y0, .int y1] M (some (.int q.1)) q.2 := by
  unfold f_X12_all_b38 at h
  refine z_ior dX12_all_38 ?_
  refine z_nameI (fun v1 hv => ?_)
  have h := zlet_use h hv
  clear hv
  refine z_istore_n dX12_all_39 (by decide) ?_
  refine zeqL (L2 := [.ref x0, .int x1, .int x2, .int v1, .int x4]) rfl ?_
  obtain ⟨v2, hv⟩ : ∃ z : Int32, z = x4 + 1 := ⟨_, rfl⟩
  have h := zlet_use h hv
  refine z_iinc (v := v2) dX12_all_40 (x := x4) rfl (by rw [hv]; rfl) ?_
  clear hv
  refine zeqL (L2 := [.ref x0, .int x1, .int x2, .int v1, .int v2]) rfl ?_
  refine z_goto (tgt := 5) dX12_all_43 (by decide) ?_
  exact hk5 _ _ _ _ _ _ _ h
def f_X12_all_b5  : Nat → Nat → Int32 → Int32 → Int32 → Int32 → zMe → Option (Int32 × zMe)
  | 0, _, _, _, _, _, _ => none
  | n + 1, x0, x1, x2, x3, x4, M =>
    (zgN M x0 [12] 0).bind fun a1 =>
    (zrI M a1 6).bind fun v1 =>
    if v1 ≤ x4 then (
      some (x3, M))
    else (
      if ((x1 >>> (x4 &&& 31)) &&& 1) = 1 then (
        f_X12_all_b38 (f_X12_all_b5 n) x0 x1 x2 x4 (x2 <<< ((5 * x4) &&& 31)) x3 M)
      else (
        f_X12_all_b38 (f_X12_all_b5 n) x0 x1 x2 x4 0 x3 M))
set_option maxHeartbeats 4000000 in
set_option maxRecDepth 100000 in
theorem s_X12_all_b5 {g : zG} (hC : zC g)  : ∀ (n : Nat) (x0 : Nat) (x1 : Int32) (x2 : Int32) (x3 : Int32) (x4 : Int32) (M : zMe) (q : (Int32 × zMe)), f_X12_all_b5  n x0 x1 x2 x3 x4 M = some q → zW g mX12_all 5 [.ref x0, .int x1, .int x2, .int x3, .int x4] [] M (some (.int q.1)) q.2 := by
  intro n
  induction n with
  | zero => intro x0 x1 x2 x3 x4 M q h; cases h
  | succ n ih =>
    intro x0 x1 x2 x3 x4 M q h
    rw [f_X12_all_b5] at h
    refine z_iload (x := x4) rfl dX12_all_5 ?_
    refine z_aload_n (x := x0) rfl dX12_all_7 ?_
    obtain ⟨a1, h1, h⟩ := zbind h
    refine z_gN hC fs_X12_7 h1 dX12_all_8 ?_
    refine z_bipush 6 (by decide) dX12_all_11 ?_
    obtain ⟨v1, h2, h⟩ := zbind h
    refine z_rI h2 dX12_all_13 ?_
    refine z_icmp_ge (tgt := 46) dX12_all_14 (by decide) (fun c1 => ?_) (fun c1 => ?_)
    · have h := zift h c1
      refine z_iload_n (x := x3) rfl dX12_all_46 ?_
      obtain rfl := Option.some.inj h
      exact z_iret ⟨.int, rfl, rfl⟩ dX12_all_47
    · have h := zife h c1
      refine z_iload_n (x := x3) rfl dX12_all_17 ?_
      refine z_iload_n (x := x1) rfl dX12_all_18 ?_
      refine z_iload (x := x4) rfl dX12_all_19 ?_
      refine z_ishr dX12_all_21 ?_
      refine z_iconst 1 (by decide) dX12_all_22 ?_
      refine z_iand dX12_all_23 ?_
      refine z_iconst 1 (by decide) dX12_all_24 ?_
      refine z_icmp_ne (tgt := 37) dX12_all_25 (by decide) (fun c2 => ?_) (fun c2 => ?_)
      · have h := zife h c2
        refine z_iconst 0 (by decide) dX12_all_37 ?_
        refine zweak [true, true, true, false, true] ?_
        exact s_X12_all_b38 hC ih _ _ _ _ _ _ _ _ h
      · have h := zift h c2
        refine z_iload_n (x := x2) rfl dX12_all_28 ?_
        refine z_iconst 5 (by decide) dX12_all_29 ?_
        refine z_iload (x := x4) rfl dX12_all_30 ?_
        refine z_imul dX12_all_32 ?_
        refine z_ishl dX12_all_33 ?_
        refine z_goto (tgt := 38) dX12_all_34 (by decide) ?_
        refine zweak [true, true, true, false, true] ?_
        exact s_X12_all_b38 hC ih _ _ _ _ _ _ _ _ h
def f_X12_all (x0 : Nat) (x1 : Int32) (x2 : Int32) (M : zMe) : Option (Int32 × zMe) :=
  f_X12_all_b5 zfu x0 x1 x2 0 0 M
set_option maxHeartbeats 4000000 in
set_option maxRecDepth 100000 in
theorem s_X12_all {g : zG} (hC : zC g) {x0 : Nat} {x1 : Int32} {x2 : Int32} {M : zMe} {q : (Int32 × zMe)} (h : f_X12_all x0 x1 x2 M = some q) : zMet g yX12_all mX12_all [.ref x0, .int x1, .int x2] M (some (.int q.1)) q.2 := by
  refine z_entry (by decide +kernel) rfl rfl (Nat.le_of_ble_eq_true rfl) ?_
  refine zeqL (L2 := [.ref x0, .int x1, .int x2, .retAddr 0, .retAddr 0]) rfl ?_
  unfold f_X12_all at h
  refine z_iconst 0 (by decide) dX12_all_0 ?_
  refine z_istore_n dX12_all_1 (by decide) ?_
  refine zeqL (L2 := [.ref x0, .int x1, .int x2, .int 0, .retAddr 0]) rfl ?_
  refine z_iconst 0 (by decide) dX12_all_2 ?_
  refine z_istore dX12_all_3 (by decide) ?_
  refine zeqL (L2 := [.ref x0, .int x1, .int x2, .int 0, .int 0]) rfl ?_
  exact s_X12_all_b5 hC _ _ _ _ _ _ _ _ h
def f_X12_tames (x0 : Nat) (x1 : Int32) (x2 : Int32) (M : zMe) : Option (Int32 × zMe) :=
  (zgN M x0 [12] 0).bind fun a1 =>
  (zrI M a1 0).bind fun v1 =>
  (zob M x0 12).bind fun _ =>
  (f_X12_all x0 x1 (((1 : Int32) <<< (v1 &&& 31)) - 1) M).bind fun q1 =>
  (zgN q1.2 x0 [12] 0).bind fun a2 =>
  (zrI q1.2 a2 2).bind fun v2 =>
  (zob q1.2 x0 12).bind fun _ =>
  (f_X12_all x0 x1 ((1 : Int32) <<< (v2 &&& 31)) q1.2).bind fun q2 =>
  (zob q2.2 x0 12).bind fun _ =>
  (f_X12_leads x0 q1.1 q2.1 x2 q2.2).bind fun q3 =>
  if q3.1 = 0 ∨ q3.1 = 1 then some (q3.1, q3.2) else none
set_option maxHeartbeats 4000000 in
set_option maxRecDepth 100000 in
theorem s_X12_tames {g : zG} (hC : zC g) {x0 : Nat} {x1 : Int32} {x2 : Int32} {M : zMe} {q : (Int32 × zMe)} (h : f_X12_tames x0 x1 x2 M = some q) : zMet g yX12_tames mX12_tames [.ref x0, .int x1, .int x2] M (some (.int q.1)) q.2 := by
  refine z_entry (by decide +kernel) rfl rfl (Nat.le_of_ble_eq_true rfl) ?_
  refine zeqL (L2 := [.ref x0, .int x1, .int x2]) rfl ?_
  unfold f_X12_tames at h
  refine z_aload_n (x := x0) rfl dX12_tames_0 ?_
  refine z_aload_n (x := x0) rfl dX12_tames_1 ?_
  refine z_iload_n (x := x1) rfl dX12_tames_2 ?_
  refine z_iconst 1 (by decide) dX12_tames_3 ?_
  refine z_aload_n (x := x0) rfl dX12_tames_4 ?_
  obtain ⟨a1, h1, h⟩ := zbind h
  refine z_gN hC fs_X12_7 h1 dX12_tames_5 ?_
  refine z_iconst 0 (by decide) dX12_tames_8 ?_
  obtain ⟨v1, h2, h⟩ := zbind h
  refine z_rI h2 dX12_tames_9 ?_
  refine z_ishl dX12_tames_10 ?_
  refine z_iconst 1 (by decide) dX12_tames_11 ?_
  refine z_isub dX12_tames_12 ?_
  obtain ⟨_, hb, h⟩ := zbind h
  obtain ⟨fs, hb⟩ := zob_some hb
  obtain ⟨q1, h3, h⟩ := zbind h
  refine z_callV (av := [.int x1, .int (((1 : Int32) <<< (v1 &&& 31)) - 1)]) (rest := [.ref x0]) hC zcl_12 hb (s_X12_all hC h3) lk_X12_176 im_X12_all se_X12_all cd_X12_all ⟨by decide, by decide, (Nat.le_of_ble_eq_true rfl)⟩ dX12_tames_13 ?_
  clear hb fs
  refine zeqS (stk2 := [.int q1.1, .ref x0]) rfl ?_
  refine z_aload_n (x := x0) rfl dX12_tames_16 ?_
  refine z_iload_n (x := x1) rfl dX12_tames_17 ?_
  refine z_iconst 1 (by decide) dX12_tames_18 ?_
  refine z_aload_n (x := x0) rfl dX12_tames_19 ?_
  obtain ⟨a2, h4, h⟩ := zbind h
  refine z_gN hC fs_X12_7 h4 dX12_tames_20 ?_
  refine z_iconst 2 (by decide) dX12_tames_23 ?_
  obtain ⟨v2, h5, h⟩ := zbind h
  refine z_rI h5 dX12_tames_24 ?_
  refine z_ishl dX12_tames_25 ?_
  obtain ⟨_, hb, h⟩ := zbind h
  obtain ⟨fs, hb⟩ := zob_some hb
  obtain ⟨q2, h6, h⟩ := zbind h
  refine z_callV (av := [.int x1, .int ((1 : Int32) <<< (v2 &&& 31))]) (rest := [.int q1.1, .ref x0]) hC zcl_12 hb (s_X12_all hC h6) lk_X12_176 im_X12_all se_X12_all cd_X12_all ⟨by decide, by decide, (Nat.le_of_ble_eq_true rfl)⟩ dX12_tames_26 ?_
  clear hb fs
  refine zeqS (stk2 := [.int q2.1, .int q1.1, .ref x0]) rfl ?_
  refine z_iload_n (x := x2) rfl dX12_tames_29 ?_
  obtain ⟨_, hb, h⟩ := zbind h
  obtain ⟨fs, hb⟩ := zob_some hb
  obtain ⟨q3, h7, h⟩ := zbind h
  refine z_callV (av := [.int q1.1, .int q2.1, .int x2]) (rest := []) hC zcl_12 hb (s_X12_leads hC h7) lk_X12_179 im_X12_leads se_X12_leads cd_X12_leads ⟨by decide, by decide, (Nat.le_of_ble_eq_true rfl)⟩ dX12_tames_30 ?_
  clear hb fs
  refine zeqS (stk2 := [.int q3.1]) rfl ?_
  obtain ⟨hz, h⟩ := zifs h
  obtain rfl := Option.some.inj h
  exact z_iret ⟨.boolean, rfl, zbo hz⟩ dX12_tames_33
def f_X12_tune_b4  : Nat → Nat → Int32 → Int32 → zMe → Option (Int32 × zMe)
  | 0, _, _, _, _ => none
  | n + 1, x0, x1, x2, M =>
    (zgI M x0 [12] 16).bind fun v1 =>
    if v1 ≤ x2 then (
      some (x1, M))
    else (
      (zgI M x0 [12] 17).bind fun v2 =>
      zlet ((2 * x1) + ((v2 >>> (x2 &&& 31)) &&& 1) : Int32) fun v3 =>
      zlet (x2 + 1) fun v4 =>
      f_X12_tune_b4 n x0 v3 v4 M)
set_option maxHeartbeats 4000000 in
set_option maxRecDepth 100000 in
theorem s_X12_tune_b4 {g : zG} (hC : zC g)  : ∀ (n : Nat) (x0 : Nat) (x1 : Int32) (x2 : Int32) (M : zMe) (q : (Int32 × zMe)), f_X12_tune_b4  n x0 x1 x2 M = some q → zW g mX12_tune 4 [.ref x0, .int x1, .int x2] [] M (some (.int q.1)) q.2 := by
  intro n
  induction n with
  | zero => intro x0 x1 x2 M q h; cases h
  | succ n ih =>
    intro x0 x1 x2 M q h
    rw [f_X12_tune_b4] at h
    refine z_iload_n (x := x2) rfl dX12_tune_4 ?_
    refine z_aload_n (x := x0) rfl dX12_tune_5 ?_
    obtain ⟨v1, h1, h⟩ := zbind h
    refine z_gI hC fs_X12_163 h1 dX12_tune_6 ?_
    refine z_icmp_ge (tgt := 31) dX12_tune_9 (by decide) (fun c1 => ?_) (fun c1 => ?_)
    · have h := zift h c1
      refine z_iload_n (x := x1) rfl dX12_tune_31 ?_
      obtain rfl := Option.some.inj h
      exact z_iret ⟨.int, rfl, rfl⟩ dX12_tune_32
    · have h := zife h c1
      refine z_iconst 2 (by decide) dX12_tune_12 ?_
      refine z_iload_n (x := x1) rfl dX12_tune_13 ?_
      refine z_imul dX12_tune_14 ?_
      refine z_aload_n (x := x0) rfl dX12_tune_15 ?_
      obtain ⟨v2, h2, h⟩ := zbind h
      refine z_gI hC fs_X12_166 h2 dX12_tune_16 ?_
      refine z_iload_n (x := x2) rfl dX12_tune_19 ?_
      refine z_ishr dX12_tune_20 ?_
      refine z_iconst 1 (by decide) dX12_tune_21 ?_
      refine z_iand dX12_tune_22 ?_
      refine z_iadd dX12_tune_23 ?_
      refine z_nameI (fun v3 hv => ?_)
      have h := zlet_use h hv
      clear hv
      refine z_istore_n dX12_tune_24 (by decide) ?_
      refine zeqL (L2 := [.ref x0, .int v3, .int x2]) rfl ?_
      obtain ⟨v4, hv⟩ : ∃ z : Int32, z = x2 + 1 := ⟨_, rfl⟩
      have h := zlet_use h hv
      refine z_iinc (v := v4) dX12_tune_25 (x := x2) rfl (by rw [hv]; rfl) ?_
      clear hv
      refine zeqL (L2 := [.ref x0, .int v3, .int v4]) rfl ?_
      refine z_goto (tgt := 4) dX12_tune_28 (by decide) ?_
      exact ih _ _ _ _ _ h
def f_X12_tune (x0 : Nat) (M : zMe) : Option (Int32 × zMe) :=
  f_X12_tune_b4 zfu x0 0 0 M
set_option maxHeartbeats 4000000 in
set_option maxRecDepth 100000 in
theorem s_X12_tune {g : zG} (hC : zC g) {x0 : Nat} {M : zMe} {q : (Int32 × zMe)} (h : f_X12_tune x0 M = some q) : zMet g yX12_tune mX12_tune [.ref x0] M (some (.int q.1)) q.2 := by
  refine z_entry (by decide +kernel) rfl rfl (Nat.le_of_ble_eq_true rfl) ?_
  refine zeqL (L2 := [.ref x0, .retAddr 0, .retAddr 0]) rfl ?_
  unfold f_X12_tune at h
  refine z_iconst 0 (by decide) dX12_tune_0 ?_
  refine z_istore_n dX12_tune_1 (by decide) ?_
  refine zeqL (L2 := [.ref x0, .int 0, .retAddr 0]) rfl ?_
  refine z_iconst 0 (by decide) dX12_tune_2 ?_
  refine z_istore_n dX12_tune_3 (by decide) ?_
  refine zeqL (L2 := [.ref x0, .int 0, .int 0]) rfl ?_
  exact s_X12_tune_b4 hC _ _ _ _ _ _ h
def f_X12_tame_b53  (y0 : Int32) (M : zMe) : Option (Int32 × zMe) :=
  some (y0, M)
set_option maxHeartbeats 4000000 in
set_option maxRecDepth 100000 in
theorem s_X12_tame_b53 {g : zG} (hC : zC g)  (y0 : Int32) (M : zMe) (q : (Int32 × zMe)) (h : f_X12_tame_b53  y0 M = some q) : zW g mX12_tame 53 [.retAddr 0, .retAddr 0, .retAddr 0] [.int y0] M (some (.int q.1)) q.2 := by
  unfold f_X12_tame_b53 at h
  obtain rfl := Option.some.inj h
  exact z_iret ⟨.int, rfl, rfl⟩ dX12_tame_53
def f_X12_tame_b17  (x0 : Nat) (M : zMe) : Option (Int32 × zMe) :=
  (zob M x0 12).bind fun _ =>
  (f_X12_refuses x0 0 (-10) M).bind fun q1 =>
  some (q1.1, q1.2)
set_option maxHeartbeats 4000000 in
set_option maxRecDepth 100000 in
theorem s_X12_tame_b17 {g : zG} (hC : zC g)  (x0 : Nat) (M : zMe) (q : (Int32 × zMe)) (h : f_X12_tame_b17  x0 M = some q) : zW g mX12_tame 17 [.ref x0, .retAddr 0, .retAddr 0] [] M (some (.int q.1)) q.2 := by
  unfold f_X12_tame_b17 at h
  refine z_aload_n (x := x0) rfl dX12_tame_17 ?_
  refine z_iconst 0 (by decide) dX12_tame_18 ?_
  refine z_bipush (-10) (by decide) dX12_tame_19 ?_
  obtain ⟨_, hb, h⟩ := zbind h
  obtain ⟨fs, hb⟩ := zob_some hb
  obtain ⟨q1, h1, h⟩ := zbind h
  refine z_callV (av := [.int 0, .int (-10)]) (rest := []) hC zcl_12 hb (s_X12_refuses hC h1) lk_X12_53 im_X12_refuses se_X12_refuses cd_X12_refuses ⟨by decide, by decide, (Nat.le_of_ble_eq_true rfl)⟩ dX12_tame_21 ?_
  clear hb fs
  refine zeqS (stk2 := [.int q1.1]) rfl ?_
  obtain rfl := Option.some.inj h
  exact z_iret ⟨.int, rfl, rfl⟩ dX12_tame_24
def f_X12_tame (x0 : Nat) (x1 : Int32) (x2 : Int32) (M : zMe) : Option (Int32 × zMe) :=
  (zob M x0 12).bind fun _ =>
  (f_X12_isSet x0 x1 M).bind fun q1 =>
  if q1.1 = 0 then (
    f_X12_tame_b17 x0 q1.2)
  else (
    (f_X12_in x2 0 1 q1.2).bind fun q2 =>
    if q2.1 = 0 then (
      f_X12_tame_b17 x0 q2.2)
    else (
      (zob q2.2 x0 12).bind fun _ =>
      (f_X12_tames x0 x1 0 q2.2).bind fun q3 =>
      if q3.1 = 0 then (
        f_X12_tame_b53 (-1) q3.2)
      else (
        if x2 = 0 then (
          (zgI q3.2 x0 [12] 16).bind fun v1 =>
          f_X12_tame_b53 v1 q3.2)
        else (
          (zob q3.2 x0 12).bind fun _ =>
          (f_X12_tune x0 q3.2).bind fun q4 =>
          f_X12_tame_b53 q4.1 q4.2))))
set_option maxHeartbeats 4000000 in
set_option maxRecDepth 100000 in
theorem s_X12_tame {g : zG} (hC : zC g) {x0 : Nat} {x1 : Int32} {x2 : Int32} {M : zMe} {q : (Int32 × zMe)} (h : f_X12_tame x0 x1 x2 M = some q) : zMet g yX12_tame mX12_tame [.ref x0, .int x1, .int x2] M (some (.int q.1)) q.2 := by
  refine z_entry (by decide +kernel) rfl rfl (Nat.le_of_ble_eq_true rfl) ?_
  refine zeqL (L2 := [.ref x0, .int x1, .int x2]) rfl ?_
  unfold f_X12_tame at h
  refine z_aload_n (x := x0) rfl dX12_tame_0 ?_
  refine z_iload_n (x := x1) rfl dX12_tame_1 ?_
  obtain ⟨_, hb, h⟩ := zbind h
  obtain ⟨fs, hb⟩ := zob_some hb
  obtain ⟨q1, h1, h⟩ := zbind h
  refine z_callV (av := [.int x1]) (rest := []) hC zcl_12 hb (s_X12_isSet hC h1) lk_X12_183 im_X12_isSet se_X12_isSet cd_X12_isSet ⟨by decide, by decide, (Nat.le_of_ble_eq_true rfl)⟩ dX12_tame_2 ?_
  clear hb fs
  refine zeqS (stk2 := [.int q1.1]) rfl ?_
  refine z_if_eq (tgt := 17) dX12_tame_5 (by decide) (fun c1 => ?_) (fun c1 => ?_)
  · have h := zift h c1
    refine zweak [true, false, false] ?_
    exact s_X12_tame_b17 hC _ _ _ h
  · have h := zife h c1
    refine z_iload_n (x := x2) rfl dX12_tame_8 ?_
    refine z_iconst 0 (by decide) dX12_tame_9 ?_
    refine z_iconst 1 (by decide) dX12_tame_10 ?_
    obtain ⟨q2, h2, h⟩ := zbind h
    refine z_callS (av := [.int x2, .int 0, .int 1]) (rest := []) hC (s_X12_in hC h2) lk_X12_57 st_X12_in cd_X12_in ⟨by decide, by decide, (Nat.le_of_ble_eq_true rfl)⟩ dX12_tame_11 ?_
    refine zeqS (stk2 := [.int q2.1]) rfl ?_
    refine z_if_ne (tgt := 25) dX12_tame_14 (by decide) (fun c2 => ?_) (fun c2 => ?_)
    · have h := zife h c2
      refine z_aload_n (x := x0) rfl dX12_tame_25 ?_
      refine z_iload_n (x := x1) rfl dX12_tame_26 ?_
      refine z_iconst 0 (by decide) dX12_tame_27 ?_
      obtain ⟨_, hb, h⟩ := zbind h
      obtain ⟨fs, hb⟩ := zob_some hb
      obtain ⟨q3, h3, h⟩ := zbind h
      refine z_callV (av := [.int x1, .int 0]) (rest := []) hC zcl_12 hb (s_X12_tames hC h3) lk_X12_186 im_X12_tames se_X12_tames cd_X12_tames ⟨by decide, by decide, (Nat.le_of_ble_eq_true rfl)⟩ dX12_tame_28 ?_
      clear hb fs
      refine zeqS (stk2 := [.int q3.1]) rfl ?_
      refine z_if_ne (tgt := 38) dX12_tame_31 (by decide) (fun c3 => ?_) (fun c3 => ?_)
      · have h := zife h c3
        refine z_iload_n (x := x2) rfl dX12_tame_38 ?_
        refine z_if_ne (tgt := 49) dX12_tame_39 (by decide) (fun c4 => ?_) (fun c4 => ?_)
        · have h := zife h c4
          refine z_aload_n (x := x0) rfl dX12_tame_49 ?_
          obtain ⟨_, hb, h⟩ := zbind h
          obtain ⟨fs, hb⟩ := zob_some hb
          obtain ⟨q4, h5, h⟩ := zbind h
          refine z_callV (av := []) (rest := []) hC zcl_12 hb (s_X12_tune hC h5) lk_X12_190 im_X12_tune se_X12_tune cd_X12_tune ⟨by decide, by decide, (Nat.le_of_ble_eq_true rfl)⟩ dX12_tame_50 ?_
          clear hb fs
          refine zeqS (stk2 := [.int q4.1]) rfl ?_
          refine zweak [false, false, false] ?_
          exact s_X12_tame_b53 hC _ _ _ h
        · have h := zift h c4
          refine z_aload_n (x := x0) rfl dX12_tame_42 ?_
          obtain ⟨v1, h4, h⟩ := zbind h
          refine z_gI hC fs_X12_163 h4 dX12_tame_43 ?_
          refine z_goto (tgt := 53) dX12_tame_46 (by decide) ?_
          refine zweak [false, false, false] ?_
          exact s_X12_tame_b53 hC _ _ _ h
      · have h := zift h c3
        refine z_iconst (-1) (by decide) dX12_tame_34 ?_
        refine z_goto (tgt := 53) dX12_tame_35 (by decide) ?_
        refine zweak [false, false, false] ?_
        exact s_X12_tame_b53 hC _ _ _ h
    · have h := zift h c2
      refine zweak [true, false, false] ?_
      exact s_X12_tame_b17 hC _ _ _ h
def f_X12_quiet_b32  (y0 : Int32) (M : zMe) : Option (Int32 × zMe) :=
  some (y0, M)
set_option maxHeartbeats 4000000 in
set_option maxRecDepth 100000 in
theorem s_X12_quiet_b32 {g : zG} (hC : zC g)  (y0 : Int32) (M : zMe) (q : (Int32 × zMe)) (h : f_X12_quiet_b32  y0 M = some q) : zW g mX12_quiet 32 [.retAddr 0, .retAddr 0] [.int y0] M (some (.int q.1)) q.2 := by
  unfold f_X12_quiet_b32 at h
  obtain rfl := Option.some.inj h
  exact z_iret ⟨.int, rfl, rfl⟩ dX12_quiet_32
def f_X12_quiet (x0 : Nat) (x1 : Int32) (M : zMe) : Option (Int32 × zMe) :=
  (zob M x0 12).bind fun _ =>
  (f_X12_isSet x0 x1 M).bind fun q1 =>
  if q1.1 = 0 then (
    (zob q1.2 x0 12).bind fun _ =>
    (f_X12_bad x0 q1.2).bind fun q2 =>
    f_X12_quiet_b32 q2.1 q2.2)
  else (
    (zob q1.2 x0 12).bind fun _ =>
    (f_X12_tames x0 x1 1 q1.2).bind fun q3 =>
    if q3.1 = 0 then (
      f_X12_quiet_b32 (-1) q3.2)
    else (
      (zgI q3.2 x0 [12] 17).bind fun v1 =>
      f_X12_quiet_b32 v1 q3.2))
set_option maxHeartbeats 4000000 in
set_option maxRecDepth 100000 in
theorem s_X12_quiet {g : zG} (hC : zC g) {x0 : Nat} {x1 : Int32} {M : zMe} {q : (Int32 × zMe)} (h : f_X12_quiet x0 x1 M = some q) : zMet g yX12_quiet mX12_quiet [.ref x0, .int x1] M (some (.int q.1)) q.2 := by
  refine z_entry (by decide +kernel) rfl rfl (Nat.le_of_ble_eq_true rfl) ?_
  refine zeqL (L2 := [.ref x0, .int x1]) rfl ?_
  unfold f_X12_quiet at h
  refine z_aload_n (x := x0) rfl dX12_quiet_0 ?_
  refine z_iload_n (x := x1) rfl dX12_quiet_1 ?_
  obtain ⟨_, hb, h⟩ := zbind h
  obtain ⟨fs, hb⟩ := zob_some hb
  obtain ⟨q1, h1, h⟩ := zbind h
  refine z_callV (av := [.int x1]) (rest := []) hC zcl_12 hb (s_X12_isSet hC h1) lk_X12_183 im_X12_isSet se_X12_isSet cd_X12_isSet ⟨by decide, by decide, (Nat.le_of_ble_eq_true rfl)⟩ dX12_quiet_2 ?_
  clear hb fs
  refine zeqS (stk2 := [.int q1.1]) rfl ?_
  refine z_if_ne (tgt := 15) dX12_quiet_5 (by decide) (fun c1 => ?_) (fun c1 => ?_)
  · have h := zife h c1
    refine z_aload_n (x := x0) rfl dX12_quiet_15 ?_
    refine z_iload_n (x := x1) rfl dX12_quiet_16 ?_
    refine z_iconst 1 (by decide) dX12_quiet_17 ?_
    obtain ⟨_, hb, h⟩ := zbind h
    obtain ⟨fs, hb⟩ := zob_some hb
    obtain ⟨q3, h3, h⟩ := zbind h
    refine z_callV (av := [.int x1, .int 1]) (rest := []) hC zcl_12 hb (s_X12_tames hC h3) lk_X12_186 im_X12_tames se_X12_tames cd_X12_tames ⟨by decide, by decide, (Nat.le_of_ble_eq_true rfl)⟩ dX12_quiet_18 ?_
    clear hb fs
    refine zeqS (stk2 := [.int q3.1]) rfl ?_
    refine z_if_eq (tgt := 31) dX12_quiet_21 (by decide) (fun c2 => ?_) (fun c2 => ?_)
    · have h := zift h c2
      refine z_iconst (-1) (by decide) dX12_quiet_31 ?_
      refine zweak [false, false] ?_
      exact s_X12_quiet_b32 hC _ _ _ h
    · have h := zife h c2
      refine z_aload_n (x := x0) rfl dX12_quiet_24 ?_
      obtain ⟨v1, h4, h⟩ := zbind h
      refine z_gI hC fs_X12_166 h4 dX12_quiet_25 ?_
      refine z_goto (tgt := 32) dX12_quiet_28 (by decide) ?_
      refine zweak [false, false] ?_
      exact s_X12_quiet_b32 hC _ _ _ h
  · have h := zift h c1
    refine z_aload_n (x := x0) rfl dX12_quiet_8 ?_
    obtain ⟨_, hb, h⟩ := zbind h
    obtain ⟨fs, hb⟩ := zob_some hb
    obtain ⟨q2, h2, h⟩ := zbind h
    refine z_callV (av := []) (rest := []) hC zcl_12 hb (s_X12_bad hC h2) lk_X12_61 im_X12_bad se_X12_bad cd_X12_bad ⟨by decide, by decide, (Nat.le_of_ble_eq_true rfl)⟩ dX12_quiet_9 ?_
    clear hb fs
    refine zeqS (stk2 := [.int q2.1]) rfl ?_
    refine z_goto (tgt := 32) dX12_quiet_12 (by decide) ?_
    refine zweak [false, false] ?_
    exact s_X12_quiet_b32 hC _ _ _ h
def f_X12_bits_b4  : Nat → Int32 → Int32 → Int32 → zMe → Option (Int32 × zMe)
  | 0, _, _, _, _ => none
  | n + 1, x0, x1, x2, M =>
    if 5 ≤ x2 then (
      some (x1, M))
    else (
      zlet (x1 + ((x0 >>> (x2 &&& 31)) &&& 1) : Int32) fun v1 =>
      zlet (x2 + 1) fun v2 =>
      f_X12_bits_b4 n x0 v1 v2 M)
set_option maxHeartbeats 4000000 in
set_option maxRecDepth 100000 in
theorem s_X12_bits_b4 {g : zG} (hC : zC g)  : ∀ (n : Nat) (x0 : Int32) (x1 : Int32) (x2 : Int32) (M : zMe) (q : (Int32 × zMe)), f_X12_bits_b4  n x0 x1 x2 M = some q → zW g mX12_bits 4 [.int x0, .int x1, .int x2] [] M (some (.int q.1)) q.2 := by
  intro n
  induction n with
  | zero => intro x0 x1 x2 M q h; cases h
  | succ n ih =>
    intro x0 x1 x2 M q h
    rw [f_X12_bits_b4] at h
    refine z_iload_n (x := x2) rfl dX12_bits_4 ?_
    refine z_iconst 5 (by decide) dX12_bits_5 ?_
    refine z_icmp_ge (tgt := 23) dX12_bits_6 (by decide) (fun c1 => ?_) (fun c1 => ?_)
    · have h := zift h c1
      refine z_iload_n (x := x1) rfl dX12_bits_23 ?_
      obtain rfl := Option.some.inj h
      exact z_iret ⟨.int, rfl, rfl⟩ dX12_bits_24
    · have h := zife h c1
      refine z_iload_n (x := x1) rfl dX12_bits_9 ?_
      refine z_iload_n (x := x0) rfl dX12_bits_10 ?_
      refine z_iload_n (x := x2) rfl dX12_bits_11 ?_
      refine z_ishr dX12_bits_12 ?_
      refine z_iconst 1 (by decide) dX12_bits_13 ?_
      refine z_iand dX12_bits_14 ?_
      refine z_iadd dX12_bits_15 ?_
      refine z_nameI (fun v1 hv => ?_)
      have h := zlet_use h hv
      clear hv
      refine z_istore_n dX12_bits_16 (by decide) ?_
      refine zeqL (L2 := [.int x0, .int v1, .int x2]) rfl ?_
      obtain ⟨v2, hv⟩ : ∃ z : Int32, z = x2 + 1 := ⟨_, rfl⟩
      have h := zlet_use h hv
      refine z_iinc (v := v2) dX12_bits_17 (x := x2) rfl (by rw [hv]; rfl) ?_
      clear hv
      refine zeqL (L2 := [.int x0, .int v1, .int v2]) rfl ?_
      refine z_goto (tgt := 4) dX12_bits_20 (by decide) ?_
      exact ih _ _ _ _ _ h
def f_X12_bits (x0 : Int32) (M : zMe) : Option (Int32 × zMe) :=
  f_X12_bits_b4 zfu x0 0 0 M
set_option maxHeartbeats 4000000 in
set_option maxRecDepth 100000 in
theorem s_X12_bits {g : zG} (hC : zC g) {x0 : Int32} {M : zMe} {q : (Int32 × zMe)} (h : f_X12_bits x0 M = some q) : zMet g yX12_bits mX12_bits [.int x0] M (some (.int q.1)) q.2 := by
  refine z_entry (by decide +kernel) rfl rfl (Nat.le_of_ble_eq_true rfl) ?_
  refine zeqL (L2 := [.int x0, .retAddr 0, .retAddr 0]) rfl ?_
  unfold f_X12_bits at h
  refine z_iconst 0 (by decide) dX12_bits_0 ?_
  refine z_istore_n dX12_bits_1 (by decide) ?_
  refine zeqL (L2 := [.int x0, .int 0, .retAddr 0]) rfl ?_
  refine z_iconst 0 (by decide) dX12_bits_2 ?_
  refine z_istore_n dX12_bits_3 (by decide) ?_
  refine zeqL (L2 := [.int x0, .int 0, .int 0]) rfl ?_
  exact s_X12_bits_b4 hC _ _ _ _ _ _ h
def f_X12_shuts_b122  (x0 : Nat) (x2 : Int32) (x3 : Int32) (M : zMe) : Option (Int32 × zMe) :=
  (zgN M x0 [12] 0).bind fun a1 =>
  (zwI M a1 1 x2).bind fun M1 =>
  some (x3, M1)
set_option maxHeartbeats 4000000 in
set_option maxRecDepth 100000 in
theorem s_X12_shuts_b122 {g : zG} (hC : zC g)  (x0 : Nat) (x2 : Int32) (x3 : Int32) (M : zMe) (q : (Int32 × zMe)) (h : f_X12_shuts_b122  x0 x2 x3 M = some q) : zW g mX12_shuts 122 [.ref x0, .retAddr 0, .int x2, .int x3, .retAddr 0, .retAddr 0] [] M (some (.int q.1)) q.2 := by
  unfold f_X12_shuts_b122 at h
  refine z_aload_n (x := x0) rfl dX12_shuts_122 ?_
  obtain ⟨a1, h1, h⟩ := zbind h
  refine z_gN hC fs_X12_7 h1 dX12_shuts_123 ?_
  refine z_iconst 1 (by decide) dX12_shuts_126 ?_
  refine z_iload_n (x := x2) rfl dX12_shuts_127 ?_
  obtain ⟨M1, h2, h⟩ := zbind h
  refine z_wI h2 dX12_shuts_128 ?_
  refine z_iload_n (x := x3) rfl dX12_shuts_129 ?_
  obtain rfl := Option.some.inj h
  exact z_iret ⟨.int, rfl, rfl⟩ dX12_shuts_130
def f_X12_shuts_b116 (k25 : Nat → Int32 → Int32 → Int32 → Int32 → zMe → Option (Int32 × zMe)) (x0 : Nat) (x1 : Int32) (x2 : Int32) (x3 : Int32) (x4 : Int32) (M : zMe) : Option (Int32 × zMe) :=
  zlet (x4 + 1) fun v1 =>
  k25 x0 x1 x2 x3 v1 M
set_option maxHeartbeats 4000000 in
set_option maxRecDepth 100000 in
theorem s_X12_shuts_b116 {g : zG} (hC : zC g) {k25 : Nat → Int32 → Int32 → Int32 → Int32 → zMe → Option (Int32 × zMe)} (hk25 : ∀ (x0 : Nat) (x1 : Int32) (x2 : Int32) (x3 : Int32) (x4 : Int32) (M : zMe) (q : (Int32 × zMe)), k25 x0 x1 x2 x3 x4 M = some q → zW g mX12_shuts 25 [.ref x0, .int x1, .int x2, .int x3, .int x4, .retAddr 0] [] M (some (.int q.1)) q.2) (x0 : Nat) (x1 : Int32) (x2 : Int32) (x3 : Int32) (x4 : Int32) (M : zMe) (q : (Int32 × zMe)) (h : f_X12_shuts_b116 k25 x0 x1 x2 x3 x4 M = some q) : zW g mX12_shuts 116 [.ref x0, .int x1, .int x2, .int x3, .int x4, .retAddr 0] [] M (some (.int q.1)) q.2 := by
  unfold f_X12_shuts_b116 at h
  obtain ⟨v1, hv⟩ : ∃ z : Int32, z = x4 + 1 := ⟨_, rfl⟩
  have h := zlet_use h hv
  refine z_iinc (v := v1) dX12_shuts_116 (x := x4) rfl (by rw [hv]; rfl) ?_
  clear hv
  refine zeqL (L2 := [.ref x0, .int x1, .int x2, .int x3, .int v1, .retAddr 0]) rfl ?_
  refine z_goto (tgt := 25) dX12_shuts_119 (by decide) ?_
  exact hk25 _ _ _ _ _ _ _ h
def f_X12_shuts_b110 (k25 : Nat → Int32 → Int32 → Int32 → Int32 → zMe → Option (Int32 × zMe)) (k44 : Nat → Int32 → Int32 → Int32 → Int32 → Int32 → zMe → Option (Int32 × zMe)) (x0 : Nat) (x1 : Int32) (x2 : Int32) (x3 : Int32) (x4 : Int32) (x5 : Int32) (M : zMe) : Option (Int32 × zMe) :=
  zlet (x5 + 1) fun v1 =>
  k44 x0 x1 x2 x3 x4 v1 M
set_option maxHeartbeats 4000000 in
set_option maxRecDepth 100000 in
theorem s_X12_shuts_b110 {g : zG} (hC : zC g) {k25 : Nat → Int32 → Int32 → Int32 → Int32 → zMe → Option (Int32 × zMe)} {k44 : Nat → Int32 → Int32 → Int32 → Int32 → Int32 → zMe → Option (Int32 × zMe)} (hk25 : ∀ (x0 : Nat) (x1 : Int32) (x2 : Int32) (x3 : Int32) (x4 : Int32) (M : zMe) (q : (Int32 × zMe)), k25 x0 x1 x2 x3 x4 M = some q → zW g mX12_shuts 25 [.ref x0, .int x1, .int x2, .int x3, .int x4, .retAddr 0] [] M (some (.int q.1)) q.2) (hk44 : ∀ (x0 : Nat) (x1 : Int32) (x2 : Int32) (x3 : Int32) (x4 : Int32) (x5 : Int32) (M : zMe) (q : (Int32 × zMe)), k44 x0 x1 x2 x3 x4 x5 M = some q → zW g mX12_shuts 44 [.ref x0, .int x1, .int x2, .int x3, .int x4, .int x5] [] M (some (.int q.1)) q.2) (x0 : Nat) (x1 : Int32) (x2 : Int32) (x3 : Int32) (x4 : Int32) (x5 : Int32) (M : zMe) (q : (Int32 × zMe)) (h : f_X12_shuts_b110 k25 k44 x0 x1 x2 x3 x4 x5 M = some q) : zW g mX12_shuts 110 [.ref x0, .int x1, .int x2, .int x3, .int x4, .int x5] [] M (some (.int q.1)) q.2 := by
  unfold f_X12_shuts_b110 at h
  obtain ⟨v1, hv⟩ : ∃ z : Int32, z = x5 + 1 := ⟨_, rfl⟩
  have h := zlet_use h hv
  refine z_iinc (v := v1) dX12_shuts_110 (x := x5) rfl (by rw [hv]; rfl) ?_
  clear hv
  refine zeqL (L2 := [.ref x0, .int x1, .int x2, .int x3, .int x4, .int v1]) rfl ?_
  refine z_goto (tgt := 44) dX12_shuts_113 (by decide) ?_
  exact hk44 _ _ _ _ _ _ _ _ h
def f_X12_shuts_b109 (k25 : Nat → Int32 → Int32 → Int32 → Int32 → zMe → Option (Int32 × zMe)) (k44 : Nat → Int32 → Int32 → Int32 → Int32 → Int32 → zMe → Option (Int32 × zMe)) (x0 : Nat) (x1 : Int32) (x2 : Int32) (x4 : Int32) (x5 : Int32) (y0 : Int32) (M : zMe) : Option (Int32 × zMe) :=
  f_X12_shuts_b110 k25 k44 x0 x1 x2 y0 x4 x5 M
set_option maxHeartbeats 4000000 in
set_option maxRecDepth 100000 in
theorem s_X12_shuts_b109 {g : zG} (hC : zC g) {k25 : Nat → Int32 → Int32 → Int32 → Int32 → zMe → Option (Int32 × zMe)} {k44 : Nat → Int32 → Int32 → Int32 → Int32 → Int32 → zMe → Option (Int32 × zMe)} (hk25 : ∀ (x0 : Nat) (x1 : Int32) (x2 : Int32) (x3 : Int32) (x4 : Int32) (M : zMe) (q : (Int32 × zMe)), k25 x0 x1 x2 x3 x4 M = some q → zW g mX12_shuts 25 [.ref x0, .int x1, .int x2, .int x3, .int x4, .retAddr 0] [] M (some (.int q.1)) q.2) (hk44 : ∀ (x0 : Nat) (x1 : Int32) (x2 : Int32) (x3 : Int32) (x4 : Int32) (x5 : Int32) (M : zMe) (q : (Int32 × zMe)), k44 x0 x1 x2 x3 x4 x5 M = some q → zW g mX12_shuts 44 [.ref x0, .int x1, .int x2, .int x3, .int x4, .int x5] [] M (some (.int q.1)) q.2) (x0 : Nat) (x1 : Int32) (x2 : Int32) (x4 : Int32) (x5 : Int32) (y0 : Int32) (M : zMe) (q : (Int32 × zMe)) (h : f_X12_shuts_b109 k25 k44 x0 x1 x2 x4 x5 y0 M = some q) : zW g mX12_shuts 109 [.ref x0, .int x1, .int x2, .retAddr 0, .int x4, .int x5] [.int y0] M (some (.int q.1)) q.2 := by
  unfold f_X12_shuts_b109 at h
  refine z_istore_n dX12_shuts_109 (by decide) ?_
  refine zeqL (L2 := [.ref x0, .int x1, .int x2, .int y0, .int x4, .int x5]) rfl ?_
  exact s_X12_shuts_b110 hC hk25 hk44 _ _ _ _ _ _ _ _ h
def f_X12_shuts_b44 (k25 : Nat → Int32 → Int32 → Int32 → Int32 → zMe → Option (Int32 × zMe)) : Nat → Nat → Int32 → Int32 → Int32 → Int32 → Int32 → zMe → Option (Int32 × zMe)
  | 0, _, _, _, _, _, _, _ => none
  | n + 1, x0, x1, x2, x3, x4, x5, M =>
    (zgN M x0 [12] 0).bind fun a1 =>
    (zrI M a1 0).bind fun v1 =>
    if ((1 : Int32) <<< (v1 &&& 31)) ≤ x5 then (
      f_X12_shuts_b116 k25 x0 x1 x2 x3 x4 M)
    else (
      if x3 = (-1) then (
        (f_X12_bits x5 M).bind fun q1 =>
        if q1.1 = x4 then (
          (zgN q1.2 x0 [12] 0).bind fun a2 =>
          (zrI q1.2 a2 2).bind fun v2 =>
          if ((x5 >>> (v2 &&& 31)) &&& 1) = 0 then (
            (zgN q1.2 x0 [12] 0).bind fun a3 =>
            (zwI q1.2 a3 1 x5).bind fun M1 =>
            (zob M1 x0 12).bind fun _ =>
            (f_X12_tames x0 x1 0 M1).bind fun q2 =>
            if q2.1 = 0 then (
              f_X12_shuts_b109 k25 (f_X12_shuts_b44 k25 n) x0 x1 x2 x4 x5 (-1) q2.2)
            else (
              f_X12_shuts_b109 k25 (f_X12_shuts_b44 k25 n) x0 x1 x2 x4 x5 x5 q2.2))
          else (
            f_X12_shuts_b110 k25 (f_X12_shuts_b44 k25 n) x0 x1 x2 x3 x4 x5 q1.2))
        else (
          f_X12_shuts_b110 k25 (f_X12_shuts_b44 k25 n) x0 x1 x2 x3 x4 x5 q1.2))
      else (
        f_X12_shuts_b116 k25 x0 x1 x2 x3 x4 M))
set_option maxHeartbeats 4000000 in
set_option maxRecDepth 100000 in
theorem s_X12_shuts_b44 {g : zG} (hC : zC g) {k25 : Nat → Int32 → Int32 → Int32 → Int32 → zMe → Option (Int32 × zMe)} (hk25 : ∀ (x0 : Nat) (x1 : Int32) (x2 : Int32) (x3 : Int32) (x4 : Int32) (M : zMe) (q : (Int32 × zMe)), k25 x0 x1 x2 x3 x4 M = some q → zW g mX12_shuts 25 [.ref x0, .int x1, .int x2, .int x3, .int x4, .retAddr 0] [] M (some (.int q.1)) q.2) : ∀ (n : Nat) (x0 : Nat) (x1 : Int32) (x2 : Int32) (x3 : Int32) (x4 : Int32) (x5 : Int32) (M : zMe) (q : (Int32 × zMe)), f_X12_shuts_b44 k25 n x0 x1 x2 x3 x4 x5 M = some q → zW g mX12_shuts 44 [.ref x0, .int x1, .int x2, .int x3, .int x4, .int x5] [] M (some (.int q.1)) q.2 := by
  intro n
  induction n with
  | zero => intro x0 x1 x2 x3 x4 x5 M q h; cases h
  | succ n ih =>
    intro x0 x1 x2 x3 x4 x5 M q h
    rw [f_X12_shuts_b44] at h
    refine z_iload (x := x5) rfl dX12_shuts_44 ?_
    refine z_iconst 1 (by decide) dX12_shuts_46 ?_
    refine z_aload_n (x := x0) rfl dX12_shuts_47 ?_
    obtain ⟨a1, h1, h⟩ := zbind h
    refine z_gN hC fs_X12_7 h1 dX12_shuts_48 ?_
    refine z_iconst 0 (by decide) dX12_shuts_51 ?_
    obtain ⟨v1, h2, h⟩ := zbind h
    refine z_rI h2 dX12_shuts_52 ?_
    refine z_ishl dX12_shuts_53 ?_
    refine z_icmp_ge (tgt := 116) dX12_shuts_54 (by decide) (fun c1 => ?_) (fun c1 => ?_)
    · have h := zift h c1
      refine zweak [true, true, true, true, true, false] ?_
      exact s_X12_shuts_b116 hC hk25 _ _ _ _ _ _ _ h
    · have h := zife h c1
      refine z_iload_n (x := x3) rfl dX12_shuts_57 ?_
      refine z_iconst (-1) (by decide) dX12_shuts_58 ?_
      refine z_icmp_ne (tgt := 116) dX12_shuts_59 (by decide) (fun c2 => ?_) (fun c2 => ?_)
      · have h := zife h c2
        refine zweak [true, true, true, true, true, false] ?_
        exact s_X12_shuts_b116 hC hk25 _ _ _ _ _ _ _ h
      · have h := zift h c2
        refine z_iload (x := x5) rfl dX12_shuts_62 ?_
        obtain ⟨q1, h3, h⟩ := zbind h
        refine z_callS (av := [.int x5]) (rest := []) hC (s_X12_bits hC h3) lk_X12_193 st_X12_bits cd_X12_bits ⟨by decide, by decide, (Nat.le_of_ble_eq_true rfl)⟩ dX12_shuts_64 ?_
        refine zeqS (stk2 := [.int q1.1]) rfl ?_
        refine z_iload (x := x4) rfl dX12_shuts_67 ?_
        refine z_icmp_ne (tgt := 110) dX12_shuts_69 (by decide) (fun c3 => ?_) (fun c3 => ?_)
        · have h := zife h c3
          exact s_X12_shuts_b110 hC hk25 ih _ _ _ _ _ _ _ _ h
        · have h := zift h c3
          refine z_iload (x := x5) rfl dX12_shuts_72 ?_
          refine z_aload_n (x := x0) rfl dX12_shuts_74 ?_
          obtain ⟨a2, h4, h⟩ := zbind h
          refine z_gN hC fs_X12_7 h4 dX12_shuts_75 ?_
          refine z_iconst 2 (by decide) dX12_shuts_78 ?_
          obtain ⟨v2, h5, h⟩ := zbind h
          refine z_rI h5 dX12_shuts_79 ?_
          refine z_ishr dX12_shuts_80 ?_
          refine z_iconst 1 (by decide) dX12_shuts_81 ?_
          refine z_iand dX12_shuts_82 ?_
          refine z_if_ne (tgt := 110) dX12_shuts_83 (by decide) (fun c4 => ?_) (fun c4 => ?_)
          · have h := zife h c4
            exact s_X12_shuts_b110 hC hk25 ih _ _ _ _ _ _ _ _ h
          · have h := zift h c4
            refine z_aload_n (x := x0) rfl dX12_shuts_86 ?_
            obtain ⟨a3, h6, h⟩ := zbind h
            refine z_gN hC fs_X12_7 h6 dX12_shuts_87 ?_
            refine z_iconst 1 (by decide) dX12_shuts_90 ?_
            refine z_iload (x := x5) rfl dX12_shuts_91 ?_
            obtain ⟨M1, h7, h⟩ := zbind h
            refine z_wI h7 dX12_shuts_93 ?_
            refine z_aload_n (x := x0) rfl dX12_shuts_94 ?_
            refine z_iload_n (x := x1) rfl dX12_shuts_95 ?_
            refine z_iconst 0 (by decide) dX12_shuts_96 ?_
            obtain ⟨_, hb, h⟩ := zbind h
            obtain ⟨fs, hb⟩ := zob_some hb
            obtain ⟨q2, h8, h⟩ := zbind h
            refine z_callV (av := [.int x1, .int 0]) (rest := []) hC zcl_12 hb (s_X12_tames hC h8) lk_X12_186 im_X12_tames se_X12_tames cd_X12_tames ⟨by decide, by decide, (Nat.le_of_ble_eq_true rfl)⟩ dX12_shuts_97 ?_
            clear hb fs
            refine zeqS (stk2 := [.int q2.1]) rfl ?_
            refine z_if_eq (tgt := 108) dX12_shuts_100 (by decide) (fun c5 => ?_) (fun c5 => ?_)
            · have h := zift h c5
              refine z_iconst (-1) (by decide) dX12_shuts_108 ?_
              refine zweak [true, true, true, false, true, true] ?_
              exact s_X12_shuts_b109 hC hk25 ih _ _ _ _ _ _ _ _ h
            · have h := zife h c5
              refine z_iload (x := x5) rfl dX12_shuts_103 ?_
              refine z_goto (tgt := 109) dX12_shuts_105 (by decide) ?_
              refine zweak [true, true, true, false, true, true] ?_
              exact s_X12_shuts_b109 hC hk25 ih _ _ _ _ _ _ _ _ h
def f_X12_shuts_b25  : Nat → Nat → Int32 → Int32 → Int32 → Int32 → zMe → Option (Int32 × zMe)
  | 0, _, _, _, _, _, _ => none
  | n + 1, x0, x1, x2, x3, x4, M =>
    (zgN M x0 [12] 0).bind fun a1 =>
    (zrI M a1 0).bind fun v1 =>
    if v1 ≤ x4 then (
      f_X12_shuts_b122 x0 x2 x3 M)
    else (
      if x3 = (-1) then (
        f_X12_shuts_b44 (f_X12_shuts_b25 n) zfu x0 x1 x2 x3 x4 0 M)
      else (
        f_X12_shuts_b122 x0 x2 x3 M))
set_option maxHeartbeats 4000000 in
set_option maxRecDepth 100000 in
theorem s_X12_shuts_b25 {g : zG} (hC : zC g)  : ∀ (n : Nat) (x0 : Nat) (x1 : Int32) (x2 : Int32) (x3 : Int32) (x4 : Int32) (M : zMe) (q : (Int32 × zMe)), f_X12_shuts_b25  n x0 x1 x2 x3 x4 M = some q → zW g mX12_shuts 25 [.ref x0, .int x1, .int x2, .int x3, .int x4, .retAddr 0] [] M (some (.int q.1)) q.2 := by
  intro n
  induction n with
  | zero => intro x0 x1 x2 x3 x4 M q h; cases h
  | succ n ih =>
    intro x0 x1 x2 x3 x4 M q h
    rw [f_X12_shuts_b25] at h
    refine z_iload (x := x4) rfl dX12_shuts_25 ?_
    refine z_aload_n (x := x0) rfl dX12_shuts_27 ?_
    obtain ⟨a1, h1, h⟩ := zbind h
    refine z_gN hC fs_X12_7 h1 dX12_shuts_28 ?_
    refine z_iconst 0 (by decide) dX12_shuts_31 ?_
    obtain ⟨v1, h2, h⟩ := zbind h
    refine z_rI h2 dX12_shuts_32 ?_
    refine z_icmp_ge (tgt := 122) dX12_shuts_33 (by decide) (fun c1 => ?_) (fun c1 => ?_)
    · have h := zift h c1
      refine zweak [true, false, true, true, false, false] ?_
      exact s_X12_shuts_b122 hC _ _ _ _ _ h
    · have h := zife h c1
      refine z_iload_n (x := x3) rfl dX12_shuts_36 ?_
      refine z_iconst (-1) (by decide) dX12_shuts_37 ?_
      refine z_icmp_ne (tgt := 122) dX12_shuts_38 (by decide) (fun c2 => ?_) (fun c2 => ?_)
      · have h := zife h c2
        refine zweak [true, false, true, true, false, false] ?_
        exact s_X12_shuts_b122 hC _ _ _ _ _ h
      · have h := zift h c2
        refine z_iconst 0 (by decide) dX12_shuts_41 ?_
        refine z_istore dX12_shuts_42 (by decide) ?_
        refine zeqL (L2 := [.ref x0, .int x1, .int x2, .int x3, .int x4, .int 0]) rfl ?_
        exact s_X12_shuts_b44 hC ih _ _ _ _ _ _ _ _ _ h
def f_X12_shuts (x0 : Nat) (x1 : Int32) (M : zMe) : Option (Int32 × zMe) :=
  (zob M x0 12).bind fun _ =>
  (f_X12_isSet x0 x1 M).bind fun q1 =>
  if q1.1 = 0 then (
    (zob q1.2 x0 12).bind fun _ =>
    (f_X12_bad x0 q1.2).bind fun q2 =>
    some (q2.1, q2.2))
  else (
    (zgN q1.2 x0 [12] 0).bind fun a1 =>
    (zrI q1.2 a1 1).bind fun v1 =>
    f_X12_shuts_b25 zfu x0 x1 v1 (-1) 0 q1.2)
set_option maxHeartbeats 4000000 in
set_option maxRecDepth 100000 in
theorem s_X12_shuts {g : zG} (hC : zC g) {x0 : Nat} {x1 : Int32} {M : zMe} {q : (Int32 × zMe)} (h : f_X12_shuts x0 x1 M = some q) : zMet g yX12_shuts mX12_shuts [.ref x0, .int x1] M (some (.int q.1)) q.2 := by
  refine z_entry (by decide +kernel) rfl rfl (Nat.le_of_ble_eq_true rfl) ?_
  refine zeqL (L2 := [.ref x0, .int x1, .retAddr 0, .retAddr 0, .retAddr 0, .retAddr 0]) rfl ?_
  unfold f_X12_shuts at h
  refine z_aload_n (x := x0) rfl dX12_shuts_0 ?_
  refine z_iload_n (x := x1) rfl dX12_shuts_1 ?_
  obtain ⟨_, hb, h⟩ := zbind h
  obtain ⟨fs, hb⟩ := zob_some hb
  obtain ⟨q1, h1, h⟩ := zbind h
  refine z_callV (av := [.int x1]) (rest := []) hC zcl_12 hb (s_X12_isSet hC h1) lk_X12_183 im_X12_isSet se_X12_isSet cd_X12_isSet ⟨by decide, by decide, (Nat.le_of_ble_eq_true rfl)⟩ dX12_shuts_2 ?_
  clear hb fs
  refine zeqS (stk2 := [.int q1.1]) rfl ?_
  refine z_if_ne (tgt := 13) dX12_shuts_5 (by decide) (fun c1 => ?_) (fun c1 => ?_)
  · have h := zife h c1
    refine z_aload_n (x := x0) rfl dX12_shuts_13 ?_
    obtain ⟨a1, h3, h⟩ := zbind h
    refine z_gN hC fs_X12_7 h3 dX12_shuts_14 ?_
    refine z_iconst 1 (by decide) dX12_shuts_17 ?_
    obtain ⟨v1, h4, h⟩ := zbind h
    refine z_rI h4 dX12_shuts_18 ?_
    refine z_istore_n dX12_shuts_19 (by decide) ?_
    refine zeqL (L2 := [.ref x0, .int x1, .int v1, .retAddr 0, .retAddr 0, .retAddr 0]) rfl ?_
    refine z_iconst (-1) (by decide) dX12_shuts_20 ?_
    refine z_istore_n dX12_shuts_21 (by decide) ?_
    refine zeqL (L2 := [.ref x0, .int x1, .int v1, .int (-1), .retAddr 0, .retAddr 0]) rfl ?_
    refine z_iconst 0 (by decide) dX12_shuts_22 ?_
    refine z_istore dX12_shuts_23 (by decide) ?_
    refine zeqL (L2 := [.ref x0, .int x1, .int v1, .int (-1), .int 0, .retAddr 0]) rfl ?_
    exact s_X12_shuts_b25 hC _ _ _ _ _ _ _ _ h
  · have h := zift h c1
    refine z_aload_n (x := x0) rfl dX12_shuts_8 ?_
    obtain ⟨_, hb, h⟩ := zbind h
    obtain ⟨fs, hb⟩ := zob_some hb
    obtain ⟨q2, h2, h⟩ := zbind h
    refine z_callV (av := []) (rest := []) hC zcl_12 hb (s_X12_bad hC h2) lk_X12_61 im_X12_bad se_X12_bad cd_X12_bad ⟨by decide, by decide, (Nat.le_of_ble_eq_true rfl)⟩ dX12_shuts_9 ?_
    clear hb fs
    refine zeqS (stk2 := [.int q2.1]) rfl ?_
    obtain rfl := Option.some.inj h
    exact z_iret ⟨.int, rfl, rfl⟩ dX12_shuts_12
def f_X12_neighbour_b130  (y0 : Int32) (M : zMe) : Option (Int32 × zMe) :=
  some (y0, M)
set_option maxHeartbeats 4000000 in
set_option maxRecDepth 100000 in
theorem s_X12_neighbour_b130 {g : zG} (hC : zC g)  (y0 : Int32) (M : zMe) (q : (Int32 × zMe)) (h : f_X12_neighbour_b130  y0 M = some q) : zW g mX12_neighbour 130 [.retAddr 0, .retAddr 0, .retAddr 0, .retAddr 0, .retAddr 0, .retAddr 0, .retAddr 0, .retAddr 0] [.int y0] M (some (.int q.1)) q.2 := by
  unfold f_X12_neighbour_b130 at h
  obtain rfl := Option.some.inj h
  exact z_iret ⟨.int, rfl, rfl⟩ dX12_neighbour_130
def f_X12_neighbour_b43  (x0 : Nat) (M : zMe) : Option (Int32 × zMe) :=
  (zob M x0 12).bind fun _ =>
  (f_X12_refuses x0 0 (-10) M).bind fun q1 =>
  some (q1.1, q1.2)
set_option maxHeartbeats 4000000 in
set_option maxRecDepth 100000 in
theorem s_X12_neighbour_b43 {g : zG} (hC : zC g)  (x0 : Nat) (M : zMe) (q : (Int32 × zMe)) (h : f_X12_neighbour_b43  x0 M = some q) : zW g mX12_neighbour 43 [.ref x0, .retAddr 0, .retAddr 0, .retAddr 0, .retAddr 0, .retAddr 0, .retAddr 0, .retAddr 0] [] M (some (.int q.1)) q.2 := by
  unfold f_X12_neighbour_b43 at h
  refine z_aload_n (x := x0) rfl dX12_neighbour_43 ?_
  refine z_iconst 0 (by decide) dX12_neighbour_44 ?_
  refine z_bipush (-10) (by decide) dX12_neighbour_45 ?_
  obtain ⟨_, hb, h⟩ := zbind h
  obtain ⟨fs, hb⟩ := zob_some hb
  obtain ⟨q1, h1, h⟩ := zbind h
  refine z_callV (av := [.int 0, .int (-10)]) (rest := []) hC zcl_12 hb (s_X12_refuses hC h1) lk_X12_53 im_X12_refuses se_X12_refuses cd_X12_refuses ⟨by decide, by decide, (Nat.le_of_ble_eq_true rfl)⟩ dX12_neighbour_47 ?_
  clear hb fs
  refine zeqS (stk2 := [.int q1.1]) rfl ?_
  obtain rfl := Option.some.inj h
  exact z_iret ⟨.int, rfl, rfl⟩ dX12_neighbour_50
def f_X12_neighbour (x0 : Nat) (x1 : Int32) (x2 : Int32) (x3 : Int32) (x4 : Int32) (M : zMe) : Option (Int32 × zMe) :=
  (zob M x0 12).bind fun _ =>
  (f_X12_isSet x0 x1 M).bind fun q1 =>
  if q1.1 = 0 then (
    f_X12_neighbour_b43 x0 q1.2)
  else (
    (zob q1.2 x0 12).bind fun _ =>
    (f_X12_isDog x0 x2 q1.2).bind fun q2 =>
    if q2.1 = 0 then (
      f_X12_neighbour_b43 x0 q2.2)
    else (
      (zob q2.2 x0 12).bind fun _ =>
      (f_X12_isPlace x0 x3 q2.2).bind fun q3 =>
      if q3.1 = 0 then (
        f_X12_neighbour_b43 x0 q3.2)
      else (
        (f_X12_in x4 0 1 q3.2).bind fun q4 =>
        if q4.1 = 0 then (
          f_X12_neighbour_b43 x0 q4.2)
        else (
          if ((x1 >>> (x2 &&& 31)) &&& 1) = 1 then (
            f_X12_neighbour_b43 x0 q4.2)
          else (
            zlet ((1 : Int32) <<< (((5 * x2) + x3) &&& 31) : Int32) fun v1 =>
            (zgN q4.2 x0 [12] 0).bind fun a1 =>
            (zrI q4.2 a1 0).bind fun v2 =>
            (zob q4.2 x0 12).bind fun _ =>
            (f_X12_all x0 x1 (((1 : Int32) <<< (v2 &&& 31)) - 1) q4.2).bind fun q5 =>
            zlet (q5.1 ||| v1 : Int32) fun v3 =>
            (zgN q5.2 x0 [12] 0).bind fun a2 =>
            (zrI q5.2 a2 2).bind fun v4 =>
            (zob q5.2 x0 12).bind fun _ =>
            (f_X12_all x0 x1 ((1 : Int32) <<< (v4 &&& 31)) q5.2).bind fun q6 =>
            zlet (q6.1 ||| v1 : Int32) fun v5 =>
            (zob q6.2 x0 12).bind fun _ =>
            (f_X12_leads x0 v3 v5 0 q6.2).bind fun q7 =>
            if q7.1 = 0 then (
              f_X12_neighbour_b130 (-1) q7.2)
            else (
              if x4 = 0 then (
                (zgI q7.2 x0 [12] 16).bind fun v6 =>
                f_X12_neighbour_b130 v6 q7.2)
              else (
                (zob q7.2 x0 12).bind fun _ =>
                (f_X12_tune x0 q7.2).bind fun q8 =>
                f_X12_neighbour_b130 q8.1 q8.2)))))))
set_option maxHeartbeats 4000000 in
set_option maxRecDepth 100000 in
theorem s_X12_neighbour {g : zG} (hC : zC g) {x0 : Nat} {x1 : Int32} {x2 : Int32} {x3 : Int32} {x4 : Int32} {M : zMe} {q : (Int32 × zMe)} (h : f_X12_neighbour x0 x1 x2 x3 x4 M = some q) : zMet g yX12_neighbour mX12_neighbour [.ref x0, .int x1, .int x2, .int x3, .int x4] M (some (.int q.1)) q.2 := by
  refine z_entry (by decide +kernel) rfl rfl (Nat.le_of_ble_eq_true rfl) ?_
  refine zeqL (L2 := [.ref x0, .int x1, .int x2, .int x3, .int x4, .retAddr 0, .retAddr 0, .retAddr 0]) rfl ?_
  unfold f_X12_neighbour at h
  refine z_aload_n (x := x0) rfl dX12_neighbour_0 ?_
  refine z_iload_n (x := x1) rfl dX12_neighbour_1 ?_
  obtain ⟨_, hb, h⟩ := zbind h
  obtain ⟨fs, hb⟩ := zob_some hb
  obtain ⟨q1, h1, h⟩ := zbind h
  refine z_callV (av := [.int x1]) (rest := []) hC zcl_12 hb (s_X12_isSet hC h1) lk_X12_183 im_X12_isSet se_X12_isSet cd_X12_isSet ⟨by decide, by decide, (Nat.le_of_ble_eq_true rfl)⟩ dX12_neighbour_2 ?_
  clear hb fs
  refine zeqS (stk2 := [.int q1.1]) rfl ?_
  refine z_if_eq (tgt := 43) dX12_neighbour_5 (by decide) (fun c1 => ?_) (fun c1 => ?_)
  · have h := zift h c1
    refine zweak [true, false, false, false, false, false, false, false] ?_
    exact s_X12_neighbour_b43 hC _ _ _ h
  · have h := zife h c1
    refine z_aload_n (x := x0) rfl dX12_neighbour_8 ?_
    refine z_iload_n (x := x2) rfl dX12_neighbour_9 ?_
    obtain ⟨_, hb, h⟩ := zbind h
    obtain ⟨fs, hb⟩ := zob_some hb
    obtain ⟨q2, h2, h⟩ := zbind h
    refine z_callV (av := [.int x2]) (rest := []) hC zcl_12 hb (s_X12_isDog hC h2) lk_X12_140 im_X12_isDog se_X12_isDog cd_X12_isDog ⟨by decide, by decide, (Nat.le_of_ble_eq_true rfl)⟩ dX12_neighbour_10 ?_
    clear hb fs
    refine zeqS (stk2 := [.int q2.1]) rfl ?_
    refine z_if_eq (tgt := 43) dX12_neighbour_13 (by decide) (fun c2 => ?_) (fun c2 => ?_)
    · have h := zift h c2
      refine zweak [true, false, false, false, false, false, false, false] ?_
      exact s_X12_neighbour_b43 hC _ _ _ h
    · have h := zife h c2
      refine z_aload_n (x := x0) rfl dX12_neighbour_16 ?_
      refine z_iload_n (x := x3) rfl dX12_neighbour_17 ?_
      obtain ⟨_, hb, h⟩ := zbind h
      obtain ⟨fs, hb⟩ := zob_some hb
      obtain ⟨q3, h3, h⟩ := zbind h
      refine z_callV (av := [.int x3]) (rest := []) hC zcl_12 hb (s_X12_isPlace hC h3) lk_X12_73 im_X12_isPlace se_X12_isPlace cd_X12_isPlace ⟨by decide, by decide, (Nat.le_of_ble_eq_true rfl)⟩ dX12_neighbour_18 ?_
      clear hb fs
      refine zeqS (stk2 := [.int q3.1]) rfl ?_
      refine z_if_eq (tgt := 43) dX12_neighbour_21 (by decide) (fun c3 => ?_) (fun c3 => ?_)
      · have h := zift h c3
        refine zweak [true, false, false, false, false, false, false, false] ?_
        exact s_X12_neighbour_b43 hC _ _ _ h
      · have h := zife h c3
        refine z_iload (x := x4) rfl dX12_neighbour_24 ?_
        refine z_iconst 0 (by decide) dX12_neighbour_26 ?_
        refine z_iconst 1 (by decide) dX12_neighbour_27 ?_
        obtain ⟨q4, h4, h⟩ := zbind h
        refine z_callS (av := [.int x4, .int 0, .int 1]) (rest := []) hC (s_X12_in hC h4) lk_X12_57 st_X12_in cd_X12_in ⟨by decide, by decide, (Nat.le_of_ble_eq_true rfl)⟩ dX12_neighbour_28 ?_
        refine zeqS (stk2 := [.int q4.1]) rfl ?_
        refine z_if_eq (tgt := 43) dX12_neighbour_31 (by decide) (fun c4 => ?_) (fun c4 => ?_)
        · have h := zift h c4
          refine zweak [true, false, false, false, false, false, false, false] ?_
          exact s_X12_neighbour_b43 hC _ _ _ h
        · have h := zife h c4
          refine z_iload_n (x := x1) rfl dX12_neighbour_34 ?_
          refine z_iload_n (x := x2) rfl dX12_neighbour_35 ?_
          refine z_ishr dX12_neighbour_36 ?_
          refine z_iconst 1 (by decide) dX12_neighbour_37 ?_
          refine z_iand dX12_neighbour_38 ?_
          refine z_iconst 1 (by decide) dX12_neighbour_39 ?_
          refine z_icmp_ne (tgt := 51) dX12_neighbour_40 (by decide) (fun c5 => ?_) (fun c5 => ?_)
          · have h := zife h c5
            refine z_iconst 1 (by decide) dX12_neighbour_51 ?_
            refine z_iconst 5 (by decide) dX12_neighbour_52 ?_
            refine z_iload_n (x := x2) rfl dX12_neighbour_53 ?_
            refine z_imul dX12_neighbour_54 ?_
            refine z_iload_n (x := x3) rfl dX12_neighbour_55 ?_
            refine z_iadd dX12_neighbour_56 ?_
            refine z_ishl dX12_neighbour_57 ?_
            refine z_nameI (fun v1 hv => ?_)
            have h := zlet_use h hv
            clear hv
            refine z_istore dX12_neighbour_58 (by decide) ?_
            refine zeqL (L2 := [.ref x0, .int x1, .int x2, .int x3, .int x4, .int v1, .retAddr 0, .retAddr 0]) rfl ?_
            refine z_aload_n (x := x0) rfl dX12_neighbour_60 ?_
            refine z_iload_n (x := x1) rfl dX12_neighbour_61 ?_
            refine z_iconst 1 (by decide) dX12_neighbour_62 ?_
            refine z_aload_n (x := x0) rfl dX12_neighbour_63 ?_
            obtain ⟨a1, h5, h⟩ := zbind h
            refine z_gN hC fs_X12_7 h5 dX12_neighbour_64 ?_
            refine z_iconst 0 (by decide) dX12_neighbour_67 ?_
            obtain ⟨v2, h6, h⟩ := zbind h
            refine z_rI h6 dX12_neighbour_68 ?_
            refine z_ishl dX12_neighbour_69 ?_
            refine z_iconst 1 (by decide) dX12_neighbour_70 ?_
            refine z_isub dX12_neighbour_71 ?_
            obtain ⟨_, hb, h⟩ := zbind h
            obtain ⟨fs, hb⟩ := zob_some hb
            obtain ⟨q5, h7, h⟩ := zbind h
            refine z_callV (av := [.int x1, .int (((1 : Int32) <<< (v2 &&& 31)) - 1)]) (rest := []) hC zcl_12 hb (s_X12_all hC h7) lk_X12_176 im_X12_all se_X12_all cd_X12_all ⟨by decide, by decide, (Nat.le_of_ble_eq_true rfl)⟩ dX12_neighbour_72 ?_
            clear hb fs
            refine zeqS (stk2 := [.int q5.1]) rfl ?_
            refine z_iload (x := v1) rfl dX12_neighbour_75 ?_
            refine z_ior dX12_neighbour_77 ?_
            refine z_nameI (fun v3 hv => ?_)
            have h := zlet_use h hv
            clear hv
            refine z_istore dX12_neighbour_78 (by decide) ?_
            refine zeqL (L2 := [.ref x0, .int x1, .int x2, .int x3, .int x4, .int v1, .int v3, .retAddr 0]) rfl ?_
            refine z_aload_n (x := x0) rfl dX12_neighbour_80 ?_
            refine z_iload_n (x := x1) rfl dX12_neighbour_81 ?_
            refine z_iconst 1 (by decide) dX12_neighbour_82 ?_
            refine z_aload_n (x := x0) rfl dX12_neighbour_83 ?_
            obtain ⟨a2, h8, h⟩ := zbind h
            refine z_gN hC fs_X12_7 h8 dX12_neighbour_84 ?_
            refine z_iconst 2 (by decide) dX12_neighbour_87 ?_
            obtain ⟨v4, h9, h⟩ := zbind h
            refine z_rI h9 dX12_neighbour_88 ?_
            refine z_ishl dX12_neighbour_89 ?_
            obtain ⟨_, hb, h⟩ := zbind h
            obtain ⟨fs, hb⟩ := zob_some hb
            obtain ⟨q6, h10, h⟩ := zbind h
            refine z_callV (av := [.int x1, .int ((1 : Int32) <<< (v4 &&& 31))]) (rest := []) hC zcl_12 hb (s_X12_all hC h10) lk_X12_176 im_X12_all se_X12_all cd_X12_all ⟨by decide, by decide, (Nat.le_of_ble_eq_true rfl)⟩ dX12_neighbour_90 ?_
            clear hb fs
            refine zeqS (stk2 := [.int q6.1]) rfl ?_
            refine z_iload (x := v1) rfl dX12_neighbour_93 ?_
            refine z_ior dX12_neighbour_95 ?_
            refine z_nameI (fun v5 hv => ?_)
            have h := zlet_use h hv
            clear hv
            refine z_istore dX12_neighbour_96 (by decide) ?_
            refine zeqL (L2 := [.ref x0, .int x1, .int x2, .int x3, .int x4, .int v1, .int v3, .int v5]) rfl ?_
            refine z_aload_n (x := x0) rfl dX12_neighbour_98 ?_
            refine z_iload (x := v3) rfl dX12_neighbour_99 ?_
            refine z_iload (x := v5) rfl dX12_neighbour_101 ?_
            refine z_iconst 0 (by decide) dX12_neighbour_103 ?_
            obtain ⟨_, hb, h⟩ := zbind h
            obtain ⟨fs, hb⟩ := zob_some hb
            obtain ⟨q7, h11, h⟩ := zbind h
            refine z_callV (av := [.int v3, .int v5, .int 0]) (rest := []) hC zcl_12 hb (s_X12_leads hC h11) lk_X12_179 im_X12_leads se_X12_leads cd_X12_leads ⟨by decide, by decide, (Nat.le_of_ble_eq_true rfl)⟩ dX12_neighbour_104 ?_
            clear hb fs
            refine zeqS (stk2 := [.int q7.1]) rfl ?_
            refine z_if_ne (tgt := 114) dX12_neighbour_107 (by decide) (fun c6 => ?_) (fun c6 => ?_)
            · have h := zife h c6
              refine z_iload (x := x4) rfl dX12_neighbour_114 ?_
              refine z_if_ne (tgt := 126) dX12_neighbour_116 (by decide) (fun c7 => ?_) (fun c7 => ?_)
              · have h := zife h c7
                refine z_aload_n (x := x0) rfl dX12_neighbour_126 ?_
                obtain ⟨_, hb, h⟩ := zbind h
                obtain ⟨fs, hb⟩ := zob_some hb
                obtain ⟨q8, h13, h⟩ := zbind h
                refine z_callV (av := []) (rest := []) hC zcl_12 hb (s_X12_tune hC h13) lk_X12_190 im_X12_tune se_X12_tune cd_X12_tune ⟨by decide, by decide, (Nat.le_of_ble_eq_true rfl)⟩ dX12_neighbour_127 ?_
                clear hb fs
                refine zeqS (stk2 := [.int q8.1]) rfl ?_
                refine zweak [false, false, false, false, false, false, false, false] ?_
                exact s_X12_neighbour_b130 hC _ _ _ h
              · have h := zift h c7
                refine z_aload_n (x := x0) rfl dX12_neighbour_119 ?_
                obtain ⟨v6, h12, h⟩ := zbind h
                refine z_gI hC fs_X12_163 h12 dX12_neighbour_120 ?_
                refine z_goto (tgt := 130) dX12_neighbour_123 (by decide) ?_
                refine zweak [false, false, false, false, false, false, false, false] ?_
                exact s_X12_neighbour_b130 hC _ _ _ h
            · have h := zift h c6
              refine z_iconst (-1) (by decide) dX12_neighbour_110 ?_
              refine z_goto (tgt := 130) dX12_neighbour_111 (by decide) ?_
              refine zweak [false, false, false, false, false, false, false, false] ?_
              exact s_X12_neighbour_b130 hC _ _ _ h
          · have h := zift h c5
            refine zweak [true, false, false, false, false, false, false, false] ?_
            exact s_X12_neighbour_b43 hC _ _ _ h
def f_X12_apart_b290 (k278 : Nat → Int32 → Int32 → zMe → Option (Int32 × zMe)) : Nat → Nat → Int32 → Int32 → Int32 → zMe → Option (Int32 × zMe)
  | 0, _, _, _, _, _ => none
  | n + 1, x0, x2, x4, x5, M =>
    if x2 ≤ x5 then (
      zlet (x4 + 1) fun v1 =>
      k278 x0 x2 v1 M)
    else (
      (zgN M x0 [12] 18).bind fun a1 =>
      (zrZ M a1 ((5 * x4) + x5)).bind fun v2 =>
      if v2 = 0 then (
        some ((10 * x4) + x5, M))
      else (
        zlet (x5 + 1) fun v3 =>
        f_X12_apart_b290 k278 n x0 x2 x4 v3 M))
set_option maxHeartbeats 4000000 in
set_option maxRecDepth 100000 in
theorem s_X12_apart_b290 {g : zG} (hC : zC g) {k278 : Nat → Int32 → Int32 → zMe → Option (Int32 × zMe)} (hk278 : ∀ (x0 : Nat) (x2 : Int32) (x4 : Int32) (M : zMe) (q : (Int32 × zMe)), k278 x0 x2 x4 M = some q → zW g mX12_apart 278 [.ref x0, .retAddr 0, .int x2, .retAddr 0, .int x4, .retAddr 0, .retAddr 0, .retAddr 0, .retAddr 0, .retAddr 0, .retAddr 0] [] M (some (.int q.1)) q.2) : ∀ (n : Nat) (x0 : Nat) (x2 : Int32) (x4 : Int32) (x5 : Int32) (M : zMe) (q : (Int32 × zMe)), f_X12_apart_b290 k278 n x0 x2 x4 x5 M = some q → zW g mX12_apart 290 [.ref x0, .retAddr 0, .int x2, .retAddr 0, .int x4, .int x5, .retAddr 0, .retAddr 0, .retAddr 0, .retAddr 0, .retAddr 0] [] M (some (.int q.1)) q.2 := by
  intro n
  induction n with
  | zero => intro x0 x2 x4 x5 M q h; cases h
  | succ n ih =>
    intro x0 x2 x4 x5 M q h
    rw [f_X12_apart_b290] at h
    refine z_iload (x := x5) rfl dX12_apart_290 ?_
    refine z_iload_n (x := x2) rfl dX12_apart_292 ?_
    refine z_icmp_ge (tgt := 326) dX12_apart_293 (by decide) (fun c1 => ?_) (fun c1 => ?_)
    · have h := zift h c1
      obtain ⟨v1, hv⟩ : ∃ z : Int32, z = x4 + 1 := ⟨_, rfl⟩
      have h := zlet_use h hv
      refine z_iinc (v := v1) dX12_apart_326 (x := x4) rfl (by rw [hv]; rfl) ?_
      clear hv
      refine zeqL (L2 := [.ref x0, .retAddr 0, .int x2, .retAddr 0, .int v1, .int x5, .retAddr 0, .retAddr 0, .retAddr 0, .retAddr 0, .retAddr 0]) rfl ?_
      refine z_goto (tgt := 278) dX12_apart_329 (by decide) ?_
      refine zweak [true, false, true, false, true, false, false, false, false, false, false] ?_
      exact hk278 _ _ _ _ _ h
    · have h := zife h c1
      refine z_aload_n (x := x0) rfl dX12_apart_296 ?_
      obtain ⟨a1, h1, h⟩ := zbind h
      refine z_gN hC fs_X12_39 h1 dX12_apart_297 ?_
      refine z_iconst 5 (by decide) dX12_apart_300 ?_
      refine z_iload (x := x4) rfl dX12_apart_301 ?_
      refine z_imul dX12_apart_303 ?_
      refine z_iload (x := x5) rfl dX12_apart_304 ?_
      refine z_iadd dX12_apart_306 ?_
      obtain ⟨v2, h2, h⟩ := zbind h
      refine z_rZ h2 dX12_apart_307 ?_
      refine z_if_ne (tgt := 320) dX12_apart_308 (by decide) (fun c2 => ?_) (fun c2 => ?_)
      · have h := zife h c2
        obtain ⟨v3, hv⟩ : ∃ z : Int32, z = x5 + 1 := ⟨_, rfl⟩
        have h := zlet_use h hv
        refine z_iinc (v := v3) dX12_apart_320 (x := x5) rfl (by rw [hv]; rfl) ?_
        clear hv
        refine zeqL (L2 := [.ref x0, .retAddr 0, .int x2, .retAddr 0, .int x4, .int v3, .retAddr 0, .retAddr 0, .retAddr 0, .retAddr 0, .retAddr 0]) rfl ?_
        refine z_goto (tgt := 290) dX12_apart_323 (by decide) ?_
        exact ih _ _ _ _ _ _ h
      · have h := zift h c2
        refine z_bipush 10 (by decide) dX12_apart_311 ?_
        refine z_iload (x := x4) rfl dX12_apart_313 ?_
        refine z_imul dX12_apart_315 ?_
        refine z_iload (x := x5) rfl dX12_apart_316 ?_
        refine z_iadd dX12_apart_318 ?_
        obtain rfl := Option.some.inj h
        exact z_iret ⟨.int, rfl, rfl⟩ dX12_apart_319
def f_X12_apart_b278  : Nat → Nat → Int32 → Int32 → zMe → Option (Int32 × zMe)
  | 0, _, _, _, _ => none
  | n + 1, x0, x2, x4, M =>
    if x2 ≤ x4 then (
      some ((-1), M))
    else (
      zlet (x4 + 1 : Int32) fun v1 =>
      f_X12_apart_b290 (f_X12_apart_b278 n) zfu x0 x2 x4 v1 M)
set_option maxHeartbeats 4000000 in
set_option maxRecDepth 100000 in
theorem s_X12_apart_b278 {g : zG} (hC : zC g)  : ∀ (n : Nat) (x0 : Nat) (x2 : Int32) (x4 : Int32) (M : zMe) (q : (Int32 × zMe)), f_X12_apart_b278  n x0 x2 x4 M = some q → zW g mX12_apart 278 [.ref x0, .retAddr 0, .int x2, .retAddr 0, .int x4, .retAddr 0, .retAddr 0, .retAddr 0, .retAddr 0, .retAddr 0, .retAddr 0] [] M (some (.int q.1)) q.2 := by
  intro n
  induction n with
  | zero => intro x0 x2 x4 M q h; cases h
  | succ n ih =>
    intro x0 x2 x4 M q h
    rw [f_X12_apart_b278] at h
    refine z_iload (x := x4) rfl dX12_apart_278 ?_
    refine z_iload_n (x := x2) rfl dX12_apart_280 ?_
    refine z_icmp_ge (tgt := 332) dX12_apart_281 (by decide) (fun c1 => ?_) (fun c1 => ?_)
    · have h := zift h c1
      refine z_iconst (-1) (by decide) dX12_apart_332 ?_
      obtain rfl := Option.some.inj h
      exact z_iret ⟨.int, rfl, rfl⟩ dX12_apart_333
    · have h := zife h c1
      refine z_iload (x := x4) rfl dX12_apart_284 ?_
      refine z_iconst 1 (by decide) dX12_apart_286 ?_
      refine z_iadd dX12_apart_287 ?_
      refine z_nameI (fun v1 hv => ?_)
      have h := zlet_use h hv
      clear hv
      refine z_istore dX12_apart_288 (by decide) ?_
      refine zeqL (L2 := [.ref x0, .retAddr 0, .int x2, .retAddr 0, .int x4, .int v1, .retAddr 0, .retAddr 0, .retAddr 0, .retAddr 0, .retAddr 0]) rfl ?_
      exact s_X12_apart_b290 hC ih _ _ _ _ _ _ _ h
def f_X12_apart_b259 (k59 : Nat → Int32 → Int32 → Int32 → zMe → Option (Int32 × zMe)) (k68 : Nat → Int32 → Int32 → Int32 → Int32 → zMe → Option (Int32 × zMe)) (k92 : Nat → Int32 → Int32 → Int32 → Int32 → Int32 → Int32 → zMe → Option (Int32 × zMe)) (x0 : Nat) (x1 : Int32) (x2 : Int32) (x3 : Int32) (x4 : Int32) (x5 : Int32) (x6 : Int32) (y0 : Int32) (y1 : Int32) (y2 : Nat) (M : zMe) : Option (Int32 × zMe) :=
  (zwZ M y2 y1 y0).bind fun M1 =>
  zlet (x6 + 1) fun v1 =>
  k92 x0 x1 x2 x3 x4 x5 v1 M1
set_option maxHeartbeats 4000000 in
set_option maxRecDepth 100000 in
theorem s_X12_apart_b259 {g : zG} (hC : zC g) {k59 : Nat → Int32 → Int32 → Int32 → zMe → Option (Int32 × zMe)} {k68 : Nat → Int32 → Int32 → Int32 → Int32 → zMe → Option (Int32 × zMe)} {k92 : Nat → Int32 → Int32 → Int32 → Int32 → Int32 → Int32 → zMe → Option (Int32 × zMe)} (hk59 : ∀ (x0 : Nat) (x1 : Int32) (x2 : Int32) (x3 : Int32) (M : zMe) (q : (Int32 × zMe)), k59 x0 x1 x2 x3 M = some q → zW g mX12_apart 59 [.ref x0, .int x1, .int x2, .int x3, .retAddr 0, .retAddr 0, .retAddr 0, .retAddr 0, .retAddr 0, .retAddr 0, .retAddr 0] [] M (some (.int q.1)) q.2) (hk68 : ∀ (x0 : Nat) (x1 : Int32) (x2 : Int32) (x3 : Int32) (x4 : Int32) (M : zMe) (q : (Int32 × zMe)), k68 x0 x1 x2 x3 x4 M = some q → zW g mX12_apart 68 [.ref x0, .int x1, .int x2, .int x3, .int x4, .retAddr 0, .retAddr 0, .retAddr 0, .retAddr 0, .retAddr 0, .retAddr 0] [] M (some (.int q.1)) q.2) (hk92 : ∀ (x0 : Nat) (x1 : Int32) (x2 : Int32) (x3 : Int32) (x4 : Int32) (x5 : Int32) (x6 : Int32) (M : zMe) (q : (Int32 × zMe)), k92 x0 x1 x2 x3 x4 x5 x6 M = some q → zW g mX12_apart 92 [.ref x0, .int x1, .int x2, .int x3, .int x4, .int x5, .int x6, .retAddr 0, .retAddr 0, .retAddr 0, .retAddr 0] [] M (some (.int q.1)) q.2) (x0 : Nat) (x1 : Int32) (x2 : Int32) (x3 : Int32) (x4 : Int32) (x5 : Int32) (x6 : Int32) (y0 : Int32) (y1 : Int32) (y2 : Nat) (M : zMe) (q : (Int32 × zMe)) (h : f_X12_apart_b259 k59 k68 k92 x0 x1 x2 x3 x4 x5 x6 y0 y1 y2 M = some q) : zW g mX12_apart 259 [.ref x0, .int x1, .int x2, .int x3, .int x4, .int x5, .int x6, .retAddr 0, .retAddr 0, .retAddr 0, .retAddr 0] [.int y0, .int y1, .ref y2] M (some (.int q.1)) q.2 := by
  unfold f_X12_apart_b259 at h
  obtain ⟨M1, h1, h⟩ := zbind h
  refine z_wZ h1 dX12_apart_259 ?_
  obtain ⟨v1, hv⟩ : ∃ z : Int32, z = x6 + 1 := ⟨_, rfl⟩
  have h := zlet_use h hv
  refine z_iinc (v := v1) dX12_apart_260 (x := x6) rfl (by rw [hv]; rfl) ?_
  clear hv
  refine zeqL (L2 := [.ref x0, .int x1, .int x2, .int x3, .int x4, .int x5, .int v1, .retAddr 0, .retAddr 0, .retAddr 0, .retAddr 0]) rfl ?_
  refine z_goto (tgt := 92) dX12_apart_263 (by decide) ?_
  exact hk92 _ _ _ _ _ _ _ _ _ h
def f_X12_apart_b254 (k59 : Nat → Int32 → Int32 → Int32 → zMe → Option (Int32 × zMe)) (k68 : Nat → Int32 → Int32 → Int32 → Int32 → zMe → Option (Int32 × zMe)) (k92 : Nat → Int32 → Int32 → Int32 → Int32 → Int32 → Int32 → zMe → Option (Int32 × zMe)) (x0 : Nat) (x1 : Int32) (x2 : Int32) (x3 : Int32) (x4 : Int32) (x5 : Int32) (x6 : Int32) (y0 : Int32) (y1 : Nat) (M : zMe) : Option (Int32 × zMe) :=
  f_X12_apart_b259 k59 k68 k92 x0 x1 x2 x3 x4 x5 x6 1 y0 y1 M
set_option maxHeartbeats 4000000 in
set_option maxRecDepth 100000 in
theorem s_X12_apart_b254 {g : zG} (hC : zC g) {k59 : Nat → Int32 → Int32 → Int32 → zMe → Option (Int32 × zMe)} {k68 : Nat → Int32 → Int32 → Int32 → Int32 → zMe → Option (Int32 × zMe)} {k92 : Nat → Int32 → Int32 → Int32 → Int32 → Int32 → Int32 → zMe → Option (Int32 × zMe)} (hk59 : ∀ (x0 : Nat) (x1 : Int32) (x2 : Int32) (x3 : Int32) (M : zMe) (q : (Int32 × zMe)), k59 x0 x1 x2 x3 M = some q → zW g mX12_apart 59 [.ref x0, .int x1, .int x2, .int x3, .retAddr 0, .retAddr 0, .retAddr 0, .retAddr 0, .retAddr 0, .retAddr 0, .retAddr 0] [] M (some (.int q.1)) q.2) (hk68 : ∀ (x0 : Nat) (x1 : Int32) (x2 : Int32) (x3 : Int32) (x4 : Int32) (M : zMe) (q : (Int32 × zMe)), k68 x0 x1 x2 x3 x4 M = some q → zW g mX12_apart 68 [.ref x0, .int x1, .int x2, .int x3, .int x4, .retAddr 0, .retAddr 0, .retAddr 0, .retAddr 0, .retAddr 0, .retAddr 0] [] M (some (.int q.1)) q.2) (hk92 : ∀ (x0 : Nat) (x1 : Int32) (x2 : Int32) (x3 : Int32) (x4 : Int32) (x5 : Int32) (x6 : Int32) (M : zMe) (q : (Int32 × zMe)), k92 x0 x1 x2 x3 x4 x5 x6 M = some q → zW g mX12_apart 92 [.ref x0, .int x1, .int x2, .int x3, .int x4, .int x5, .int x6, .retAddr 0, .retAddr 0, .retAddr 0, .retAddr 0] [] M (some (.int q.1)) q.2) (x0 : Nat) (x1 : Int32) (x2 : Int32) (x3 : Int32) (x4 : Int32) (x5 : Int32) (x6 : Int32) (y0 : Int32) (y1 : Nat) (M : zMe) (q : (Int32 × zMe)) (h : f_X12_apart_b254 k59 k68 k92 x0 x1 x2 x3 x4 x5 x6 y0 y1 M = some q) : zW g mX12_apart 254 [.ref x0, .int x1, .int x2, .int x3, .int x4, .int x5, .int x6, .retAddr 0, .retAddr 0, .retAddr 0, .retAddr 0] [.int y0, .ref y1] M (some (.int q.1)) q.2 := by
  unfold f_X12_apart_b254 at h
  refine z_iconst 1 (by decide) dX12_apart_254 ?_
  refine z_goto (tgt := 259) dX12_apart_255 (by decide) ?_
  exact s_X12_apart_b259 hC hk59 hk68 hk92 _ _ _ _ _ _ _ _ _ _ _ _ h
def f_X12_apart_b232 (k59 : Nat → Int32 → Int32 → Int32 → zMe → Option (Int32 × zMe)) (k68 : Nat → Int32 → Int32 → Int32 → Int32 → zMe → Option (Int32 × zMe)) (k92 : Nat → Int32 → Int32 → Int32 → Int32 → Int32 → Int32 → zMe → Option (Int32 × zMe)) (x0 : Nat) (x1 : Int32) (x2 : Int32) (x4 : Int32) (x5 : Int32) (x6 : Int32) (x9 : Int32) (x10 : Int32) (y0 : Int32) (M : zMe) : Option (Int32 × zMe) :=
  (zgN M x0 [12] 18).bind fun a1 =>
  (zgN M x0 [12] 18).bind fun a2 =>
  (zrZ M a2 x9).bind fun v1 =>
  if v1 = 0 then (
    if x10 = 0 then (
      f_X12_apart_b259 k59 k68 k92 x0 x1 x2 y0 x4 x5 x6 0 x9 a1 M)
    else (
      f_X12_apart_b254 k59 k68 k92 x0 x1 x2 y0 x4 x5 x6 x9 a1 M))
  else (
    f_X12_apart_b254 k59 k68 k92 x0 x1 x2 y0 x4 x5 x6 x9 a1 M)
set_option maxHeartbeats 4000000 in
set_option maxRecDepth 100000 in
theorem s_X12_apart_b232 {g : zG} (hC : zC g) {k59 : Nat → Int32 → Int32 → Int32 → zMe → Option (Int32 × zMe)} {k68 : Nat → Int32 → Int32 → Int32 → Int32 → zMe → Option (Int32 × zMe)} {k92 : Nat → Int32 → Int32 → Int32 → Int32 → Int32 → Int32 → zMe → Option (Int32 × zMe)} (hk59 : ∀ (x0 : Nat) (x1 : Int32) (x2 : Int32) (x3 : Int32) (M : zMe) (q : (Int32 × zMe)), k59 x0 x1 x2 x3 M = some q → zW g mX12_apart 59 [.ref x0, .int x1, .int x2, .int x3, .retAddr 0, .retAddr 0, .retAddr 0, .retAddr 0, .retAddr 0, .retAddr 0, .retAddr 0] [] M (some (.int q.1)) q.2) (hk68 : ∀ (x0 : Nat) (x1 : Int32) (x2 : Int32) (x3 : Int32) (x4 : Int32) (M : zMe) (q : (Int32 × zMe)), k68 x0 x1 x2 x3 x4 M = some q → zW g mX12_apart 68 [.ref x0, .int x1, .int x2, .int x3, .int x4, .retAddr 0, .retAddr 0, .retAddr 0, .retAddr 0, .retAddr 0, .retAddr 0] [] M (some (.int q.1)) q.2) (hk92 : ∀ (x0 : Nat) (x1 : Int32) (x2 : Int32) (x3 : Int32) (x4 : Int32) (x5 : Int32) (x6 : Int32) (M : zMe) (q : (Int32 × zMe)), k92 x0 x1 x2 x3 x4 x5 x6 M = some q → zW g mX12_apart 92 [.ref x0, .int x1, .int x2, .int x3, .int x4, .int x5, .int x6, .retAddr 0, .retAddr 0, .retAddr 0, .retAddr 0] [] M (some (.int q.1)) q.2) (x0 : Nat) (x1 : Int32) (x2 : Int32) (x4 : Int32) (x5 : Int32) (x6 : Int32) (x9 : Int32) (x10 : Int32) (y0 : Int32) (M : zMe) (q : (Int32 × zMe)) (h : f_X12_apart_b232 k59 k68 k92 x0 x1 x2 x4 x5 x6 x9 x10 y0 M = some q) : zW g mX12_apart 232 [.ref x0, .int x1, .int x2, .retAddr 0, .int x4, .int x5, .int x6, .retAddr 0, .retAddr 0, .int x9, .int x10] [.int y0] M (some (.int q.1)) q.2 := by
  unfold f_X12_apart_b232 at h
  refine z_istore_n dX12_apart_232 (by decide) ?_
  refine zeqL (L2 := [.ref x0, .int x1, .int x2, .int y0, .int x4, .int x5, .int x6, .retAddr 0, .retAddr 0, .int x9, .int x10]) rfl ?_
  refine z_aload_n (x := x0) rfl dX12_apart_233 ?_
  obtain ⟨a1, h1, h⟩ := zbind h
  refine z_gN hC fs_X12_39 h1 dX12_apart_234 ?_
  refine z_iload (x := x9) rfl dX12_apart_237 ?_
  refine z_aload_n (x := x0) rfl dX12_apart_239 ?_
  obtain ⟨a2, h2, h⟩ := zbind h
  refine z_gN hC fs_X12_39 h2 dX12_apart_240 ?_
  refine z_iload (x := x9) rfl dX12_apart_243 ?_
  obtain ⟨v1, h3, h⟩ := zbind h
  refine z_rZ h3 dX12_apart_245 ?_
  refine z_if_ne (tgt := 254) dX12_apart_246 (by decide) (fun c1 => ?_) (fun c1 => ?_)
  · have h := zife h c1
    refine zweak [true, true, true, true, true, true, true, false, false, false, false] ?_
    exact s_X12_apart_b254 hC hk59 hk68 hk92 _ _ _ _ _ _ _ _ _ _ _ h
  · have h := zift h c1
    refine z_iload (x := x10) rfl dX12_apart_249 ?_
    refine z_if_eq (tgt := 258) dX12_apart_251 (by decide) (fun c2 => ?_) (fun c2 => ?_)
    · have h := zift h c2
      refine z_iconst 0 (by decide) dX12_apart_258 ?_
      refine zweak [true, true, true, true, true, true, true, false, false, false, false] ?_
      exact s_X12_apart_b259 hC hk59 hk68 hk92 _ _ _ _ _ _ _ _ _ _ _ _ h
    · have h := zife h c2
      refine zweak [true, true, true, true, true, true, true, false, false, false, false] ?_
      exact s_X12_apart_b254 hC hk59 hk68 hk92 _ _ _ _ _ _ _ _ _ _ _ h
def f_X12_apart_b231 (k59 : Nat → Int32 → Int32 → Int32 → zMe → Option (Int32 × zMe)) (k68 : Nat → Int32 → Int32 → Int32 → Int32 → zMe → Option (Int32 × zMe)) (k92 : Nat → Int32 → Int32 → Int32 → Int32 → Int32 → Int32 → zMe → Option (Int32 × zMe)) (x0 : Nat) (x1 : Int32) (x2 : Int32) (x4 : Int32) (x5 : Int32) (x6 : Int32) (x9 : Int32) (x10 : Int32) (M : zMe) : Option (Int32 × zMe) :=
  f_X12_apart_b232 k59 k68 k92 x0 x1 x2 x4 x5 x6 x9 x10 0 M
set_option maxHeartbeats 4000000 in
set_option maxRecDepth 100000 in
theorem s_X12_apart_b231 {g : zG} (hC : zC g) {k59 : Nat → Int32 → Int32 → Int32 → zMe → Option (Int32 × zMe)} {k68 : Nat → Int32 → Int32 → Int32 → Int32 → zMe → Option (Int32 × zMe)} {k92 : Nat → Int32 → Int32 → Int32 → Int32 → Int32 → Int32 → zMe → Option (Int32 × zMe)} (hk59 : ∀ (x0 : Nat) (x1 : Int32) (x2 : Int32) (x3 : Int32) (M : zMe) (q : (Int32 × zMe)), k59 x0 x1 x2 x3 M = some q → zW g mX12_apart 59 [.ref x0, .int x1, .int x2, .int x3, .retAddr 0, .retAddr 0, .retAddr 0, .retAddr 0, .retAddr 0, .retAddr 0, .retAddr 0] [] M (some (.int q.1)) q.2) (hk68 : ∀ (x0 : Nat) (x1 : Int32) (x2 : Int32) (x3 : Int32) (x4 : Int32) (M : zMe) (q : (Int32 × zMe)), k68 x0 x1 x2 x3 x4 M = some q → zW g mX12_apart 68 [.ref x0, .int x1, .int x2, .int x3, .int x4, .retAddr 0, .retAddr 0, .retAddr 0, .retAddr 0, .retAddr 0, .retAddr 0] [] M (some (.int q.1)) q.2) (hk92 : ∀ (x0 : Nat) (x1 : Int32) (x2 : Int32) (x3 : Int32) (x4 : Int32) (x5 : Int32) (x6 : Int32) (M : zMe) (q : (Int32 × zMe)), k92 x0 x1 x2 x3 x4 x5 x6 M = some q → zW g mX12_apart 92 [.ref x0, .int x1, .int x2, .int x3, .int x4, .int x5, .int x6, .retAddr 0, .retAddr 0, .retAddr 0, .retAddr 0] [] M (some (.int q.1)) q.2) (x0 : Nat) (x1 : Int32) (x2 : Int32) (x4 : Int32) (x5 : Int32) (x6 : Int32) (x9 : Int32) (x10 : Int32) (M : zMe) (q : (Int32 × zMe)) (h : f_X12_apart_b231 k59 k68 k92 x0 x1 x2 x4 x5 x6 x9 x10 M = some q) : zW g mX12_apart 231 [.ref x0, .int x1, .int x2, .retAddr 0, .int x4, .int x5, .int x6, .retAddr 0, .retAddr 0, .int x9, .int x10] [] M (some (.int q.1)) q.2 := by
  unfold f_X12_apart_b231 at h
  refine z_iconst 0 (by decide) dX12_apart_231 ?_
  exact s_X12_apart_b232 hC hk59 hk68 hk92 _ _ _ _ _ _ _ _ _ _ _ h
def f_X12_apart_b227 (k59 : Nat → Int32 → Int32 → Int32 → zMe → Option (Int32 × zMe)) (k68 : Nat → Int32 → Int32 → Int32 → Int32 → zMe → Option (Int32 × zMe)) (k92 : Nat → Int32 → Int32 → Int32 → Int32 → Int32 → Int32 → zMe → Option (Int32 × zMe)) (x0 : Nat) (x1 : Int32) (x2 : Int32) (x4 : Int32) (x5 : Int32) (x6 : Int32) (x9 : Int32) (x10 : Int32) (M : zMe) : Option (Int32 × zMe) :=
  f_X12_apart_b232 k59 k68 k92 x0 x1 x2 x4 x5 x6 x9 x10 1 M
set_option maxHeartbeats 4000000 in
set_option maxRecDepth 100000 in
theorem s_X12_apart_b227 {g : zG} (hC : zC g) {k59 : Nat → Int32 → Int32 → Int32 → zMe → Option (Int32 × zMe)} {k68 : Nat → Int32 → Int32 → Int32 → Int32 → zMe → Option (Int32 × zMe)} {k92 : Nat → Int32 → Int32 → Int32 → Int32 → Int32 → Int32 → zMe → Option (Int32 × zMe)} (hk59 : ∀ (x0 : Nat) (x1 : Int32) (x2 : Int32) (x3 : Int32) (M : zMe) (q : (Int32 × zMe)), k59 x0 x1 x2 x3 M = some q → zW g mX12_apart 59 [.ref x0, .int x1, .int x2, .int x3, .retAddr 0, .retAddr 0, .retAddr 0, .retAddr 0, .retAddr 0, .retAddr 0, .retAddr 0] [] M (some (.int q.1)) q.2) (hk68 : ∀ (x0 : Nat) (x1 : Int32) (x2 : Int32) (x3 : Int32) (x4 : Int32) (M : zMe) (q : (Int32 × zMe)), k68 x0 x1 x2 x3 x4 M = some q → zW g mX12_apart 68 [.ref x0, .int x1, .int x2, .int x3, .int x4, .retAddr 0, .retAddr 0, .retAddr 0, .retAddr 0, .retAddr 0, .retAddr 0] [] M (some (.int q.1)) q.2) (hk92 : ∀ (x0 : Nat) (x1 : Int32) (x2 : Int32) (x3 : Int32) (x4 : Int32) (x5 : Int32) (x6 : Int32) (M : zMe) (q : (Int32 × zMe)), k92 x0 x1 x2 x3 x4 x5 x6 M = some q → zW g mX12_apart 92 [.ref x0, .int x1, .int x2, .int x3, .int x4, .int x5, .int x6, .retAddr 0, .retAddr 0, .retAddr 0, .retAddr 0] [] M (some (.int q.1)) q.2) (x0 : Nat) (x1 : Int32) (x2 : Int32) (x4 : Int32) (x5 : Int32) (x6 : Int32) (x9 : Int32) (x10 : Int32) (M : zMe) (q : (Int32 × zMe)) (h : f_X12_apart_b227 k59 k68 k92 x0 x1 x2 x4 x5 x6 x9 x10 M = some q) : zW g mX12_apart 227 [.ref x0, .int x1, .int x2, .retAddr 0, .int x4, .int x5, .int x6, .retAddr 0, .retAddr 0, .int x9, .int x10] [] M (some (.int q.1)) q.2 := by
  unfold f_X12_apart_b227 at h
  refine z_iconst 1 (by decide) dX12_apart_227 ?_
  refine z_goto (tgt := 232) dX12_apart_228 (by decide) ?_
  exact s_X12_apart_b232 hC hk59 hk68 hk92 _ _ _ _ _ _ _ _ _ _ _ h
def f_X12_apart_b206 (k59 : Nat → Int32 → Int32 → Int32 → zMe → Option (Int32 × zMe)) (k68 : Nat → Int32 → Int32 → Int32 → Int32 → zMe → Option (Int32 × zMe)) (k92 : Nat → Int32 → Int32 → Int32 → Int32 → Int32 → Int32 → zMe → Option (Int32 × zMe)) (x0 : Nat) (x1 : Int32) (x2 : Int32) (x3 : Int32) (x4 : Int32) (x5 : Int32) (x6 : Int32) (x9 : Int32) (y0 : Int32) (M : zMe) : Option (Int32 × zMe) :=
  if x3 = 0 then (
    if y0 = 0 then (
      f_X12_apart_b231 k59 k68 k92 x0 x1 x2 x4 x5 x6 x9 y0 M)
    else (
      (zgN M x0 [12] 18).bind fun a1 =>
      (zrZ M a1 x9).bind fun v1 =>
      if v1 = 0 then (
        f_X12_apart_b227 k59 k68 k92 x0 x1 x2 x4 x5 x6 x9 y0 M)
      else (
        f_X12_apart_b231 k59 k68 k92 x0 x1 x2 x4 x5 x6 x9 y0 M)))
  else (
    f_X12_apart_b227 k59 k68 k92 x0 x1 x2 x4 x5 x6 x9 y0 M)
set_option maxHeartbeats 4000000 in
set_option maxRecDepth 100000 in
theorem s_X12_apart_b206 {g : zG} (hC : zC g) {k59 : Nat → Int32 → Int32 → Int32 → zMe → Option (Int32 × zMe)} {k68 : Nat → Int32 → Int32 → Int32 → Int32 → zMe → Option (Int32 × zMe)} {k92 : Nat → Int32 → Int32 → Int32 → Int32 → Int32 → Int32 → zMe → Option (Int32 × zMe)} (hk59 : ∀ (x0 : Nat) (x1 : Int32) (x2 : Int32) (x3 : Int32) (M : zMe) (q : (Int32 × zMe)), k59 x0 x1 x2 x3 M = some q → zW g mX12_apart 59 [.ref x0, .int x1, .int x2, .int x3, .retAddr 0, .retAddr 0, .retAddr 0, .retAddr 0, .retAddr 0, .retAddr 0, .retAddr 0] [] M (some (.int q.1)) q.2) (hk68 : ∀ (x0 : Nat) (x1 : Int32) (x2 : Int32) (x3 : Int32) (x4 : Int32) (M : zMe) (q : (Int32 × zMe)), k68 x0 x1 x2 x3 x4 M = some q → zW g mX12_apart 68 [.ref x0, .int x1, .int x2, .int x3, .int x4, .retAddr 0, .retAddr 0, .retAddr 0, .retAddr 0, .retAddr 0, .retAddr 0] [] M (some (.int q.1)) q.2) (hk92 : ∀ (x0 : Nat) (x1 : Int32) (x2 : Int32) (x3 : Int32) (x4 : Int32) (x5 : Int32) (x6 : Int32) (M : zMe) (q : (Int32 × zMe)), k92 x0 x1 x2 x3 x4 x5 x6 M = some q → zW g mX12_apart 92 [.ref x0, .int x1, .int x2, .int x3, .int x4, .int x5, .int x6, .retAddr 0, .retAddr 0, .retAddr 0, .retAddr 0] [] M (some (.int q.1)) q.2) (x0 : Nat) (x1 : Int32) (x2 : Int32) (x3 : Int32) (x4 : Int32) (x5 : Int32) (x6 : Int32) (x9 : Int32) (y0 : Int32) (M : zMe) (q : (Int32 × zMe)) (h : f_X12_apart_b206 k59 k68 k92 x0 x1 x2 x3 x4 x5 x6 x9 y0 M = some q) : zW g mX12_apart 206 [.ref x0, .int x1, .int x2, .int x3, .int x4, .int x5, .int x6, .retAddr 0, .retAddr 0, .int x9, .retAddr 0] [.int y0] M (some (.int q.1)) q.2 := by
  unfold f_X12_apart_b206 at h
  refine z_istore dX12_apart_206 (by decide) ?_
  refine zeqL (L2 := [.ref x0, .int x1, .int x2, .int x3, .int x4, .int x5, .int x6, .retAddr 0, .retAddr 0, .int x9, .int y0]) rfl ?_
  refine z_iload_n (x := x3) rfl dX12_apart_208 ?_
  refine z_if_ne (tgt := 227) dX12_apart_209 (by decide) (fun c1 => ?_) (fun c1 => ?_)
  · have h := zife h c1
    refine zweak [true, true, true, false, true, true, true, false, false, true, true] ?_
    exact s_X12_apart_b227 hC hk59 hk68 hk92 _ _ _ _ _ _ _ _ _ _ h
  · have h := zift h c1
    refine z_iload (x := y0) rfl dX12_apart_212 ?_
    refine z_if_eq (tgt := 231) dX12_apart_214 (by decide) (fun c2 => ?_) (fun c2 => ?_)
    · have h := zift h c2
      refine zweak [true, true, true, false, true, true, true, false, false, true, true] ?_
      exact s_X12_apart_b231 hC hk59 hk68 hk92 _ _ _ _ _ _ _ _ _ _ h
    · have h := zife h c2
      refine z_aload_n (x := x0) rfl dX12_apart_217 ?_
      obtain ⟨a1, h1, h⟩ := zbind h
      refine z_gN hC fs_X12_39 h1 dX12_apart_218 ?_
      refine z_iload (x := x9) rfl dX12_apart_221 ?_
      obtain ⟨v1, h2, h⟩ := zbind h
      refine z_rZ h2 dX12_apart_223 ?_
      refine z_if_ne (tgt := 231) dX12_apart_224 (by decide) (fun c3 => ?_) (fun c3 => ?_)
      · have h := zife h c3
        refine zweak [true, true, true, false, true, true, true, false, false, true, true] ?_
        exact s_X12_apart_b231 hC hk59 hk68 hk92 _ _ _ _ _ _ _ _ _ _ h
      · have h := zift h c3
        refine zweak [true, true, true, false, true, true, true, false, false, true, true] ?_
        exact s_X12_apart_b227 hC hk59 hk68 hk92 _ _ _ _ _ _ _ _ _ _ h
def f_X12_apart_b201 (k59 : Nat → Int32 → Int32 → Int32 → zMe → Option (Int32 × zMe)) (k68 : Nat → Int32 → Int32 → Int32 → Int32 → zMe → Option (Int32 × zMe)) (k92 : Nat → Int32 → Int32 → Int32 → Int32 → Int32 → Int32 → zMe → Option (Int32 × zMe)) (x0 : Nat) (x1 : Int32) (x2 : Int32) (x3 : Int32) (x4 : Int32) (x5 : Int32) (x6 : Int32) (x9 : Int32) (M : zMe) : Option (Int32 × zMe) :=
  f_X12_apart_b206 k59 k68 k92 x0 x1 x2 x3 x4 x5 x6 x9 1 M
set_option maxHeartbeats 4000000 in
set_option maxRecDepth 100000 in
theorem s_X12_apart_b201 {g : zG} (hC : zC g) {k59 : Nat → Int32 → Int32 → Int32 → zMe → Option (Int32 × zMe)} {k68 : Nat → Int32 → Int32 → Int32 → Int32 → zMe → Option (Int32 × zMe)} {k92 : Nat → Int32 → Int32 → Int32 → Int32 → Int32 → Int32 → zMe → Option (Int32 × zMe)} (hk59 : ∀ (x0 : Nat) (x1 : Int32) (x2 : Int32) (x3 : Int32) (M : zMe) (q : (Int32 × zMe)), k59 x0 x1 x2 x3 M = some q → zW g mX12_apart 59 [.ref x0, .int x1, .int x2, .int x3, .retAddr 0, .retAddr 0, .retAddr 0, .retAddr 0, .retAddr 0, .retAddr 0, .retAddr 0] [] M (some (.int q.1)) q.2) (hk68 : ∀ (x0 : Nat) (x1 : Int32) (x2 : Int32) (x3 : Int32) (x4 : Int32) (M : zMe) (q : (Int32 × zMe)), k68 x0 x1 x2 x3 x4 M = some q → zW g mX12_apart 68 [.ref x0, .int x1, .int x2, .int x3, .int x4, .retAddr 0, .retAddr 0, .retAddr 0, .retAddr 0, .retAddr 0, .retAddr 0] [] M (some (.int q.1)) q.2) (hk92 : ∀ (x0 : Nat) (x1 : Int32) (x2 : Int32) (x3 : Int32) (x4 : Int32) (x5 : Int32) (x6 : Int32) (M : zMe) (q : (Int32 × zMe)), k92 x0 x1 x2 x3 x4 x5 x6 M = some q → zW g mX12_apart 92 [.ref x0, .int x1, .int x2, .int x3, .int x4, .int x5, .int x6, .retAddr 0, .retAddr 0, .retAddr 0, .retAddr 0] [] M (some (.int q.1)) q.2) (x0 : Nat) (x1 : Int32) (x2 : Int32) (x3 : Int32) (x4 : Int32) (x5 : Int32) (x6 : Int32) (x9 : Int32) (M : zMe) (q : (Int32 × zMe)) (h : f_X12_apart_b201 k59 k68 k92 x0 x1 x2 x3 x4 x5 x6 x9 M = some q) : zW g mX12_apart 201 [.ref x0, .int x1, .int x2, .int x3, .int x4, .int x5, .int x6, .retAddr 0, .retAddr 0, .int x9, .retAddr 0] [] M (some (.int q.1)) q.2 := by
  unfold f_X12_apart_b201 at h
  refine z_iconst 1 (by decide) dX12_apart_201 ?_
  refine z_goto (tgt := 206) dX12_apart_202 (by decide) ?_
  exact s_X12_apart_b206 hC hk59 hk68 hk92 _ _ _ _ _ _ _ _ _ _ _ h
def f_X12_apart_b92 (k59 : Nat → Int32 → Int32 → Int32 → zMe → Option (Int32 × zMe)) (k68 : Nat → Int32 → Int32 → Int32 → Int32 → zMe → Option (Int32 × zMe)) : Nat → Nat → Int32 → Int32 → Int32 → Int32 → Int32 → Int32 → zMe → Option (Int32 × zMe)
  | 0, _, _, _, _, _, _, _, _ => none
  | n + 1, x0, x1, x2, x3, x4, x5, x6, M =>
    if (x2 * x2) ≤ x6 then (
      zlet (x4 + (-1)) fun v1 =>
      k68 x0 x1 x2 x3 v1 M)
    else (
      if x2 = 0 then none else
      zlet (x6 / x2 : Int32) fun v2 =>
      if x2 = 0 then none else
      zlet (x6 - x6 / x2 * x2) fun v3 =>
      zlet (((25 * x4) + (5 * v2)) + v3 : Int32) fun v4 =>
      (zgN M x0 [12] 18).bind fun a1 =>
      (zob M x0 12).bind fun _ =>
      (f_X12_go x0 x1 v2 0 x4 M).bind fun q1 =>
      (zob q1.2 x0 12).bind fun _ =>
      (f_X12_go x0 x1 v3 0 x4 q1.2).bind fun q2 =>
      (zrZ q2.2 a1 (((25 * x5) + (5 * q1.1)) + q2.1)).bind fun v5 =>
      if v5 = 0 then (
        (zgN q2.2 x0 [12] 18).bind fun a2 =>
        (zob q2.2 x0 12).bind fun _ =>
        (f_X12_go x0 x1 v2 1 x4 q2.2).bind fun q3 =>
        (zob q3.2 x0 12).bind fun _ =>
        (f_X12_go x0 x1 v3 1 x4 q3.2).bind fun q4 =>
        (zrZ q4.2 a2 (((25 * x5) + (5 * q3.1)) + q4.1)).bind fun v6 =>
        if v6 = 0 then (
          f_X12_apart_b206 k59 k68 (f_X12_apart_b92 k59 k68 n) x0 x1 x2 x3 x4 x5 x6 v4 0 q4.2)
        else (
          f_X12_apart_b201 k59 k68 (f_X12_apart_b92 k59 k68 n) x0 x1 x2 x3 x4 x5 x6 v4 q4.2))
      else (
        f_X12_apart_b201 k59 k68 (f_X12_apart_b92 k59 k68 n) x0 x1 x2 x3 x4 x5 x6 v4 q2.2))
set_option maxHeartbeats 4000000 in
set_option maxRecDepth 100000 in
theorem s_X12_apart_b92 {g : zG} (hC : zC g) {k59 : Nat → Int32 → Int32 → Int32 → zMe → Option (Int32 × zMe)} {k68 : Nat → Int32 → Int32 → Int32 → Int32 → zMe → Option (Int32 × zMe)} (hk59 : ∀ (x0 : Nat) (x1 : Int32) (x2 : Int32) (x3 : Int32) (M : zMe) (q : (Int32 × zMe)), k59 x0 x1 x2 x3 M = some q → zW g mX12_apart 59 [.ref x0, .int x1, .int x2, .int x3, .retAddr 0, .retAddr 0, .retAddr 0, .retAddr 0, .retAddr 0, .retAddr 0, .retAddr 0] [] M (some (.int q.1)) q.2) (hk68 : ∀ (x0 : Nat) (x1 : Int32) (x2 : Int32) (x3 : Int32) (x4 : Int32) (M : zMe) (q : (Int32 × zMe)), k68 x0 x1 x2 x3 x4 M = some q → zW g mX12_apart 68 [.ref x0, .int x1, .int x2, .int x3, .int x4, .retAddr 0, .retAddr 0, .retAddr 0, .retAddr 0, .retAddr 0, .retAddr 0] [] M (some (.int q.1)) q.2) : ∀ (n : Nat) (x0 : Nat) (x1 : Int32) (x2 : Int32) (x3 : Int32) (x4 : Int32) (x5 : Int32) (x6 : Int32) (M : zMe) (q : (Int32 × zMe)), f_X12_apart_b92 k59 k68 n x0 x1 x2 x3 x4 x5 x6 M = some q → zW g mX12_apart 92 [.ref x0, .int x1, .int x2, .int x3, .int x4, .int x5, .int x6, .retAddr 0, .retAddr 0, .retAddr 0, .retAddr 0] [] M (some (.int q.1)) q.2 := by
  intro n
  induction n with
  | zero => intro x0 x1 x2 x3 x4 x5 x6 M q h; cases h
  | succ n ih =>
    intro x0 x1 x2 x3 x4 x5 x6 M q h
    rw [f_X12_apart_b92] at h
    refine z_iload (x := x6) rfl dX12_apart_92 ?_
    refine z_iload_n (x := x2) rfl dX12_apart_94 ?_
    refine z_iload_n (x := x2) rfl dX12_apart_95 ?_
    refine z_imul dX12_apart_96 ?_
    refine z_icmp_ge (tgt := 266) dX12_apart_97 (by decide) (fun c1 => ?_) (fun c1 => ?_)
    · have h := zift h c1
      obtain ⟨v1, hv⟩ : ∃ z : Int32, z = x4 + (-1) := ⟨_, rfl⟩
      have h := zlet_use h hv
      refine z_iinc (v := v1) dX12_apart_266 (x := x4) rfl (by rw [hv]; rfl) ?_
      clear hv
      refine zeqL (L2 := [.ref x0, .int x1, .int x2, .int x3, .int v1, .int x5, .int x6, .retAddr 0, .retAddr 0, .retAddr 0, .retAddr 0]) rfl ?_
      refine z_goto (tgt := 68) dX12_apart_269 (by decide) ?_
      refine zweak [true, true, true, true, true, false, false, false, false, false, false] ?_
      exact hk68 _ _ _ _ _ _ _ h
    · have h := zife h c1
      refine z_iload (x := x6) rfl dX12_apart_100 ?_
      refine z_iload_n (x := x2) rfl dX12_apart_102 ?_
      have hne : ¬ x2 = 0 := fun z => by rw [if_pos z] at h; cases h
      have h := zife h hne
      refine z_idiv hne dX12_apart_103 ?_
      refine z_nameI (fun v2 hv => ?_)
      have h := zlet_use h hv
      clear hv
      refine z_istore dX12_apart_104 (by decide) ?_
      refine zeqL (L2 := [.ref x0, .int x1, .int x2, .int x3, .int x4, .int x5, .int x6, .int v2, .retAddr 0, .retAddr 0, .retAddr 0]) rfl ?_
      refine z_iload (x := x6) rfl dX12_apart_106 ?_
      refine z_iload_n (x := x2) rfl dX12_apart_108 ?_
      have hne : ¬ x2 = 0 := fun z => by rw [if_pos z] at h; cases h
      have h := zife h hne
      refine z_irem hne dX12_apart_109 ?_
      refine z_nameI (fun v3 hv => ?_)
      have h := zlet_use h hv
      clear hv
      refine z_istore dX12_apart_110 (by decide) ?_
      refine zeqL (L2 := [.ref x0, .int x1, .int x2, .int x3, .int x4, .int x5, .int x6, .int v2, .int v3, .retAddr 0, .retAddr 0]) rfl ?_
      refine z_bipush 25 (by decide) dX12_apart_112 ?_
      refine z_iload (x := x4) rfl dX12_apart_114 ?_
      refine z_imul dX12_apart_116 ?_
      refine z_iconst 5 (by decide) dX12_apart_117 ?_
      refine z_iload (x := v2) rfl dX12_apart_118 ?_
      refine z_imul dX12_apart_120 ?_
      refine z_iadd dX12_apart_121 ?_
      refine z_iload (x := v3) rfl dX12_apart_122 ?_
      refine z_iadd dX12_apart_124 ?_
      refine z_nameI (fun v4 hv => ?_)
      have h := zlet_use h hv
      clear hv
      refine z_istore dX12_apart_125 (by decide) ?_
      refine zeqL (L2 := [.ref x0, .int x1, .int x2, .int x3, .int x4, .int x5, .int x6, .int v2, .int v3, .int v4, .retAddr 0]) rfl ?_
      refine z_aload_n (x := x0) rfl dX12_apart_127 ?_
      obtain ⟨a1, h1, h⟩ := zbind h
      refine z_gN hC fs_X12_39 h1 dX12_apart_128 ?_
      refine z_bipush 25 (by decide) dX12_apart_131 ?_
      refine z_iload (x := x5) rfl dX12_apart_133 ?_
      refine z_imul dX12_apart_135 ?_
      refine z_iconst 5 (by decide) dX12_apart_136 ?_
      refine z_aload_n (x := x0) rfl dX12_apart_137 ?_
      refine z_iload_n (x := x1) rfl dX12_apart_138 ?_
      refine z_iload (x := v2) rfl dX12_apart_139 ?_
      refine z_iconst 0 (by decide) dX12_apart_141 ?_
      refine z_iload (x := x4) rfl dX12_apart_142 ?_
      obtain ⟨_, hb, h⟩ := zbind h
      obtain ⟨fs, hb⟩ := zob_some hb
      obtain ⟨q1, h2, h⟩ := zbind h
      refine z_callV (av := [.int x1, .int v2, .int 0, .int x4]) (rest := [.int 5, .int (25 * x5), .ref a1]) hC zcl_12 hb (s_X12_go hC h2) lk_X12_143 im_X12_go se_X12_go cd_X12_go ⟨by decide, by decide, (Nat.le_of_ble_eq_true rfl)⟩ dX12_apart_144 ?_
      clear hb fs
      refine zeqS (stk2 := [.int q1.1, .int 5, .int (25 * x5), .ref a1]) rfl ?_
      refine z_imul dX12_apart_147 ?_
      refine z_iadd dX12_apart_148 ?_
      refine z_aload_n (x := x0) rfl dX12_apart_149 ?_
      refine z_iload_n (x := x1) rfl dX12_apart_150 ?_
      refine z_iload (x := v3) rfl dX12_apart_151 ?_
      refine z_iconst 0 (by decide) dX12_apart_153 ?_
      refine z_iload (x := x4) rfl dX12_apart_154 ?_
      obtain ⟨_, hb, h⟩ := zbind h
      obtain ⟨fs, hb⟩ := zob_some hb
      obtain ⟨q2, h3, h⟩ := zbind h
      refine z_callV (av := [.int x1, .int v3, .int 0, .int x4]) (rest := [.int ((25 * x5) + (5 * q1.1)), .ref a1]) hC zcl_12 hb (s_X12_go hC h3) lk_X12_143 im_X12_go se_X12_go cd_X12_go ⟨by decide, by decide, (Nat.le_of_ble_eq_true rfl)⟩ dX12_apart_156 ?_
      clear hb fs
      refine zeqS (stk2 := [.int q2.1, .int ((25 * x5) + (5 * q1.1)), .ref a1]) rfl ?_
      refine z_iadd dX12_apart_159 ?_
      obtain ⟨v5, h4, h⟩ := zbind h
      refine z_rZ h4 dX12_apart_160 ?_
      refine z_if_ne (tgt := 201) dX12_apart_161 (by decide) (fun c2 => ?_) (fun c2 => ?_)
      · have h := zife h c2
        refine zweak [true, true, true, true, true, true, true, false, false, true, false] ?_
        exact s_X12_apart_b201 hC hk59 hk68 ih _ _ _ _ _ _ _ _ _ _ h
      · have h := zift h c2
        refine z_aload_n (x := x0) rfl dX12_apart_164 ?_
        obtain ⟨a2, h5, h⟩ := zbind h
        refine z_gN hC fs_X12_39 h5 dX12_apart_165 ?_
        refine z_bipush 25 (by decide) dX12_apart_168 ?_
        refine z_iload (x := x5) rfl dX12_apart_170 ?_
        refine z_imul dX12_apart_172 ?_
        refine z_iconst 5 (by decide) dX12_apart_173 ?_
        refine z_aload_n (x := x0) rfl dX12_apart_174 ?_
        refine z_iload_n (x := x1) rfl dX12_apart_175 ?_
        refine z_iload (x := v2) rfl dX12_apart_176 ?_
        refine z_iconst 1 (by decide) dX12_apart_178 ?_
        refine z_iload (x := x4) rfl dX12_apart_179 ?_
        obtain ⟨_, hb, h⟩ := zbind h
        obtain ⟨fs, hb⟩ := zob_some hb
        obtain ⟨q3, h6, h⟩ := zbind h
        refine z_callV (av := [.int x1, .int v2, .int 1, .int x4]) (rest := [.int 5, .int (25 * x5), .ref a2]) hC zcl_12 hb (s_X12_go hC h6) lk_X12_143 im_X12_go se_X12_go cd_X12_go ⟨by decide, by decide, (Nat.le_of_ble_eq_true rfl)⟩ dX12_apart_181 ?_
        clear hb fs
        refine zeqS (stk2 := [.int q3.1, .int 5, .int (25 * x5), .ref a2]) rfl ?_
        refine z_imul dX12_apart_184 ?_
        refine z_iadd dX12_apart_185 ?_
        refine z_aload_n (x := x0) rfl dX12_apart_186 ?_
        refine z_iload_n (x := x1) rfl dX12_apart_187 ?_
        refine z_iload (x := v3) rfl dX12_apart_188 ?_
        refine z_iconst 1 (by decide) dX12_apart_190 ?_
        refine z_iload (x := x4) rfl dX12_apart_191 ?_
        obtain ⟨_, hb, h⟩ := zbind h
        obtain ⟨fs, hb⟩ := zob_some hb
        obtain ⟨q4, h7, h⟩ := zbind h
        refine z_callV (av := [.int x1, .int v3, .int 1, .int x4]) (rest := [.int ((25 * x5) + (5 * q3.1)), .ref a2]) hC zcl_12 hb (s_X12_go hC h7) lk_X12_143 im_X12_go se_X12_go cd_X12_go ⟨by decide, by decide, (Nat.le_of_ble_eq_true rfl)⟩ dX12_apart_193 ?_
        clear hb fs
        refine zeqS (stk2 := [.int q4.1, .int ((25 * x5) + (5 * q3.1)), .ref a2]) rfl ?_
        refine z_iadd dX12_apart_196 ?_
        obtain ⟨v6, h8, h⟩ := zbind h
        refine z_rZ h8 dX12_apart_197 ?_
        refine z_if_eq (tgt := 205) dX12_apart_198 (by decide) (fun c3 => ?_) (fun c3 => ?_)
        · have h := zift h c3
          refine z_iconst 0 (by decide) dX12_apart_205 ?_
          refine zweak [true, true, true, true, true, true, true, false, false, true, false] ?_
          exact s_X12_apart_b206 hC hk59 hk68 ih _ _ _ _ _ _ _ _ _ _ _ h
        · have h := zife h c3
          refine zweak [true, true, true, true, true, true, true, false, false, true, false] ?_
          exact s_X12_apart_b201 hC hk59 hk68 ih _ _ _ _ _ _ _ _ _ _ h
def f_X12_apart_b87 (k59 : Nat → Int32 → Int32 → Int32 → zMe → Option (Int32 × zMe)) (k68 : Nat → Int32 → Int32 → Int32 → Int32 → zMe → Option (Int32 × zMe)) (x0 : Nat) (x1 : Int32) (x2 : Int32) (x3 : Int32) (x4 : Int32) (y0 : Int32) (M : zMe) : Option (Int32 × zMe) :=
  f_X12_apart_b92 k59 k68 zfu x0 x1 x2 x3 x4 y0 0 M
set_option maxHeartbeats 4000000 in
set_option maxRecDepth 100000 in
theorem s_X12_apart_b87 {g : zG} (hC : zC g) {k59 : Nat → Int32 → Int32 → Int32 → zMe → Option (Int32 × zMe)} {k68 : Nat → Int32 → Int32 → Int32 → Int32 → zMe → Option (Int32 × zMe)} (hk59 : ∀ (x0 : Nat) (x1 : Int32) (x2 : Int32) (x3 : Int32) (M : zMe) (q : (Int32 × zMe)), k59 x0 x1 x2 x3 M = some q → zW g mX12_apart 59 [.ref x0, .int x1, .int x2, .int x3, .retAddr 0, .retAddr 0, .retAddr 0, .retAddr 0, .retAddr 0, .retAddr 0, .retAddr 0] [] M (some (.int q.1)) q.2) (hk68 : ∀ (x0 : Nat) (x1 : Int32) (x2 : Int32) (x3 : Int32) (x4 : Int32) (M : zMe) (q : (Int32 × zMe)), k68 x0 x1 x2 x3 x4 M = some q → zW g mX12_apart 68 [.ref x0, .int x1, .int x2, .int x3, .int x4, .retAddr 0, .retAddr 0, .retAddr 0, .retAddr 0, .retAddr 0, .retAddr 0] [] M (some (.int q.1)) q.2) (x0 : Nat) (x1 : Int32) (x2 : Int32) (x3 : Int32) (x4 : Int32) (y0 : Int32) (M : zMe) (q : (Int32 × zMe)) (h : f_X12_apart_b87 k59 k68 x0 x1 x2 x3 x4 y0 M = some q) : zW g mX12_apart 87 [.ref x0, .int x1, .int x2, .int x3, .int x4, .retAddr 0, .retAddr 0, .retAddr 0, .retAddr 0, .retAddr 0, .retAddr 0] [.int y0] M (some (.int q.1)) q.2 := by
  unfold f_X12_apart_b87 at h
  refine z_istore dX12_apart_87 (by decide) ?_
  refine zeqL (L2 := [.ref x0, .int x1, .int x2, .int x3, .int x4, .int y0, .retAddr 0, .retAddr 0, .retAddr 0, .retAddr 0, .retAddr 0]) rfl ?_
  refine z_iconst 0 (by decide) dX12_apart_89 ?_
  refine z_istore dX12_apart_90 (by decide) ?_
  refine zeqL (L2 := [.ref x0, .int x1, .int x2, .int x3, .int x4, .int y0, .int 0, .retAddr 0, .retAddr 0, .retAddr 0, .retAddr 0]) rfl ?_
  exact s_X12_apart_b92 hC hk59 hk68 _ _ _ _ _ _ _ _ _ _ h
def f_X12_apart_b68 (k59 : Nat → Int32 → Int32 → Int32 → zMe → Option (Int32 × zMe)) : Nat → Nat → Int32 → Int32 → Int32 → Int32 → zMe → Option (Int32 × zMe)
  | 0, _, _, _, _, _, _ => none
  | n + 1, x0, x1, x2, x3, x4, M =>
    if x4 < 0 then (
      k59 x0 x1 x2 x3 M)
    else (
      if x4 = 4 then (
        f_X12_apart_b87 k59 (f_X12_apart_b68 k59 n) x0 x1 x2 x3 x4 3 M)
      else (
        f_X12_apart_b87 k59 (f_X12_apart_b68 k59 n) x0 x1 x2 x3 x4 (x4 + 1) M))
set_option maxHeartbeats 4000000 in
set_option maxRecDepth 100000 in
theorem s_X12_apart_b68 {g : zG} (hC : zC g) {k59 : Nat → Int32 → Int32 → Int32 → zMe → Option (Int32 × zMe)} (hk59 : ∀ (x0 : Nat) (x1 : Int32) (x2 : Int32) (x3 : Int32) (M : zMe) (q : (Int32 × zMe)), k59 x0 x1 x2 x3 M = some q → zW g mX12_apart 59 [.ref x0, .int x1, .int x2, .int x3, .retAddr 0, .retAddr 0, .retAddr 0, .retAddr 0, .retAddr 0, .retAddr 0, .retAddr 0] [] M (some (.int q.1)) q.2) : ∀ (n : Nat) (x0 : Nat) (x1 : Int32) (x2 : Int32) (x3 : Int32) (x4 : Int32) (M : zMe) (q : (Int32 × zMe)), f_X12_apart_b68 k59 n x0 x1 x2 x3 x4 M = some q → zW g mX12_apart 68 [.ref x0, .int x1, .int x2, .int x3, .int x4, .retAddr 0, .retAddr 0, .retAddr 0, .retAddr 0, .retAddr 0, .retAddr 0] [] M (some (.int q.1)) q.2 := by
  intro n
  induction n with
  | zero => intro x0 x1 x2 x3 x4 M q h; cases h
  | succ n ih =>
    intro x0 x1 x2 x3 x4 M q h
    rw [f_X12_apart_b68] at h
    refine z_iload (x := x4) rfl dX12_apart_68 ?_
    refine z_if_lt (tgt := 272) dX12_apart_70 (by decide) (fun c1 => ?_) (fun c1 => ?_)
    · have h := zift h c1
      refine z_goto (tgt := 59) dX12_apart_272 (by decide) ?_
      refine zweak [true, true, true, true, false, false, false, false, false, false, false] ?_
      exact hk59 _ _ _ _ _ _ h
    · have h := zife h c1
      refine z_iload (x := x4) rfl dX12_apart_73 ?_
      refine z_iconst 4 (by decide) dX12_apart_75 ?_
      refine z_icmp_ne (tgt := 83) dX12_apart_76 (by decide) (fun c2 => ?_) (fun c2 => ?_)
      · have h := zife h c2
        refine z_iload (x := x4) rfl dX12_apart_83 ?_
        refine z_iconst 1 (by decide) dX12_apart_85 ?_
        refine z_iadd dX12_apart_86 ?_
        exact s_X12_apart_b87 hC hk59 ih _ _ _ _ _ _ _ _ h
      · have h := zift h c2
        refine z_iconst 3 (by decide) dX12_apart_79 ?_
        refine z_goto (tgt := 87) dX12_apart_80 (by decide) ?_
        exact s_X12_apart_b87 hC hk59 ih _ _ _ _ _ _ _ _ h
def f_X12_apart_b59  : Nat → Nat → Int32 → Int32 → Int32 → zMe → Option (Int32 × zMe)
  | 0, _, _, _, _, _ => none
  | n + 1, x0, x1, x2, x3, M =>
    if x3 = 0 then (
      f_X12_apart_b278 zfu x0 x2 0 M)
    else (
      f_X12_apart_b68 (f_X12_apart_b59 n) zfu x0 x1 x2 0 4 M)
set_option maxHeartbeats 4000000 in
set_option maxRecDepth 100000 in
theorem s_X12_apart_b59 {g : zG} (hC : zC g)  : ∀ (n : Nat) (x0 : Nat) (x1 : Int32) (x2 : Int32) (x3 : Int32) (M : zMe) (q : (Int32 × zMe)), f_X12_apart_b59  n x0 x1 x2 x3 M = some q → zW g mX12_apart 59 [.ref x0, .int x1, .int x2, .int x3, .retAddr 0, .retAddr 0, .retAddr 0, .retAddr 0, .retAddr 0, .retAddr 0, .retAddr 0] [] M (some (.int q.1)) q.2 := by
  intro n
  induction n with
  | zero => intro x0 x1 x2 x3 M q h; cases h
  | succ n ih =>
    intro x0 x1 x2 x3 M q h
    rw [f_X12_apart_b59] at h
    refine z_iload_n (x := x3) rfl dX12_apart_59 ?_
    refine z_if_eq (tgt := 275) dX12_apart_60 (by decide) (fun c1 => ?_) (fun c1 => ?_)
    · have h := zift h c1
      refine z_iconst 0 (by decide) dX12_apart_275 ?_
      refine z_istore dX12_apart_276 (by decide) ?_
      refine zeqL (L2 := [.ref x0, .int x1, .int x2, .int x3, .int 0, .retAddr 0, .retAddr 0, .retAddr 0, .retAddr 0, .retAddr 0, .retAddr 0]) rfl ?_
      refine zweak [true, false, true, false, true, false, false, false, false, false, false] ?_
      exact s_X12_apart_b278 hC _ _ _ _ _ _ h
    · have h := zife h c1
      refine z_iconst 0 (by decide) dX12_apart_63 ?_
      refine z_istore_n dX12_apart_64 (by decide) ?_
      refine zeqL (L2 := [.ref x0, .int x1, .int x2, .int 0, .retAddr 0, .retAddr 0, .retAddr 0, .retAddr 0, .retAddr 0, .retAddr 0, .retAddr 0]) rfl ?_
      refine z_iconst 4 (by decide) dX12_apart_65 ?_
      refine z_istore dX12_apart_66 (by decide) ?_
      refine zeqL (L2 := [.ref x0, .int x1, .int x2, .int 0, .int 4, .retAddr 0, .retAddr 0, .retAddr 0, .retAddr 0, .retAddr 0, .retAddr 0]) rfl ?_
      exact s_X12_apart_b68 hC ih _ _ _ _ _ _ _ _ h
def f_X12_apart_b50 (k22 : Nat → Int32 → Int32 → Int32 → zMe → Option (Int32 × zMe)) (x0 : Nat) (x1 : Int32) (x2 : Int32) (x3 : Int32) (y0 : Int32) (y1 : Int32) (y2 : Nat) (M : zMe) : Option (Int32 × zMe) :=
  (zwZ M y2 y1 y0).bind fun M1 =>
  zlet (x3 + 1) fun v1 =>
  k22 x0 x1 x2 v1 M1
set_option maxHeartbeats 4000000 in
set_option maxRecDepth 100000 in
theorem s_X12_apart_b50 {g : zG} (hC : zC g) {k22 : Nat → Int32 → Int32 → Int32 → zMe → Option (Int32 × zMe)} (hk22 : ∀ (x0 : Nat) (x1 : Int32) (x2 : Int32) (x3 : Int32) (M : zMe) (q : (Int32 × zMe)), k22 x0 x1 x2 x3 M = some q → zW g mX12_apart 22 [.ref x0, .int x1, .int x2, .int x3, .retAddr 0, .retAddr 0, .retAddr 0, .retAddr 0, .retAddr 0, .retAddr 0, .retAddr 0] [] M (some (.int q.1)) q.2) (x0 : Nat) (x1 : Int32) (x2 : Int32) (x3 : Int32) (y0 : Int32) (y1 : Int32) (y2 : Nat) (M : zMe) (q : (Int32 × zMe)) (h : f_X12_apart_b50 k22 x0 x1 x2 x3 y0 y1 y2 M = some q) : zW g mX12_apart 50 [.ref x0, .int x1, .int x2, .int x3, .retAddr 0, .retAddr 0, .retAddr 0, .retAddr 0, .retAddr 0, .retAddr 0, .retAddr 0] [.int y0, .int y1, .ref y2] M (some (.int q.1)) q.2 := by
  unfold f_X12_apart_b50 at h
  obtain ⟨M1, h1, h⟩ := zbind h
  refine z_wZ h1 dX12_apart_50 ?_
  obtain ⟨v1, hv⟩ : ∃ z : Int32, z = x3 + 1 := ⟨_, rfl⟩
  have h := zlet_use h hv
  refine z_iinc (v := v1) dX12_apart_51 (x := x3) rfl (by rw [hv]; rfl) ?_
  clear hv
  refine zeqL (L2 := [.ref x0, .int x1, .int x2, .int v1, .retAddr 0, .retAddr 0, .retAddr 0, .retAddr 0, .retAddr 0, .retAddr 0, .retAddr 0]) rfl ?_
  refine z_goto (tgt := 22) dX12_apart_54 (by decide) ?_
  exact hk22 _ _ _ _ _ _ h
def f_X12_apart_b22  : Nat → Nat → Int32 → Int32 → Int32 → zMe → Option (Int32 × zMe)
  | 0, _, _, _, _, _ => none
  | n + 1, x0, x1, x2, x3, M =>
    if 125 ≤ x3 then (
      f_X12_apart_b59 zfu x0 x1 x2 1 M)
    else (
      (zgN M x0 [12] 18).bind fun a1 =>
      zlet (x3 - x3 / 25 * 25) fun v1 =>
      zlet (x3 - x3 / 5 * 5) fun v2 =>
      if (v1 / 5) = v2 then (
        f_X12_apart_b50 (f_X12_apart_b22 n) x0 x1 x2 x3 1 x3 a1 M)
      else (
        f_X12_apart_b50 (f_X12_apart_b22 n) x0 x1 x2 x3 0 x3 a1 M))
set_option maxHeartbeats 4000000 in
set_option maxRecDepth 100000 in
theorem s_X12_apart_b22 {g : zG} (hC : zC g)  : ∀ (n : Nat) (x0 : Nat) (x1 : Int32) (x2 : Int32) (x3 : Int32) (M : zMe) (q : (Int32 × zMe)), f_X12_apart_b22  n x0 x1 x2 x3 M = some q → zW g mX12_apart 22 [.ref x0, .int x1, .int x2, .int x3, .retAddr 0, .retAddr 0, .retAddr 0, .retAddr 0, .retAddr 0, .retAddr 0, .retAddr 0] [] M (some (.int q.1)) q.2 := by
  intro n
  induction n with
  | zero => intro x0 x1 x2 x3 M q h; cases h
  | succ n ih =>
    intro x0 x1 x2 x3 M q h
    rw [f_X12_apart_b22] at h
    refine z_iload_n (x := x3) rfl dX12_apart_22 ?_
    refine z_bipush 125 (by decide) dX12_apart_23 ?_
    refine z_icmp_ge (tgt := 57) dX12_apart_25 (by decide) (fun c1 => ?_) (fun c1 => ?_)
    · have h := zift h c1
      refine z_iconst 1 (by decide) dX12_apart_57 ?_
      refine z_istore_n dX12_apart_58 (by decide) ?_
      refine zeqL (L2 := [.ref x0, .int x1, .int x2, .int 1, .retAddr 0, .retAddr 0, .retAddr 0, .retAddr 0, .retAddr 0, .retAddr 0, .retAddr 0]) rfl ?_
      exact s_X12_apart_b59 hC _ _ _ _ _ _ _ h
    · have h := zife h c1
      refine z_aload_n (x := x0) rfl dX12_apart_28 ?_
      obtain ⟨a1, h1, h⟩ := zbind h
      refine z_gN hC fs_X12_39 h1 dX12_apart_29 ?_
      refine z_iload_n (x := x3) rfl dX12_apart_32 ?_
      refine z_iload_n (x := x3) rfl dX12_apart_33 ?_
      refine z_bipush 25 (by decide) dX12_apart_34 ?_
      refine z_irem (by decide) dX12_apart_36 ?_
      refine z_nameI (fun v1 hv => ?_)
      have h := zlet_use h hv
      clear hv
      refine z_iconst 5 (by decide) dX12_apart_37 ?_
      refine z_idiv (by decide) dX12_apart_38 ?_
      refine z_iload_n (x := x3) rfl dX12_apart_39 ?_
      refine z_iconst 5 (by decide) dX12_apart_40 ?_
      refine z_irem (by decide) dX12_apart_41 ?_
      refine z_nameI (fun v2 hv => ?_)
      have h := zlet_use h hv
      clear hv
      refine z_icmp_ne (tgt := 49) dX12_apart_42 (by decide) (fun c2 => ?_) (fun c2 => ?_)
      · have h := zife h c2
        refine z_iconst 0 (by decide) dX12_apart_49 ?_
        exact s_X12_apart_b50 hC ih _ _ _ _ _ _ _ _ _ h
      · have h := zift h c2
        refine z_iconst 1 (by decide) dX12_apart_45 ?_
        refine z_goto (tgt := 50) dX12_apart_46 (by decide) ?_
        exact s_X12_apart_b50 hC ih _ _ _ _ _ _ _ _ _ h
def f_X12_apart (x0 : Nat) (x1 : Int32) (M : zMe) : Option (Int32 × zMe) :=
  (zob M x0 12).bind fun _ =>
  (f_X12_isDog x0 x1 M).bind fun q1 =>
  if q1.1 = 0 then (
    (zob q1.2 x0 12).bind fun _ =>
    (f_X12_bad x0 q1.2).bind fun q2 =>
    some (q2.1, q2.2))
  else (
    (zgN q1.2 x0 [12] 0).bind fun a1 =>
    (zrI q1.2 a1 0).bind fun v1 =>
    f_X12_apart_b22 zfu x0 x1 v1 0 q1.2)
set_option maxHeartbeats 4000000 in
set_option maxRecDepth 100000 in
theorem s_X12_apart {g : zG} (hC : zC g) {x0 : Nat} {x1 : Int32} {M : zMe} {q : (Int32 × zMe)} (h : f_X12_apart x0 x1 M = some q) : zMet g yX12_apart mX12_apart [.ref x0, .int x1] M (some (.int q.1)) q.2 := by
  refine z_entry (by decide +kernel) rfl rfl (Nat.le_of_ble_eq_true rfl) ?_
  refine zeqL (L2 := [.ref x0, .int x1, .retAddr 0, .retAddr 0, .retAddr 0, .retAddr 0, .retAddr 0, .retAddr 0, .retAddr 0, .retAddr 0, .retAddr 0]) rfl ?_
  unfold f_X12_apart at h
  refine z_aload_n (x := x0) rfl dX12_apart_0 ?_
  refine z_iload_n (x := x1) rfl dX12_apart_1 ?_
  obtain ⟨_, hb, h⟩ := zbind h
  obtain ⟨fs, hb⟩ := zob_some hb
  obtain ⟨q1, h1, h⟩ := zbind h
  refine z_callV (av := [.int x1]) (rest := []) hC zcl_12 hb (s_X12_isDog hC h1) lk_X12_140 im_X12_isDog se_X12_isDog cd_X12_isDog ⟨by decide, by decide, (Nat.le_of_ble_eq_true rfl)⟩ dX12_apart_2 ?_
  clear hb fs
  refine zeqS (stk2 := [.int q1.1]) rfl ?_
  refine z_if_ne (tgt := 13) dX12_apart_5 (by decide) (fun c1 => ?_) (fun c1 => ?_)
  · have h := zife h c1
    refine z_aload_n (x := x0) rfl dX12_apart_13 ?_
    obtain ⟨a1, h3, h⟩ := zbind h
    refine z_gN hC fs_X12_7 h3 dX12_apart_14 ?_
    refine z_iconst 0 (by decide) dX12_apart_17 ?_
    obtain ⟨v1, h4, h⟩ := zbind h
    refine z_rI h4 dX12_apart_18 ?_
    refine z_istore_n dX12_apart_19 (by decide) ?_
    refine zeqL (L2 := [.ref x0, .int x1, .int v1, .retAddr 0, .retAddr 0, .retAddr 0, .retAddr 0, .retAddr 0, .retAddr 0, .retAddr 0, .retAddr 0]) rfl ?_
    refine z_iconst 0 (by decide) dX12_apart_20 ?_
    refine z_istore_n dX12_apart_21 (by decide) ?_
    refine zeqL (L2 := [.ref x0, .int x1, .int v1, .int 0, .retAddr 0, .retAddr 0, .retAddr 0, .retAddr 0, .retAddr 0, .retAddr 0, .retAddr 0]) rfl ?_
    exact s_X12_apart_b22 hC _ _ _ _ _ _ _ h
  · have h := zift h c1
    refine z_aload_n (x := x0) rfl dX12_apart_8 ?_
    obtain ⟨_, hb, h⟩ := zbind h
    obtain ⟨fs, hb⟩ := zob_some hb
    obtain ⟨q2, h2, h⟩ := zbind h
    refine z_callV (av := []) (rest := []) hC zcl_12 hb (s_X12_bad hC h2) lk_X12_61 im_X12_bad se_X12_bad cd_X12_bad ⟨by decide, by decide, (Nat.le_of_ble_eq_true rfl)⟩ dX12_apart_9 ?_
    clear hb fs
    refine zeqS (stk2 := [.int q2.1]) rfl ?_
    obtain rfl := Option.some.inj h
    exact z_iret ⟨.int, rfl, rfl⟩ dX12_apart_12
