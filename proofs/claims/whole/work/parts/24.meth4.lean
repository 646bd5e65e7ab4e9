def f_X12_takesBy_b147  (y0 : Int32) (M : zMe) : Option (Int32 × zMe) :=
  some (y0, M)
set_option maxHeartbeats 4000000 in
set_option maxRecDepth 100000 in
theorem s_X12_takesBy_b147 {g : zG} (hC : zC g)  (y0 : Int32) (M : zMe) (q : (Int32 × zMe)) (h : f_X12_takesBy_b147  y0 M = some q) : zW g mX12_takesBy 147 [.retAddr 0, .retAddr 0, .retAddr 0, .retAddr 0, .retAddr 0, .retAddr 0, .retAddr 0, .retAddr 0, .retAddr 0] [.int y0] M (some (.int q.1)) q.2 := by
  unfold f_X12_takesBy_b147 at h
  obtain rfl := Option.some.inj h
  exact z_iret ⟨.int, rfl, rfl⟩ dX12_takesBy_147
def f_X12_takesBy_b129  (y0 : Int32) (M : zMe) : Option (Int32 × zMe) :=
  if y0 = 99 then (
    f_X12_takesBy_b147 99 M)
  else (
    f_X12_takesBy_b147 (y0 + 1) M)
set_option maxHeartbeats 4000000 in
set_option maxRecDepth 100000 in
theorem s_X12_takesBy_b129 {g : zG} (hC : zC g)  (y0 : Int32) (M : zMe) (q : (Int32 × zMe)) (h : f_X12_takesBy_b129  y0 M = some q) : zW g mX12_takesBy 129 [.retAddr 0, .retAddr 0, .retAddr 0, .retAddr 0, .retAddr 0, .retAddr 0, .retAddr 0, .retAddr 0, .retAddr 0] [.int y0] M (some (.int q.1)) q.2 := by
  unfold f_X12_takesBy_b129 at h
  refine z_istore dX12_takesBy_129 (by decide) ?_
  refine zeqL (L2 := [.retAddr 0, .retAddr 0, .retAddr 0, .retAddr 0, .retAddr 0, .retAddr 0, .retAddr 0, .retAddr 0, .int y0]) rfl ?_
  refine z_iload (x := y0) rfl dX12_takesBy_131 ?_
  refine z_bipush 99 (by decide) dX12_takesBy_133 ?_
  refine z_icmp_ne (tgt := 143) dX12_takesBy_135 (by decide) (fun c1 => ?_) (fun c1 => ?_)
  · have h := zife h c1
    refine z_iload (x := y0) rfl dX12_takesBy_143 ?_
    refine z_iconst 1 (by decide) dX12_takesBy_145 ?_
    refine z_iadd dX12_takesBy_146 ?_
    refine zweak [false, false, false, false, false, false, false, false, false] ?_
    exact s_X12_takesBy_b147 hC _ _ _ h
  · have h := zift h c1
    refine z_bipush 99 (by decide) dX12_takesBy_138 ?_
    refine z_goto (tgt := 147) dX12_takesBy_140 (by decide) ?_
    refine zweak [false, false, false, false, false, false, false, false, false] ?_
    exact s_X12_takesBy_b147 hC _ _ _ h
def f_X12_takesBy_b59 (k6 : Nat → Int32 → Int32 → Int32 → Int32 → Int32 → Int32 → zMe → Option (Int32 × zMe)) (x0 : Nat) (x1 : Int32) (x2 : Int32) (x3 : Int32) (x4 : Int32) (x5 : Int32) (x6 : Int32) (M : zMe) : Option (Int32 × zMe) :=
  zlet (x6 + 1) fun v1 =>
  k6 x0 x1 x2 x3 x4 x5 v1 M
set_option maxHeartbeats 4000000 in
set_option maxRecDepth 100000 in
theorem s_X12_takesBy_b59 {g : zG} (hC : zC g) {k6 : Nat → Int32 → Int32 → Int32 → Int32 → Int32 → Int32 → zMe → Option (Int32 × zMe)} (hk6 : ∀ (x0 : Nat) (x1 : Int32) (x2 : Int32) (x3 : Int32) (x4 : Int32) (x5 : Int32) (x6 : Int32) (M : zMe) (q : (Int32 × zMe)), k6 x0 x1 x2 x3 x4 x5 x6 M = some q → zW g mX12_takesBy 6 [.ref x0, .int x1, .int x2, .int x3, .int x4, .int x5, .int x6, .retAddr 0, .retAddr 0] [] M (some (.int q.1)) q.2) (x0 : Nat) (x1 : Int32) (x2 : Int32) (x3 : Int32) (x4 : Int32) (x5 : Int32) (x6 : Int32) (M : zMe) (q : (Int32 × zMe)) (h : f_X12_takesBy_b59 k6 x0 x1 x2 x3 x4 x5 x6 M = some q) : zW g mX12_takesBy 59 [.ref x0, .int x1, .int x2, .int x3, .int x4, .int x5, .int x6, .retAddr 0, .retAddr 0] [] M (some (.int q.1)) q.2 := by
  unfold f_X12_takesBy_b59 at h
  obtain ⟨v1, hv⟩ : ∃ z : Int32, z = x6 + 1 := ⟨_, rfl⟩
  have h := zlet_use h hv
  refine z_iinc (v := v1) dX12_takesBy_59 (x := x6) rfl (by rw [hv]; rfl) ?_
  clear hv
  refine zeqL (L2 := [.ref x0, .int x1, .int x2, .int x3, .int x4, .int x5, .int v1, .retAddr 0, .retAddr 0]) rfl ?_
  refine z_goto (tgt := 6) dX12_takesBy_62 (by decide) ?_
  exact hk6 _ _ _ _ _ _ _ _ _ h
def f_X12_takesBy_b6  : Nat → Nat → Int32 → Int32 → Int32 → Int32 → Int32 → Int32 → zMe → Option (Int32 × zMe)
  | 0, _, _, _, _, _, _, _, _ => none
  | n + 1, x0, x1, x2, x3, x4, x5, x6, M =>
    (zgN M x0 [12] 0).bind fun a1 =>
    (zrI M a1 0).bind fun v1 =>
    if v1 ≤ x6 then (
      (zgN M x0 [12] 19).bind fun a2 =>
      (zgN M x0 [12] 0).bind fun a3 =>
      (zrI M a3 3).bind fun v2 =>
      (zrI M a2 ((32 * (x4 + 1)) + (x5 &&& v2))).bind fun v3 =>
      (zgN M x0 [12] 19).bind fun a4 =>
      (zgN M x0 [12] 0).bind fun a5 =>
      (zrI M a5 3).bind fun v4 =>
      (zrI M a4 ((32 * (x4 + 1)) + (x5 &&& (v4 ^^^ (-1))))).bind fun v5 =>
      if v3 ≤ v5 then (
        f_X12_takesBy_b129 v5 M)
      else (
        f_X12_takesBy_b129 v3 M))
    else (
      if ((x2 >>> (x6 &&& 31)) &&& 1) = 1 then (
        (zob M x0 12).bind fun _ =>
        (f_X12_go x0 x1 x6 x3 x4 M).bind fun q1 =>
        zlet ((1 : Int32) <<< (q1.1 &&& 31) : Int32) fun v6 =>
        if (x5 &&& v6) = 0 then (
          zlet (x5 ||| v6 : Int32) fun v7 =>
          f_X12_takesBy_b59 (f_X12_takesBy_b6 n) x0 x1 x2 x3 x4 v7 x6 q1.2)
        else (
          some (99, q1.2)))
      else (
        f_X12_takesBy_b59 (f_X12_takesBy_b6 n) x0 x1 x2 x3 x4 x5 x6 M))
set_option maxHeartbeats 4000000 in
set_option maxRecDepth 100000 in
theorem s_X12_takesBy_b6 {g : zG} (hC : zC g)  : ∀ (n : Nat) (x0 : Nat) (x1 : Int32) (x2 : Int32) (x3 : Int32) (x4 : Int32) (x5 : Int32) (x6 : Int32) (M : zMe) (q : (Int32 × zMe)), f_X12_takesBy_b6  n x0 x1 x2 x3 x4 x5 x6 M = some q → zW g mX12_takesBy 6 [.ref x0, .int x1, .int x2, .int x3, .int x4, .int x5, .int x6, .retAddr 0, .retAddr 0] [] M (some (.int q.1)) q.2 := by
  intro n
  induction n with
  | zero => intro x0 x1 x2 x3 x4 x5 x6 M q h; cases h
  | succ n ih =>
    intro x0 x1 x2 x3 x4 x5 x6 M q h
    rw [f_X12_takesBy_b6] at h
    refine z_iload (x := x6) rfl dX12_takesBy_6 ?_
    refine z_aload_n (x := x0) rfl dX12_takesBy_8 ?_
    obtain ⟨a1, h1, h⟩ := zbind h
    refine z_gN hC fs_X12_7 h1 dX12_takesBy_9 ?_
    refine z_iconst 0 (by decide) dX12_takesBy_12 ?_
    obtain ⟨v1, h2, h⟩ := zbind h
    refine z_rI h2 dX12_takesBy_13 ?_
    refine z_icmp_ge (tgt := 65) dX12_takesBy_14 (by decide) (fun c1 => ?_) (fun c1 => ?_)
    · have h := zift h c1
      refine z_aload_n (x := x0) rfl dX12_takesBy_65 ?_
      obtain ⟨a2, h3, h⟩ := zbind h
      refine z_gN hC fs_X12_42 h3 dX12_takesBy_66 ?_
      refine z_bipush 32 (by decide) dX12_takesBy_69 ?_
      refine z_iload (x := x4) rfl dX12_takesBy_71 ?_
      refine z_iconst 1 (by decide) dX12_takesBy_73 ?_
      refine z_iadd dX12_takesBy_74 ?_
      refine z_imul dX12_takesBy_75 ?_
      refine z_iload (x := x5) rfl dX12_takesBy_76 ?_
      refine z_aload_n (x := x0) rfl dX12_takesBy_78 ?_
      obtain ⟨a3, h4, h⟩ := zbind h
      refine z_gN hC fs_X12_7 h4 dX12_takesBy_79 ?_
      refine z_iconst 3 (by decide) dX12_takesBy_82 ?_
      obtain ⟨v2, h5, h⟩ := zbind h
      refine z_rI h5 dX12_takesBy_83 ?_
      refine z_iand dX12_takesBy_84 ?_
      refine z_iadd dX12_takesBy_85 ?_
      obtain ⟨v3, h6, h⟩ := zbind h
      refine z_rI h6 dX12_takesBy_86 ?_
      refine z_istore dX12_takesBy_87 (by decide) ?_
      refine zeqL (L2 := [.ref x0, .int x1, .int x2, .int x3, .int x4, .int x5, .int v3, .retAddr 0, .retAddr 0]) rfl ?_
      refine z_aload_n (x := x0) rfl dX12_takesBy_89 ?_
      obtain ⟨a4, h7, h⟩ := zbind h
      refine z_gN hC fs_X12_42 h7 dX12_takesBy_90 ?_
      refine z_bipush 32 (by decide) dX12_takesBy_93 ?_
      refine z_iload (x := x4) rfl dX12_takesBy_95 ?_
      refine z_iconst 1 (by decide) dX12_takesBy_97 ?_
      refine z_iadd dX12_takesBy_98 ?_
      refine z_imul dX12_takesBy_99 ?_
      refine z_iload (x := x5) rfl dX12_takesBy_100 ?_
      refine z_aload_n (x := x0) rfl dX12_takesBy_102 ?_
      obtain ⟨a5, h8, h⟩ := zbind h
      refine z_gN hC fs_X12_7 h8 dX12_takesBy_103 ?_
      refine z_iconst 3 (by decide) dX12_takesBy_106 ?_
      obtain ⟨v4, h9, h⟩ := zbind h
      refine z_rI h9 dX12_takesBy_107 ?_
      refine z_iconst (-1) (by decide) dX12_takesBy_108 ?_
      refine z_ixor dX12_takesBy_109 ?_
      refine z_iand dX12_takesBy_110 ?_
      refine z_iadd dX12_takesBy_111 ?_
      obtain ⟨v5, h10, h⟩ := zbind h
      refine z_rI h10 dX12_takesBy_112 ?_
      refine z_istore dX12_takesBy_113 (by decide) ?_
      refine zeqL (L2 := [.ref x0, .int x1, .int x2, .int x3, .int x4, .int x5, .int v3, .int v5, .retAddr 0]) rfl ?_
      refine z_iload (x := v3) rfl dX12_takesBy_115 ?_
      refine z_iload (x := v5) rfl dX12_takesBy_117 ?_
      refine z_icmp_le (tgt := 127) dX12_takesBy_119 (by decide) (fun c2 => ?_) (fun c2 => ?_)
      · have h := zift h c2
        refine z_iload (x := v5) rfl dX12_takesBy_127 ?_
        refine zweak [false, false, false, false, false, false, false, false, false] ?_
        exact s_X12_takesBy_b129 hC _ _ _ h
      · have h := zife h c2
        refine z_iload (x := v3) rfl dX12_takesBy_122 ?_
        refine z_goto (tgt := 129) dX12_takesBy_124 (by decide) ?_
        refine zweak [false, false, false, false, false, false, false, false, false] ?_
        exact s_X12_takesBy_b129 hC _ _ _ h
    · have h := zife h c1
      refine z_iload_n (x := x2) rfl dX12_takesBy_17 ?_
      refine z_iload (x := x6) rfl dX12_takesBy_18 ?_
      refine z_ishr dX12_takesBy_20 ?_
      refine z_iconst 1 (by decide) dX12_takesBy_21 ?_
      refine z_iand dX12_takesBy_22 ?_
      refine z_iconst 1 (by decide) dX12_takesBy_23 ?_
      refine z_icmp_ne (tgt := 59) dX12_takesBy_24 (by decide) (fun c3 => ?_) (fun c3 => ?_)
      · have h := zife h c3
        exact s_X12_takesBy_b59 hC ih _ _ _ _ _ _ _ _ _ h
      · have h := zift h c3
        refine z_iconst 1 (by decide) dX12_takesBy_27 ?_
        refine z_aload_n (x := x0) rfl dX12_takesBy_28 ?_
        refine z_iload_n (x := x1) rfl dX12_takesBy_29 ?_
        refine z_iload (x := x6) rfl dX12_takesBy_30 ?_
        refine z_iload_n (x := x3) rfl dX12_takesBy_32 ?_
        refine z_iload (x := x4) rfl dX12_takesBy_33 ?_
        obtain ⟨_, hb, h⟩ := zbind h
        obtain ⟨fs, hb⟩ := zob_some hb
        obtain ⟨q1, h11, h⟩ := zbind h
        refine z_callV (av := [.int x1, .int x6, .int x3, .int x4]) (rest := [.int 1]) hC zcl_12 hb (s_X12_go hC h11) lk_X12_143 im_X12_go se_X12_go cd_X12_go ⟨by decide, by decide, (Nat.le_of_ble_eq_true rfl)⟩ dX12_takesBy_35 ?_
        clear hb fs
        refine zeqS (stk2 := [.int q1.1, .int 1]) rfl ?_
        refine z_ishl dX12_takesBy_38 ?_
        refine z_nameI (fun v6 hv => ?_)
        have h := zlet_use h hv
        clear hv
        refine z_istore dX12_takesBy_39 (by decide) ?_
        refine zeqL (L2 := [.ref x0, .int x1, .int x2, .int x3, .int x4, .int x5, .int x6, .int v6, .retAddr 0]) rfl ?_
        refine z_iload (x := x5) rfl dX12_takesBy_41 ?_
        refine z_iload (x := v6) rfl dX12_takesBy_43 ?_
        refine z_iand dX12_takesBy_45 ?_
        refine z_if_eq (tgt := 52) dX12_takesBy_46 (by decide) (fun c4 => ?_) (fun c4 => ?_)
        · have h := zift h c4
          refine z_iload (x := x5) rfl dX12_takesBy_52 ?_
          refine z_iload (x := v6) rfl dX12_takesBy_54 ?_
          refine z_ior dX12_takesBy_56 ?_
          refine z_nameI (fun v7 hv => ?_)
          have h := zlet_use h hv
          clear hv
          refine z_istore dX12_takesBy_57 (by decide) ?_
          refine zeqL (L2 := [.ref x0, .int x1, .int x2, .int x3, .int x4, .int v7, .int x6, .int v6, .retAddr 0]) rfl ?_
          refine zweak [true, true, true, true, true, true, true, false, false] ?_
          exact s_X12_takesBy_b59 hC ih _ _ _ _ _ _ _ _ _ h
        · have h := zife h c4
          refine z_bipush 99 (by decide) dX12_takesBy_49 ?_
          obtain rfl := Option.some.inj h
          exact z_iret ⟨.int, rfl, rfl⟩ dX12_takesBy_51
def f_X12_takesBy (x0 : Nat) (x1 : Int32) (x2 : Int32) (x3 : Int32) (x4 : Int32) (M : zMe) : Option (Int32 × zMe) :=
  f_X12_takesBy_b6 zfu x0 x1 x2 x3 x4 0 0 M
set_option maxHeartbeats 4000000 in
set_option maxRecDepth 100000 in
theorem s_X12_takesBy {g : zG} (hC : zC g) {x0 : Nat} {x1 : Int32} {x2 : Int32} {x3 : Int32} {x4 : Int32} {M : zMe} {q : (Int32 × zMe)} (h : f_X12_takesBy x0 x1 x2 x3 x4 M = some q) : zMet g yX12_takesBy mX12_takesBy [.ref x0, .int x1, .int x2, .int x3, .int x4] M (some (.int q.1)) q.2 := by
  refine z_entry (by decide +kernel) rfl rfl (Nat.le_of_ble_eq_true rfl) ?_
  refine zeqL (L2 := [.ref x0, .int x1, .int x2, .int x3, .int x4, .retAddr 0, .retAddr 0, .retAddr 0, .retAddr 0]) rfl ?_
  unfold f_X12_takesBy at h
  refine z_iconst 0 (by decide) dX12_takesBy_0 ?_
  refine z_istore dX12_takesBy_1 (by decide) ?_
  refine zeqL (L2 := [.ref x0, .int x1, .int x2, .int x3, .int x4, .int 0, .retAddr 0, .retAddr 0, .retAddr 0]) rfl ?_
  refine z_iconst 0 (by decide) dX12_takesBy_3 ?_
  refine z_istore dX12_takesBy_4 (by decide) ?_
  refine zeqL (L2 := [.ref x0, .int x1, .int x2, .int x3, .int x4, .int 0, .int 0, .retAddr 0, .retAddr 0]) rfl ?_
  exact s_X12_takesBy_b6 hC _ _ _ _ _ _ _ _ _ _ h
def f_X12_allTakes_b90 (k3 : Nat → Int32 → Int32 → zMe → Option zMe) (k9 : Nat → Int32 → Int32 → Int32 → zMe → Option zMe) (x0 : Nat) (x1 : Int32) (x2 : Int32) (x3 : Int32) (x4 : Int32) (M : zMe) : Option zMe :=
  (zgN M x0 [12] 19).bind fun a1 =>
  (zwI M a1 ((32 * x2) + x3) x4).bind fun M1 =>
  zlet (x3 + 1) fun v1 =>
  k9 x0 x1 x2 v1 M1
set_option maxHeartbeats 4000000 in
set_option maxRecDepth 100000 in
theorem s_X12_allTakes_b90 {g : zG} (hC : zC g) {k3 : Nat → Int32 → Int32 → zMe → Option zMe} {k9 : Nat → Int32 → Int32 → Int32 → zMe → Option zMe} (hk3 : ∀ (x0 : Nat) (x1 : Int32) (x2 : Int32) (M : zMe) (q : zMe), k3 x0 x1 x2 M = some q → zW g mX12_allTakes 3 [.ref x0, .int x1, .int x2, .retAddr 0, .retAddr 0, .retAddr 0, .retAddr 0] [] M none q) (hk9 : ∀ (x0 : Nat) (x1 : Int32) (x2 : Int32) (x3 : Int32) (M : zMe) (q : zMe), k9 x0 x1 x2 x3 M = some q → zW g mX12_allTakes 9 [.ref x0, .int x1, .int x2, .int x3, .retAddr 0, .retAddr 0, .retAddr 0] [] M none q) (x0 : Nat) (x1 : Int32) (x2 : Int32) (x3 : Int32) (x4 : Int32) (M : zMe) (q : zMe) (h : f_X12_allTakes_b90 k3 k9 x0 x1 x2 x3 x4 M = some q) : zW g mX12_allTakes 90 [.ref x0, .int x1, .int x2, .int x3, .int x4, .retAddr 0, .retAddr 0] [] M none q := by
  unfold f_X12_allTakes_b90 at h
  refine z_aload_n (x := x0) rfl dX12_allTakes_90 ?_
  obtain ⟨a1, h1, h⟩ := zbind h
  refine z_gN hC fs_X12_42 h1 dX12_allTakes_91 ?_
  refine z_bipush 32 (by decide) dX12_allTakes_94 ?_
  refine z_iload_n (x := x2) rfl dX12_allTakes_96 ?_
  refine z_imul dX12_allTakes_97 ?_
  refine z_iload_n (x := x3) rfl dX12_allTakes_98 ?_
  refine z_iadd dX12_allTakes_99 ?_
  refine z_iload (x := x4) rfl dX12_allTakes_100 ?_
  obtain ⟨M1, h2, h⟩ := zbind h
  refine z_wI h2 dX12_allTakes_102 ?_
  obtain ⟨v1, hv⟩ : ∃ z : Int32, z = x3 + 1 := ⟨_, rfl⟩
  have h := zlet_use h hv
  refine z_iinc (v := v1) dX12_allTakes_103 (x := x3) rfl (by rw [hv]; rfl) ?_
  clear hv
  refine zeqL (L2 := [.ref x0, .int x1, .int x2, .int v1, .int x4, .retAddr 0, .retAddr 0]) rfl ?_
  refine z_goto (tgt := 9) dX12_allTakes_106 (by decide) ?_
  refine zweak [true, true, true, true, false, false, false] ?_
  exact hk9 _ _ _ _ _ _ h
def f_X12_allTakes_b82 (k3 : Nat → Int32 → Int32 → zMe → Option zMe) (k9 : Nat → Int32 → Int32 → Int32 → zMe → Option zMe) (k40 : Nat → Int32 → Int32 → Int32 → Int32 → Int32 → zMe → Option zMe) (x0 : Nat) (x1 : Int32) (x2 : Int32) (x3 : Int32) (x5 : Int32) (y0 : Int32) (M : zMe) : Option zMe :=
  zlet (x5 + 1) fun v1 =>
  k40 x0 x1 x2 x3 y0 v1 M
set_option maxHeartbeats 4000000 in
set_option maxRecDepth 100000 in
theorem s_X12_allTakes_b82 {g : zG} (hC : zC g) {k3 : Nat → Int32 → Int32 → zMe → Option zMe} {k9 : Nat → Int32 → Int32 → Int32 → zMe → Option zMe} {k40 : Nat → Int32 → Int32 → Int32 → Int32 → Int32 → zMe → Option zMe} (hk3 : ∀ (x0 : Nat) (x1 : Int32) (x2 : Int32) (M : zMe) (q : zMe), k3 x0 x1 x2 M = some q → zW g mX12_allTakes 3 [.ref x0, .int x1, .int x2, .retAddr 0, .retAddr 0, .retAddr 0, .retAddr 0] [] M none q) (hk9 : ∀ (x0 : Nat) (x1 : Int32) (x2 : Int32) (x3 : Int32) (M : zMe) (q : zMe), k9 x0 x1 x2 x3 M = some q → zW g mX12_allTakes 9 [.ref x0, .int x1, .int x2, .int x3, .retAddr 0, .retAddr 0, .retAddr 0] [] M none q) (hk40 : ∀ (x0 : Nat) (x1 : Int32) (x2 : Int32) (x3 : Int32) (x4 : Int32) (x5 : Int32) (M : zMe) (q : zMe), k40 x0 x1 x2 x3 x4 x5 M = some q → zW g mX12_allTakes 40 [.ref x0, .int x1, .int x2, .int x3, .int x4, .int x5, .retAddr 0] [] M none q) (x0 : Nat) (x1 : Int32) (x2 : Int32) (x3 : Int32) (x5 : Int32) (y0 : Int32) (M : zMe) (q : zMe) (h : f_X12_allTakes_b82 k3 k9 k40 x0 x1 x2 x3 x5 y0 M = some q) : zW g mX12_allTakes 82 [.ref x0, .int x1, .int x2, .int x3, .retAddr 0, .int x5, .retAddr 0] [.int y0] M none q := by
  unfold f_X12_allTakes_b82 at h
  refine z_istore dX12_allTakes_82 (by decide) ?_
  refine zeqL (L2 := [.ref x0, .int x1, .int x2, .int x3, .int y0, .int x5, .retAddr 0]) rfl ?_
  obtain ⟨v1, hv⟩ : ∃ z : Int32, z = x5 + 1 := ⟨_, rfl⟩
  have h := zlet_use h hv
  refine z_iinc (v := v1) dX12_allTakes_84 (x := x5) rfl (by rw [hv]; rfl) ?_
  clear hv
  refine zeqL (L2 := [.ref x0, .int x1, .int x2, .int x3, .int y0, .int v1, .retAddr 0]) rfl ?_
  refine z_goto (tgt := 40) dX12_allTakes_87 (by decide) ?_
  exact hk40 _ _ _ _ _ _ _ _ h
def f_X12_allTakes_b40 (k3 : Nat → Int32 → Int32 → zMe → Option zMe) (k9 : Nat → Int32 → Int32 → Int32 → zMe → Option zMe) : Nat → Nat → Int32 → Int32 → Int32 → Int32 → Int32 → zMe → Option zMe
  | 0, _, _, _, _, _, _, _ => none
  | n + 1, x0, x1, x2, x3, x4, x5, M =>
    if 2 ≤ x5 then (
      f_X12_allTakes_b90 k3 k9 x0 x1 x2 x3 x4 M)
    else (
      if x4 ≤ 0 then (
        f_X12_allTakes_b90 k3 k9 x0 x1 x2 x3 x4 M)
      else (
        if 8 ≤ x2 then (
          f_X12_allTakes_b90 k3 k9 x0 x1 x2 x3 x4 M)
        else (
          (zob M x0 12).bind fun _ =>
          (f_X12_takesBy x0 x1 x3 x5 x2 M).bind fun q1 =>
          if x4 ≤ q1.1 then (
            f_X12_allTakes_b82 k3 k9 (f_X12_allTakes_b40 k3 k9 n) x0 x1 x2 x3 x5 x4 q1.2)
          else (
            f_X12_allTakes_b82 k3 k9 (f_X12_allTakes_b40 k3 k9 n) x0 x1 x2 x3 x5 q1.1 q1.2))))
set_option maxHeartbeats 4000000 in
set_option maxRecDepth 100000 in
theorem s_X12_allTakes_b40 {g : zG} (hC : zC g) {k3 : Nat → Int32 → Int32 → zMe → Option zMe} {k9 : Nat → Int32 → Int32 → Int32 → zMe → Option zMe} (hk3 : ∀ (x0 : Nat) (x1 : Int32) (x2 : Int32) (M : zMe) (q : zMe), k3 x0 x1 x2 M = some q → zW g mX12_allTakes 3 [.ref x0, .int x1, .int x2, .retAddr 0, .retAddr 0, .retAddr 0, .retAddr 0] [] M none q) (hk9 : ∀ (x0 : Nat) (x1 : Int32) (x2 : Int32) (x3 : Int32) (M : zMe) (q : zMe), k9 x0 x1 x2 x3 M = some q → zW g mX12_allTakes 9 [.ref x0, .int x1, .int x2, .int x3, .retAddr 0, .retAddr 0, .retAddr 0] [] M none q) : ∀ (n : Nat) (x0 : Nat) (x1 : Int32) (x2 : Int32) (x3 : Int32) (x4 : Int32) (x5 : Int32) (M : zMe) (q : zMe), f_X12_allTakes_b40 k3 k9 n x0 x1 x2 x3 x4 x5 M = some q → zW g mX12_allTakes 40 [.ref x0, .int x1, .int x2, .int x3, .int x4, .int x5, .retAddr 0] [] M none q := by
  intro n
  induction n with
  | zero => intro x0 x1 x2 x3 x4 x5 M q h; cases h
  | succ n ih =>
    intro x0 x1 x2 x3 x4 x5 M q h
    rw [f_X12_allTakes_b40] at h
    refine z_iload (x := x5) rfl dX12_allTakes_40 ?_
    refine z_iconst 2 (by decide) dX12_allTakes_42 ?_
    refine z_icmp_ge (tgt := 90) dX12_allTakes_43 (by decide) (fun c1 => ?_) (fun c1 => ?_)
    · have h := zift h c1
      refine zweak [true, true, true, true, true, false, false] ?_
      exact s_X12_allTakes_b90 hC hk3 hk9 _ _ _ _ _ _ _ h
    · have h := zife h c1
      refine z_iload (x := x4) rfl dX12_allTakes_46 ?_
      refine z_if_le (tgt := 90) dX12_allTakes_48 (by decide) (fun c2 => ?_) (fun c2 => ?_)
      · have h := zift h c2
        refine zweak [true, true, true, true, true, false, false] ?_
        exact s_X12_allTakes_b90 hC hk3 hk9 _ _ _ _ _ _ _ h
      · have h := zife h c2
        refine z_iload_n (x := x2) rfl dX12_allTakes_51 ?_
        refine z_bipush 8 (by decide) dX12_allTakes_52 ?_
        refine z_icmp_ge (tgt := 90) dX12_allTakes_54 (by decide) (fun c3 => ?_) (fun c3 => ?_)
        · have h := zift h c3
          refine zweak [true, true, true, true, true, false, false] ?_
          exact s_X12_allTakes_b90 hC hk3 hk9 _ _ _ _ _ _ _ h
        · have h := zife h c3
          refine z_aload_n (x := x0) rfl dX12_allTakes_57 ?_
          refine z_iload_n (x := x1) rfl dX12_allTakes_58 ?_
          refine z_iload_n (x := x3) rfl dX12_allTakes_59 ?_
          refine z_iload (x := x5) rfl dX12_allTakes_60 ?_
          refine z_iload_n (x := x2) rfl dX12_allTakes_62 ?_
          obtain ⟨_, hb, h⟩ := zbind h
          obtain ⟨fs, hb⟩ := zob_some hb
          obtain ⟨q1, h1, h⟩ := zbind h
          refine z_callV (av := [.int x1, .int x3, .int x5, .int x2]) (rest := []) hC zcl_12 hb (s_X12_takesBy hC h1) lk_X12_196 im_X12_takesBy se_X12_takesBy cd_X12_takesBy ⟨by decide, by decide, (Nat.le_of_ble_eq_true rfl)⟩ dX12_allTakes_63 ?_
          clear hb fs
          refine zeqS (stk2 := [.int q1.1]) rfl ?_
          refine z_istore dX12_allTakes_66 (by decide) ?_
          refine zeqL (L2 := [.ref x0, .int x1, .int x2, .int x3, .int x4, .int x5, .int q1.1]) rfl ?_
          refine z_iload (x := q1.1) rfl dX12_allTakes_68 ?_
          refine z_iload (x := x4) rfl dX12_allTakes_70 ?_
          refine z_icmp_ge (tgt := 80) dX12_allTakes_72 (by decide) (fun c4 => ?_) (fun c4 => ?_)
          · have h := zift h c4
            refine z_iload (x := x4) rfl dX12_allTakes_80 ?_
            refine zweak [true, true, true, true, false, true, false] ?_
            exact s_X12_allTakes_b82 hC hk3 hk9 ih _ _ _ _ _ _ _ _ h
          · have h := zife h c4
            refine z_iload (x := q1.1) rfl dX12_allTakes_75 ?_
            refine z_goto (tgt := 82) dX12_allTakes_77 (by decide) ?_
            refine zweak [true, true, true, true, false, true, false] ?_
            exact s_X12_allTakes_b82 hC hk3 hk9 ih _ _ _ _ _ _ _ _ h
def f_X12_allTakes_b35 (k3 : Nat → Int32 → Int32 → zMe → Option zMe) (k9 : Nat → Int32 → Int32 → Int32 → zMe → Option zMe) (x0 : Nat) (x1 : Int32) (x2 : Int32) (x3 : Int32) (y0 : Int32) (M : zMe) : Option zMe :=
  f_X12_allTakes_b40 k3 k9 zfu x0 x1 x2 x3 y0 0 M
set_option maxHeartbeats 4000000 in
set_option maxRecDepth 100000 in
theorem s_X12_allTakes_b35 {g : zG} (hC : zC g) {k3 : Nat → Int32 → Int32 → zMe → Option zMe} {k9 : Nat → Int32 → Int32 → Int32 → zMe → Option zMe} (hk3 : ∀ (x0 : Nat) (x1 : Int32) (x2 : Int32) (M : zMe) (q : zMe), k3 x0 x1 x2 M = some q → zW g mX12_allTakes 3 [.ref x0, .int x1, .int x2, .retAddr 0, .retAddr 0, .retAddr 0, .retAddr 0] [] M none q) (hk9 : ∀ (x0 : Nat) (x1 : Int32) (x2 : Int32) (x3 : Int32) (M : zMe) (q : zMe), k9 x0 x1 x2 x3 M = some q → zW g mX12_allTakes 9 [.ref x0, .int x1, .int x2, .int x3, .retAddr 0, .retAddr 0, .retAddr 0] [] M none q) (x0 : Nat) (x1 : Int32) (x2 : Int32) (x3 : Int32) (y0 : Int32) (M : zMe) (q : zMe) (h : f_X12_allTakes_b35 k3 k9 x0 x1 x2 x3 y0 M = some q) : zW g mX12_allTakes 35 [.ref x0, .int x1, .int x2, .int x3, .retAddr 0, .retAddr 0, .retAddr 0] [.int y0] M none q := by
  unfold f_X12_allTakes_b35 at h
  refine z_istore dX12_allTakes_35 (by decide) ?_
  refine zeqL (L2 := [.ref x0, .int x1, .int x2, .int x3, .int y0, .retAddr 0, .retAddr 0]) rfl ?_
  refine z_iconst 0 (by decide) dX12_allTakes_37 ?_
  refine z_istore dX12_allTakes_38 (by decide) ?_
  refine zeqL (L2 := [.ref x0, .int x1, .int x2, .int x3, .int y0, .int 0, .retAddr 0]) rfl ?_
  exact s_X12_allTakes_b40 hC hk3 hk9 _ _ _ _ _ _ _ _ _ h
def f_X12_allTakes_b9 (k3 : Nat → Int32 → Int32 → zMe → Option zMe) : Nat → Nat → Int32 → Int32 → Int32 → zMe → Option zMe
  | 0, _, _, _, _, _ => none
  | n + 1, x0, x1, x2, x3, M =>
    (zgN M x0 [12] 0).bind fun a1 =>
    (zrI M a1 0).bind fun v1 =>
    if ((1 : Int32) <<< (v1 &&& 31)) ≤ x3 then (
      zlet (x2 + (-1)) fun v2 =>
      k3 x0 x1 v2 M)
    else (
      (f_X12_bits x3 M).bind fun q1 =>
      if 2 ≤ q1.1 then (
        f_X12_allTakes_b35 k3 (f_X12_allTakes_b9 k3 n) x0 x1 x2 x3 99 q1.2)
      else (
        f_X12_allTakes_b35 k3 (f_X12_allTakes_b9 k3 n) x0 x1 x2 x3 0 q1.2))
set_option maxHeartbeats 4000000 in
set_option maxRecDepth 100000 in
theorem s_X12_allTakes_b9 {g : zG} (hC : zC g) {k3 : Nat → Int32 → Int32 → zMe → Option zMe} (hk3 : ∀ (x0 : Nat) (x1 : Int32) (x2 : Int32) (M : zMe) (q : zMe), k3 x0 x1 x2 M = some q → zW g mX12_allTakes 3 [.ref x0, .int x1, .int x2, .retAddr 0, .retAddr 0, .retAddr 0, .retAddr 0] [] M none q) : ∀ (n : Nat) (x0 : Nat) (x1 : Int32) (x2 : Int32) (x3 : Int32) (M : zMe) (q : zMe), f_X12_allTakes_b9 k3 n x0 x1 x2 x3 M = some q → zW g mX12_allTakes 9 [.ref x0, .int x1, .int x2, .int x3, .retAddr 0, .retAddr 0, .retAddr 0] [] M none q := by
  intro n
  induction n with
  | zero => intro x0 x1 x2 x3 M q h; cases h
  | succ n ih =>
    intro x0 x1 x2 x3 M q h
    rw [f_X12_allTakes_b9] at h
    refine z_iload_n (x := x3) rfl dX12_allTakes_9 ?_
    refine z_iconst 1 (by decide) dX12_allTakes_10 ?_
    refine z_aload_n (x := x0) rfl dX12_allTakes_11 ?_
    obtain ⟨a1, h1, h⟩ := zbind h
    refine z_gN hC fs_X12_7 h1 dX12_allTakes_12 ?_
    refine z_iconst 0 (by decide) dX12_allTakes_15 ?_
    obtain ⟨v1, h2, h⟩ := zbind h
    refine z_rI h2 dX12_allTakes_16 ?_
    refine z_ishl dX12_allTakes_17 ?_
    refine z_icmp_ge (tgt := 109) dX12_allTakes_18 (by decide) (fun c1 => ?_) (fun c1 => ?_)
    · have h := zift h c1
      obtain ⟨v2, hv⟩ : ∃ z : Int32, z = x2 + (-1) := ⟨_, rfl⟩
      have h := zlet_use h hv
      refine z_iinc (v := v2) dX12_allTakes_109 (x := x2) rfl (by rw [hv]; rfl) ?_
      clear hv
      refine zeqL (L2 := [.ref x0, .int x1, .int v2, .int x3, .retAddr 0, .retAddr 0, .retAddr 0]) rfl ?_
      refine z_goto (tgt := 3) dX12_allTakes_112 (by decide) ?_
      refine zweak [true, true, true, false, false, false, false] ?_
      exact hk3 _ _ _ _ _ h
    · have h := zife h c1
      refine z_iload_n (x := x3) rfl dX12_allTakes_21 ?_
      obtain ⟨q1, h3, h⟩ := zbind h
      refine z_callS (av := [.int x3]) (rest := []) hC (s_X12_bits hC h3) lk_X12_193 st_X12_bits cd_X12_bits ⟨by decide, by decide, (Nat.le_of_ble_eq_true rfl)⟩ dX12_allTakes_22 ?_
      refine zeqS (stk2 := [.int q1.1]) rfl ?_
      refine z_iconst 2 (by decide) dX12_allTakes_25 ?_
      refine z_icmp_ge (tgt := 33) dX12_allTakes_26 (by decide) (fun c2 => ?_) (fun c2 => ?_)
      · have h := zift h c2
        refine z_bipush 99 (by decide) dX12_allTakes_33 ?_
        exact s_X12_allTakes_b35 hC hk3 ih _ _ _ _ _ _ _ h
      · have h := zife h c2
        refine z_iconst 0 (by decide) dX12_allTakes_29 ?_
        refine z_goto (tgt := 35) dX12_allTakes_30 (by decide) ?_
        exact s_X12_allTakes_b35 hC hk3 ih _ _ _ _ _ _ _ h
def f_X12_allTakes_b3  : Nat → Nat → Int32 → Int32 → zMe → Option zMe
  | 0, _, _, _, _ => none
  | n + 1, x0, x1, x2, M =>
    if x2 < 0 then (
      some M)
    else (
      f_X12_allTakes_b9 (f_X12_allTakes_b3 n) zfu x0 x1 x2 0 M)
set_option maxHeartbeats 4000000 in
set_option maxRecDepth 100000 in
theorem s_X12_allTakes_b3 {g : zG} (hC : zC g)  : ∀ (n : Nat) (x0 : Nat) (x1 : Int32) (x2 : Int32) (M : zMe) (q : zMe), f_X12_allTakes_b3  n x0 x1 x2 M = some q → zW g mX12_allTakes 3 [.ref x0, .int x1, .int x2, .retAddr 0, .retAddr 0, .retAddr 0, .retAddr 0] [] M none q := by
  intro n
  induction n with
  | zero => intro x0 x1 x2 M q h; cases h
  | succ n ih =>
    intro x0 x1 x2 M q h
    rw [f_X12_allTakes_b3] at h
    refine z_iload_n (x := x2) rfl dX12_allTakes_3 ?_
    refine z_if_lt (tgt := 115) dX12_allTakes_4 (by decide) (fun c1 => ?_) (fun c1 => ?_)
    · have h := zift h c1
      obtain rfl := Option.some.inj h
      exact z_ret rfl dX12_allTakes_115
    · have h := zife h c1
      refine z_iconst 0 (by decide) dX12_allTakes_7 ?_
      refine z_istore_n dX12_allTakes_8 (by decide) ?_
      refine zeqL (L2 := [.ref x0, .int x1, .int x2, .int 0, .retAddr 0, .retAddr 0, .retAddr 0]) rfl ?_
      exact s_X12_allTakes_b9 hC ih _ _ _ _ _ _ _ h
def f_X12_allTakes (x0 : Nat) (x1 : Int32) (M : zMe) : Option zMe :=
  f_X12_allTakes_b3 zfu x0 x1 8 M
set_option maxHeartbeats 4000000 in
set_option maxRecDepth 100000 in
theorem s_X12_allTakes {g : zG} (hC : zC g) {x0 : Nat} {x1 : Int32} {M : zMe} {q : zMe} (h : f_X12_allTakes x0 x1 M = some q) : zMet g yX12_allTakes mX12_allTakes [.ref x0, .int x1] M none q := by
  refine z_entry (by decide +kernel) rfl rfl (Nat.le_of_ble_eq_true rfl) ?_
  refine zeqL (L2 := [.ref x0, .int x1, .retAddr 0, .retAddr 0, .retAddr 0, .retAddr 0, .retAddr 0]) rfl ?_
  unfold f_X12_allTakes at h
  refine z_bipush 8 (by decide) dX12_allTakes_0 ?_
  refine z_istore_n dX12_allTakes_2 (by decide) ?_
  refine zeqL (L2 := [.ref x0, .int x1, .int 8, .retAddr 0, .retAddr 0, .retAddr 0, .retAddr 0]) rfl ?_
  exact s_X12_allTakes_b3 hC _ _ _ _ _ _ h
def f_X12_tells_b190  (y0 : Int32) (M : zMe) : Option (Int32 × zMe) :=
  some (y0, M)
set_option maxHeartbeats 4000000 in
set_option maxRecDepth 100000 in
theorem s_X12_tells_b190 {g : zG} (hC : zC g)  (y0 : Int32) (M : zMe) (q : (Int32 × zMe)) (h : f_X12_tells_b190  y0 M = some q) : zW g mX12_tells 190 [.retAddr 0, .retAddr 0, .retAddr 0, .retAddr 0, .retAddr 0, .retAddr 0, .retAddr 0] [.int y0] M (some (.int q.1)) q.2 := by
  unfold f_X12_tells_b190 at h
  obtain rfl := Option.some.inj h
  exact z_iret ⟨.int, rfl, rfl⟩ dX12_tells_190
def f_X12_tells_b136  (x0 : Nat) (x1 : Int32) (y0 : Int32) (M : zMe) : Option (Int32 × zMe) :=
  (f_X12_bits y0 M).bind fun q1 =>
  if 2 ≤ q1.1 then (
    (zgN q1.2 x0 [12] 19).bind fun a1 =>
    (zrI q1.2 a1 y0).bind fun v1 =>
    if v1 = 99 then (
      f_X12_tells_b190 (-5) q1.2)
    else (
      (zob q1.2 x0 12).bind fun _ =>
      (f_X12_takesBy x0 x1 y0 0 0 q1.2).bind fun q2 =>
      (zgN q2.2 x0 [12] 19).bind fun a2 =>
      (zrI q2.2 a2 y0).bind fun v2 =>
      if q2.1 = v2 then (
        f_X12_tells_b190 0 q2.2)
      else (
        f_X12_tells_b190 1 q2.2)))
  else (
    some ((-1), q1.2))
set_option maxHeartbeats 4000000 in
set_option maxRecDepth 100000 in
theorem s_X12_tells_b136 {g : zG} (hC : zC g)  (x0 : Nat) (x1 : Int32) (y0 : Int32) (M : zMe) (q : (Int32 × zMe)) (h : f_X12_tells_b136  x0 x1 y0 M = some q) : zW g mX12_tells 136 [.ref x0, .int x1, .retAddr 0, .retAddr 0, .retAddr 0, .retAddr 0, .retAddr 0] [.int y0] M (some (.int q.1)) q.2 := by
  unfold f_X12_tells_b136 at h
  refine z_istore dX12_tells_136 (by decide) ?_
  refine zeqL (L2 := [.ref x0, .int x1, .retAddr 0, .retAddr 0, .retAddr 0, .retAddr 0, .int y0]) rfl ?_
  refine z_iload (x := y0) rfl dX12_tells_138 ?_
  obtain ⟨q1, h1, h⟩ := zbind h
  refine z_callS (av := [.int y0]) (rest := []) hC (s_X12_bits hC h1) lk_X12_193 st_X12_bits cd_X12_bits ⟨by decide, by decide, (Nat.le_of_ble_eq_true rfl)⟩ dX12_tells_140 ?_
  refine zeqS (stk2 := [.int q1.1]) rfl ?_
  refine z_iconst 2 (by decide) dX12_tells_143 ?_
  refine z_icmp_ge (tgt := 149) dX12_tells_144 (by decide) (fun c1 => ?_) (fun c1 => ?_)
  · have h := zift h c1
    refine z_aload_n (x := x0) rfl dX12_tells_149 ?_
    obtain ⟨a1, h2, h⟩ := zbind h
    refine z_gN hC fs_X12_42 h2 dX12_tells_150 ?_
    refine z_iload (x := y0) rfl dX12_tells_153 ?_
    obtain ⟨v1, h3, h⟩ := zbind h
    refine z_rI h3 dX12_tells_155 ?_
    refine z_bipush 99 (by decide) dX12_tells_156 ?_
    refine z_icmp_ne (tgt := 166) dX12_tells_158 (by decide) (fun c2 => ?_) (fun c2 => ?_)
    · have h := zife h c2
      refine z_aload_n (x := x0) rfl dX12_tells_166 ?_
      refine z_iload_n (x := x1) rfl dX12_tells_167 ?_
      refine z_iload (x := y0) rfl dX12_tells_168 ?_
      refine z_iconst 0 (by decide) dX12_tells_170 ?_
      refine z_iconst 0 (by decide) dX12_tells_171 ?_
      obtain ⟨_, hb, h⟩ := zbind h
      obtain ⟨fs, hb⟩ := zob_some hb
      obtain ⟨q2, h4, h⟩ := zbind h
      refine z_callV (av := [.int x1, .int y0, .int 0, .int 0]) (rest := []) hC zcl_12 hb (s_X12_takesBy hC h4) lk_X12_196 im_X12_takesBy se_X12_takesBy cd_X12_takesBy ⟨by decide, by decide, (Nat.le_of_ble_eq_true rfl)⟩ dX12_tells_172 ?_
      clear hb fs
      refine zeqS (stk2 := [.int q2.1]) rfl ?_
      refine z_aload_n (x := x0) rfl dX12_tells_175 ?_
      obtain ⟨a2, h5, h⟩ := zbind h
      refine z_gN hC fs_X12_42 h5 dX12_tells_176 ?_
      refine z_iload (x := y0) rfl dX12_tells_179 ?_
      obtain ⟨v2, h6, h⟩ := zbind h
      refine z_rI h6 dX12_tells_181 ?_
      refine z_icmp_ne (tgt := 189) dX12_tells_182 (by decide) (fun c3 => ?_) (fun c3 => ?_)
      · have h := zife h c3
        refine z_iconst 1 (by decide) dX12_tells_189 ?_
        refine zweak [false, false, false, false, false, false, false] ?_
        exact s_X12_tells_b190 hC _ _ _ h
      · have h := zift h c3
        refine z_iconst 0 (by decide) dX12_tells_185 ?_
        refine z_goto (tgt := 190) dX12_tells_186 (by decide) ?_
        refine zweak [false, false, false, false, false, false, false] ?_
        exact s_X12_tells_b190 hC _ _ _ h
    · have h := zift h c2
      refine z_bipush (-5) (by decide) dX12_tells_161 ?_
      refine z_goto (tgt := 190) dX12_tells_163 (by decide) ?_
      refine zweak [false, false, false, false, false, false, false] ?_
      exact s_X12_tells_b190 hC _ _ _ h
  · have h := zife h c1
    refine z_iconst (-1) (by decide) dX12_tells_147 ?_
    obtain rfl := Option.some.inj h
    exact z_iret ⟨.int, rfl, rfl⟩ dX12_tells_148
def f_X12_tells_b123  (y0 : Int32) (M : zMe) : Option (Int32 × zMe) :=
  some (y0, M)
set_option maxHeartbeats 4000000 in
set_option maxRecDepth 100000 in
theorem s_X12_tells_b123 {g : zG} (hC : zC g)  (y0 : Int32) (M : zMe) (q : (Int32 × zMe)) (h : f_X12_tells_b123  y0 M = some q) : zW g mX12_tells 123 [.retAddr 0, .retAddr 0, .retAddr 0, .retAddr 0, .retAddr 0, .retAddr 0, .retAddr 0] [.int y0] M (some (.int q.1)) q.2 := by
  unfold f_X12_tells_b123 at h
  obtain rfl := Option.some.inj h
  exact z_iret ⟨.int, rfl, rfl⟩ dX12_tells_123
def f_X12_tells_b108  (y0 : Int32) (M : zMe) : Option (Int32 × zMe) :=
  if y0 = 99 then (
    f_X12_tells_b123 (-1) M)
  else (
    f_X12_tells_b123 y0 M)
set_option maxHeartbeats 4000000 in
set_option maxRecDepth 100000 in
theorem s_X12_tells_b108 {g : zG} (hC : zC g)  (y0 : Int32) (M : zMe) (q : (Int32 × zMe)) (h : f_X12_tells_b108  y0 M = some q) : zW g mX12_tells 108 [.retAddr 0, .retAddr 0, .retAddr 0, .retAddr 0, .retAddr 0, .retAddr 0, .retAddr 0] [.int y0] M (some (.int q.1)) q.2 := by
  unfold f_X12_tells_b108 at h
  refine z_istore dX12_tells_108 (by decide) ?_
  refine zeqL (L2 := [.retAddr 0, .retAddr 0, .retAddr 0, .retAddr 0, .retAddr 0, .retAddr 0, .int y0]) rfl ?_
  refine z_iload (x := y0) rfl dX12_tells_110 ?_
  refine z_bipush 99 (by decide) dX12_tells_112 ?_
  refine z_icmp_ne (tgt := 121) dX12_tells_114 (by decide) (fun c1 => ?_) (fun c1 => ?_)
  · have h := zife h c1
    refine z_iload (x := y0) rfl dX12_tells_121 ?_
    refine zweak [false, false, false, false, false, false, false] ?_
    exact s_X12_tells_b123 hC _ _ _ h
  · have h := zift h c1
    refine z_iconst (-1) (by decide) dX12_tells_117 ?_
    refine z_goto (tgt := 123) dX12_tells_118 (by decide) ?_
    refine zweak [false, false, false, false, false, false, false] ?_
    exact s_X12_tells_b123 hC _ _ _ h
def f_X12_tells_b35  (x0 : Nat) (M : zMe) : Option (Int32 × zMe) :=
  (zob M x0 12).bind fun _ =>
  (f_X12_refuses x0 0 (-10) M).bind fun q1 =>
  some (q1.1, q1.2)
set_option maxHeartbeats 4000000 in
set_option maxRecDepth 100000 in
theorem s_X12_tells_b35 {g : zG} (hC : zC g)  (x0 : Nat) (M : zMe) (q : (Int32 × zMe)) (h : f_X12_tells_b35  x0 M = some q) : zW g mX12_tells 35 [.ref x0, .retAddr 0, .retAddr 0, .retAddr 0, .retAddr 0, .retAddr 0, .retAddr 0] [] M (some (.int q.1)) q.2 := by
  unfold f_X12_tells_b35 at h
  refine z_aload_n (x := x0) rfl dX12_tells_35 ?_
  refine z_iconst 0 (by decide) dX12_tells_36 ?_
  refine z_bipush (-10) (by decide) dX12_tells_37 ?_
  obtain ⟨_, hb, h⟩ := zbind h
  obtain ⟨fs, hb⟩ := zob_some hb
  obtain ⟨q1, h1, h⟩ := zbind h
  refine z_callV (av := [.int 0, .int (-10)]) (rest := []) hC zcl_12 hb (s_X12_refuses hC h1) lk_X12_53 im_X12_refuses se_X12_refuses cd_X12_refuses ⟨by decide, by decide, (Nat.le_of_ble_eq_true rfl)⟩ dX12_tells_39 ?_
  clear hb fs
  refine zeqS (stk2 := [.int q1.1]) rfl ?_
  obtain rfl := Option.some.inj h
  exact z_iret ⟨.int, rfl, rfl⟩ dX12_tells_42
def f_X12_tells (x0 : Nat) (x1 : Int32) (x2 : Int32) (x3 : Int32) (M : zMe) : Option (Int32 × zMe) :=
  (zob M x0 12).bind fun _ =>
  (f_X12_isDog x0 x1 M).bind fun q1 =>
  if q1.1 = 0 then (
    f_X12_tells_b35 x0 q1.2)
  else (
    (zgN q1.2 x0 [12] 0).bind fun a1 =>
    (zrI q1.2 a1 0).bind fun v1 =>
    (f_X12_in x2 1 (((1 : Int32) <<< (v1 &&& 31)) - 1) q1.2).bind fun q2 =>
    if q2.1 = 0 then (
      f_X12_tells_b35 x0 q2.2)
    else (
      (f_X12_in x3 0 2 q2.2).bind fun q3 =>
      if q3.1 = 0 then (
        f_X12_tells_b35 x0 q3.2)
      else (
        (zob q3.2 x0 12).bind fun _ =>
        (f_X12_allTakes x0 x1 q3.2).bind fun q4 =>
        (zgN q4 x0 [12] 0).bind fun a2 =>
        (zrI q4 a2 3).bind fun v2 =>
        zlet (x2 &&& v2 : Int32) fun v3 =>
        (zgN q4 x0 [12] 0).bind fun a3 =>
        (zrI q4 a3 3).bind fun v4 =>
        zlet (x2 &&& (v4 ^^^ (-1)) : Int32) fun v5 =>
        if x3 = 0 then (
          (zgN q4 x0 [12] 19).bind fun a4 =>
          (zrI q4 a4 v3).bind fun v6 =>
          (zgN q4 x0 [12] 19).bind fun a5 =>
          (zrI q4 a5 v5).bind fun v7 =>
          if v6 ≤ v7 then (
            (zgN q4 x0 [12] 19).bind fun a6 =>
            (zrI q4 a6 v5).bind fun v8 =>
            f_X12_tells_b108 v8 q4)
          else (
            (zgN q4 x0 [12] 19).bind fun a7 =>
            (zrI q4 a7 v3).bind fun v9 =>
            f_X12_tells_b108 v9 q4))
        else (
          if x3 = 1 then (
            f_X12_tells_b136 x0 x1 v3 q4)
          else (
            f_X12_tells_b136 x0 x1 v5 q4)))))
set_option maxHeartbeats 4000000 in
set_option maxRecDepth 100000 in
theorem s_X12_tells {g : zG} (hC : zC g) {x0 : Nat} {x1 : Int32} {x2 : Int32} {x3 : Int32} {M : zMe} {q : (Int32 × zMe)} (h : f_X12_tells x0 x1 x2 x3 M = some q) : zMet g yX12_tells mX12_tells [.ref x0, .int x1, .int x2, .int x3] M (some (.int q.1)) q.2 := by
  refine z_entry (by decide +kernel) rfl rfl (Nat.le_of_ble_eq_true rfl) ?_
  refine zeqL (L2 := [.ref x0, .int x1, .int x2, .int x3, .retAddr 0, .retAddr 0, .retAddr 0]) rfl ?_
  unfold f_X12_tells at h
  refine z_aload_n (x := x0) rfl dX12_tells_0 ?_
  refine z_iload_n (x := x1) rfl dX12_tells_1 ?_
  obtain ⟨_, hb, h⟩ := zbind h
  obtain ⟨fs, hb⟩ := zob_some hb
  obtain ⟨q1, h1, h⟩ := zbind h
  refine z_callV (av := [.int x1]) (rest := []) hC zcl_12 hb (s_X12_isDog hC h1) lk_X12_140 im_X12_isDog se_X12_isDog cd_X12_isDog ⟨by decide, by decide, (Nat.le_of_ble_eq_true rfl)⟩ dX12_tells_2 ?_
  clear hb fs
  refine zeqS (stk2 := [.int q1.1]) rfl ?_
  refine z_if_eq (tgt := 35) dX12_tells_5 (by decide) (fun c1 => ?_) (fun c1 => ?_)
  · have h := zift h c1
    refine zweak [true, false, false, false, false, false, false] ?_
    exact s_X12_tells_b35 hC _ _ _ h
  · have h := zife h c1
    refine z_iload_n (x := x2) rfl dX12_tells_8 ?_
    refine z_iconst 1 (by decide) dX12_tells_9 ?_
    refine z_iconst 1 (by decide) dX12_tells_10 ?_
    refine z_aload_n (x := x0) rfl dX12_tells_11 ?_
    obtain ⟨a1, h2, h⟩ := zbind h
    refine z_gN hC fs_X12_7 h2 dX12_tells_12 ?_
    refine z_iconst 0 (by decide) dX12_tells_15 ?_
    obtain ⟨v1, h3, h⟩ := zbind h
    refine z_rI h3 dX12_tells_16 ?_
    refine z_ishl dX12_tells_17 ?_
    refine z_iconst 1 (by decide) dX12_tells_18 ?_
    refine z_isub dX12_tells_19 ?_
    obtain ⟨q2, h4, h⟩ := zbind h
    refine z_callS (av := [.int x2, .int 1, .int (((1 : Int32) <<< (v1 &&& 31)) - 1)]) (rest := []) hC (s_X12_in hC h4) lk_X12_57 st_X12_in cd_X12_in ⟨by decide, by decide, (Nat.le_of_ble_eq_true rfl)⟩ dX12_tells_20 ?_
    refine zeqS (stk2 := [.int q2.1]) rfl ?_
    refine z_if_eq (tgt := 35) dX12_tells_23 (by decide) (fun c2 => ?_) (fun c2 => ?_)
    · have h := zift h c2
      refine zweak [true, false, false, false, false, false, false] ?_
      exact s_X12_tells_b35 hC _ _ _ h
    · have h := zife h c2
      refine z_iload_n (x := x3) rfl dX12_tells_26 ?_
      refine z_iconst 0 (by decide) dX12_tells_27 ?_
      refine z_iconst 2 (by decide) dX12_tells_28 ?_
      obtain ⟨q3, h5, h⟩ := zbind h
      refine z_callS (av := [.int x3, .int 0, .int 2]) (rest := []) hC (s_X12_in hC h5) lk_X12_57 st_X12_in cd_X12_in ⟨by decide, by decide, (Nat.le_of_ble_eq_true rfl)⟩ dX12_tells_29 ?_
      refine zeqS (stk2 := [.int q3.1]) rfl ?_
      refine z_if_ne (tgt := 43) dX12_tells_32 (by decide) (fun c3 => ?_) (fun c3 => ?_)
      · have h := zife h c3
        refine z_aload_n (x := x0) rfl dX12_tells_43 ?_
        refine z_iload_n (x := x1) rfl dX12_tells_44 ?_
        obtain ⟨_, hb, h⟩ := zbind h
        obtain ⟨fs, hb⟩ := zob_some hb
        obtain ⟨q4, h6, h⟩ := zbind h
        refine z_callV (av := [.int x1]) (rest := []) hC zcl_12 hb (s_X12_allTakes hC h6) lk_X12_199 im_X12_allTakes se_X12_allTakes cd_X12_allTakes ⟨by decide, by decide, (Nat.le_of_ble_eq_true rfl)⟩ dX12_tells_45 ?_
        clear hb fs
        refine zeqS (stk2 := []) rfl ?_
        refine z_iload_n (x := x2) rfl dX12_tells_48 ?_
        refine z_aload_n (x := x0) rfl dX12_tells_49 ?_
        obtain ⟨a2, h7, h⟩ := zbind h
        refine z_gN hC fs_X12_7 h7 dX12_tells_50 ?_
        refine z_iconst 3 (by decide) dX12_tells_53 ?_
        obtain ⟨v2, h8, h⟩ := zbind h
        refine z_rI h8 dX12_tells_54 ?_
        refine z_iand dX12_tells_55 ?_
        refine z_nameI (fun v3 hv => ?_)
        have h := zlet_use h hv
        clear hv
        refine z_istore dX12_tells_56 (by decide) ?_
        refine zeqL (L2 := [.ref x0, .int x1, .int x2, .int x3, .int v3, .retAddr 0, .retAddr 0]) rfl ?_
        refine z_iload_n (x := x2) rfl dX12_tells_58 ?_
        refine z_aload_n (x := x0) rfl dX12_tells_59 ?_
        obtain ⟨a3, h9, h⟩ := zbind h
        refine z_gN hC fs_X12_7 h9 dX12_tells_60 ?_
        refine z_iconst 3 (by decide) dX12_tells_63 ?_
        obtain ⟨v4, h10, h⟩ := zbind h
        refine z_rI h10 dX12_tells_64 ?_
        refine z_iconst (-1) (by decide) dX12_tells_65 ?_
        refine z_ixor dX12_tells_66 ?_
        refine z_iand dX12_tells_67 ?_
        refine z_nameI (fun v5 hv => ?_)
        have h := zlet_use h hv
        clear hv
        refine z_istore dX12_tells_68 (by decide) ?_
        refine zeqL (L2 := [.ref x0, .int x1, .int x2, .int x3, .int v3, .int v5, .retAddr 0]) rfl ?_
        refine z_iload_n (x := x3) rfl dX12_tells_70 ?_
        refine z_if_ne (tgt := 124) dX12_tells_71 (by decide) (fun c4 => ?_) (fun c4 => ?_)
        · have h := zife h c4
          refine z_iload_n (x := x3) rfl dX12_tells_124 ?_
          refine z_iconst 1 (by decide) dX12_tells_125 ?_
          refine z_icmp_ne (tgt := 134) dX12_tells_126 (by decide) (fun c6 => ?_) (fun c6 => ?_)
          · have h := zife h c6
            refine z_iload (x := v5) rfl dX12_tells_134 ?_
            refine zweak [true, true, false, false, false, false, false] ?_
            exact s_X12_tells_b136 hC _ _ _ _ _ h
          · have h := zift h c6
            refine z_iload (x := v3) rfl dX12_tells_129 ?_
            refine z_goto (tgt := 136) dX12_tells_131 (by decide) ?_
            refine zweak [true, true, false, false, false, false, false] ?_
            exact s_X12_tells_b136 hC _ _ _ _ _ h
        · have h := zift h c4
          refine z_aload_n (x := x0) rfl dX12_tells_74 ?_
          obtain ⟨a4, h11, h⟩ := zbind h
          refine z_gN hC fs_X12_42 h11 dX12_tells_75 ?_
          refine z_iload (x := v3) rfl dX12_tells_78 ?_
          obtain ⟨v6, h12, h⟩ := zbind h
          refine z_rI h12 dX12_tells_80 ?_
          refine z_aload_n (x := x0) rfl dX12_tells_81 ?_
          obtain ⟨a5, h13, h⟩ := zbind h
          refine z_gN hC fs_X12_42 h13 dX12_tells_82 ?_
          refine z_iload (x := v5) rfl dX12_tells_85 ?_
          obtain ⟨v7, h14, h⟩ := zbind h
          refine z_rI h14 dX12_tells_87 ?_
          refine z_icmp_le (tgt := 101) dX12_tells_88 (by decide) (fun c5 => ?_) (fun c5 => ?_)
          · have h := zift h c5
            refine z_aload_n (x := x0) rfl dX12_tells_101 ?_
            obtain ⟨a6, h15, h⟩ := zbind h
            refine z_gN hC fs_X12_42 h15 dX12_tells_102 ?_
            refine z_iload (x := v5) rfl dX12_tells_105 ?_
            obtain ⟨v8, h16, h⟩ := zbind h
            refine z_rI h16 dX12_tells_107 ?_
            refine zweak [false, false, false, false, false, false, false] ?_
            exact s_X12_tells_b108 hC _ _ _ h
          · have h := zife h c5
            refine z_aload_n (x := x0) rfl dX12_tells_91 ?_
            obtain ⟨a7, h17, h⟩ := zbind h
            refine z_gN hC fs_X12_42 h17 dX12_tells_92 ?_
            refine z_iload (x := v3) rfl dX12_tells_95 ?_
            obtain ⟨v9, h18, h⟩ := zbind h
            refine z_rI h18 dX12_tells_97 ?_
            refine z_goto (tgt := 108) dX12_tells_98 (by decide) ?_
            refine zweak [false, false, false, false, false, false, false] ?_
            exact s_X12_tells_b108 hC _ _ _ h
      · have h := zift h c3
        refine zweak [true, false, false, false, false, false, false] ?_
        exact s_X12_tells_b35 hC _ _ _ h
def f_X12_heard_b64 (k9 : Nat → Int32 → Int32 → Int32 → Int32 → Int32 → Int32 → Int32 → zMe → Option (Int32 × zMe)) (x0 : Nat) (x1 : Int32) (x3 : Int32) (x4 : Int32) (x5 : Int32) (x6 : Int32) (x8 : Int32) (y0 : Int32) (M : zMe) : Option (Int32 × zMe) :=
  zlet (x8 + 1) fun v1 =>
  k9 x0 x1 x3 x4 x5 x6 y0 v1 M
set_option maxHeartbeats 4000000 in
set_option maxRecDepth 100000 in
theorem s_X12_heard_b64 {g : zG} (hC : zC g) {k9 : Nat → Int32 → Int32 → Int32 → Int32 → Int32 → Int32 → Int32 → zMe → Option (Int32 × zMe)} (hk9 : ∀ (x0 : Nat) (x1 : Int32) (x3 : Int32) (x4 : Int32) (x5 : Int32) (x6 : Int32) (x7 : Int32) (x8 : Int32) (M : zMe) (q : (Int32 × zMe)), k9 x0 x1 x3 x4 x5 x6 x7 x8 M = some q → zW g mX12_heard 9 [.ref x0, .int x1, .retAddr 0, .int x3, .int x4, .int x5, .int x6, .int x7, .int x8] [] M (some (.int q.1)) q.2) (x0 : Nat) (x1 : Int32) (x3 : Int32) (x4 : Int32) (x5 : Int32) (x6 : Int32) (x8 : Int32) (y0 : Int32) (M : zMe) (q : (Int32 × zMe)) (h : f_X12_heard_b64 k9 x0 x1 x3 x4 x5 x6 x8 y0 M = some q) : zW g mX12_heard 64 [.ref x0, .int x1, .retAddr 0, .int x3, .int x4, .int x5, .int x6, .retAddr 0, .int x8] [.int y0] M (some (.int q.1)) q.2 := by
  unfold f_X12_heard_b64 at h
  refine z_istore dX12_heard_64 (by decide) ?_
  refine zeqL (L2 := [.ref x0, .int x1, .retAddr 0, .int x3, .int x4, .int x5, .int x6, .int y0, .int x8]) rfl ?_
  obtain ⟨v1, hv⟩ : ∃ z : Int32, z = x8 + 1 := ⟨_, rfl⟩
  have h := zlet_use h hv
  refine z_iinc (v := v1) dX12_heard_66 (x := x8) rfl (by rw [hv]; rfl) ?_
  clear hv
  refine zeqL (L2 := [.ref x0, .int x1, .retAddr 0, .int x3, .int x4, .int x5, .int x6, .int y0, .int v1]) rfl ?_
  refine z_goto (tgt := 9) dX12_heard_69 (by decide) ?_
  exact hk9 _ _ _ _ _ _ _ _ _ _ h
def f_X12_heard_b63 (k9 : Nat → Int32 → Int32 → Int32 → Int32 → Int32 → Int32 → Int32 → zMe → Option (Int32 × zMe)) (x0 : Nat) (x1 : Int32) (x3 : Int32) (x4 : Int32) (x5 : Int32) (x6 : Int32) (x8 : Int32) (M : zMe) : Option (Int32 × zMe) :=
  f_X12_heard_b64 k9 x0 x1 x3 x4 x5 x6 x8 0 M
set_option maxHeartbeats 4000000 in
set_option maxRecDepth 100000 in
theorem s_X12_heard_b63 {g : zG} (hC : zC g) {k9 : Nat → Int32 → Int32 → Int32 → Int32 → Int32 → Int32 → Int32 → zMe → Option (Int32 × zMe)} (hk9 : ∀ (x0 : Nat) (x1 : Int32) (x3 : Int32) (x4 : Int32) (x5 : Int32) (x6 : Int32) (x7 : Int32) (x8 : Int32) (M : zMe) (q : (Int32 × zMe)), k9 x0 x1 x3 x4 x5 x6 x7 x8 M = some q → zW g mX12_heard 9 [.ref x0, .int x1, .retAddr 0, .int x3, .int x4, .int x5, .int x6, .int x7, .int x8] [] M (some (.int q.1)) q.2) (x0 : Nat) (x1 : Int32) (x3 : Int32) (x4 : Int32) (x5 : Int32) (x6 : Int32) (x8 : Int32) (M : zMe) (q : (Int32 × zMe)) (h : f_X12_heard_b63 k9 x0 x1 x3 x4 x5 x6 x8 M = some q) : zW g mX12_heard 63 [.ref x0, .int x1, .retAddr 0, .int x3, .int x4, .int x5, .int x6, .retAddr 0, .int x8] [] M (some (.int q.1)) q.2 := by
  unfold f_X12_heard_b63 at h
  refine z_iconst 0 (by decide) dX12_heard_63 ?_
  exact s_X12_heard_b64 hC hk9 _ _ _ _ _ _ _ _ _ _ h
def f_X12_heard_b9  : Nat → Nat → Int32 → Int32 → Int32 → Int32 → Int32 → Int32 → Int32 → zMe → Option (Int32 × zMe)
  | 0, _, _, _, _, _, _, _, _, _ => none
  | n + 1, x0, x1, x3, x4, x5, x6, x7, x8, M =>
    if x4 ≤ x8 then (
      if x7 = 0 ∨ x7 = 1 then some (x7, M) else none)
    else (
      (zob M x0 12).bind fun _ =>
      (f_X12_go x0 x1 x6 ((x3 >>> (x8 &&& 31)) &&& 1) x8 M).bind fun q1 =>
      if x7 = 0 then (
        f_X12_heard_b63 (f_X12_heard_b9 n) x0 x1 x3 x4 x5 q1.1 x8 q1.2)
      else (
        (zgN q1.2 x0 [12] 0).bind fun a1 =>
        (zrI q1.2 a1 3).bind fun v1 =>
        if ((v1 >>> (q1.1 &&& 31)) &&& 1) = ((x5 >>> (x8 &&& 31)) &&& 1) then (
          f_X12_heard_b64 (f_X12_heard_b9 n) x0 x1 x3 x4 x5 q1.1 x8 1 q1.2)
        else (
          f_X12_heard_b63 (f_X12_heard_b9 n) x0 x1 x3 x4 x5 q1.1 x8 q1.2)))
set_option maxHeartbeats 4000000 in
set_option maxRecDepth 100000 in
theorem s_X12_heard_b9 {g : zG} (hC : zC g)  : ∀ (n : Nat) (x0 : Nat) (x1 : Int32) (x3 : Int32) (x4 : Int32) (x5 : Int32) (x6 : Int32) (x7 : Int32) (x8 : Int32) (M : zMe) (q : (Int32 × zMe)), f_X12_heard_b9  n x0 x1 x3 x4 x5 x6 x7 x8 M = some q → zW g mX12_heard 9 [.ref x0, .int x1, .retAddr 0, .int x3, .int x4, .int x5, .int x6, .int x7, .int x8] [] M (some (.int q.1)) q.2 := by
  intro n
  induction n with
  | zero => intro x0 x1 x3 x4 x5 x6 x7 x8 M q h; cases h
  | succ n ih =>
    intro x0 x1 x3 x4 x5 x6 x7 x8 M q h
    rw [f_X12_heard_b9] at h
    refine z_iload (x := x8) rfl dX12_heard_9 ?_
    refine z_iload (x := x4) rfl dX12_heard_11 ?_
    refine z_icmp_ge (tgt := 72) dX12_heard_13 (by decide) (fun c1 => ?_) (fun c1 => ?_)
    · have h := zift h c1
      refine z_iload (x := x7) rfl dX12_heard_72 ?_
      obtain ⟨hz, h⟩ := zifs h
      obtain rfl := Option.some.inj h
      exact z_iret ⟨.boolean, rfl, zbo hz⟩ dX12_heard_74
    · have h := zife h c1
      refine z_aload_n (x := x0) rfl dX12_heard_16 ?_
      refine z_iload_n (x := x1) rfl dX12_heard_17 ?_
      refine z_iload (x := x6) rfl dX12_heard_18 ?_
      refine z_iload_n (x := x3) rfl dX12_heard_20 ?_
      refine z_iload (x := x8) rfl dX12_heard_21 ?_
      refine z_ishr dX12_heard_23 ?_
      refine z_iconst 1 (by decide) dX12_heard_24 ?_
      refine z_iand dX12_heard_25 ?_
      refine z_iload (x := x8) rfl dX12_heard_26 ?_
      obtain ⟨_, hb, h⟩ := zbind h
      obtain ⟨fs, hb⟩ := zob_some hb
      obtain ⟨q1, h1, h⟩ := zbind h
      refine z_callV (av := [.int x1, .int x6, .int ((x3 >>> (x8 &&& 31)) &&& 1), .int x8]) (rest := []) hC zcl_12 hb (s_X12_go hC h1) lk_X12_143 im_X12_go se_X12_go cd_X12_go ⟨by decide, by decide, (Nat.le_of_ble_eq_true rfl)⟩ dX12_heard_28 ?_
      clear hb fs
      refine zeqS (stk2 := [.int q1.1]) rfl ?_
      refine z_istore dX12_heard_31 (by decide) ?_
      refine zeqL (L2 := [.ref x0, .int x1, .retAddr 0, .int x3, .int x4, .int x5, .int q1.1, .int x7, .int x8]) rfl ?_
      refine z_iload (x := x7) rfl dX12_heard_33 ?_
      refine z_if_eq (tgt := 63) dX12_heard_35 (by decide) (fun c2 => ?_) (fun c2 => ?_)
      · have h := zift h c2
        refine zweak [true, true, false, true, true, true, true, false, true] ?_
        exact s_X12_heard_b63 hC ih _ _ _ _ _ _ _ _ _ h
      · have h := zife h c2
        refine z_aload_n (x := x0) rfl dX12_heard_38 ?_
        obtain ⟨a1, h2, h⟩ := zbind h
        refine z_gN hC fs_X12_7 h2 dX12_heard_39 ?_
        refine z_iconst 3 (by decide) dX12_heard_42 ?_
        obtain ⟨v1, h3, h⟩ := zbind h
        refine z_rI h3 dX12_heard_43 ?_
        refine z_iload (x := q1.1) rfl dX12_heard_44 ?_
        refine z_ishr dX12_heard_46 ?_
        refine z_iconst 1 (by decide) dX12_heard_47 ?_
        refine z_iand dX12_heard_48 ?_
        refine z_iload (x := x5) rfl dX12_heard_49 ?_
        refine z_iload (x := x8) rfl dX12_heard_51 ?_
        refine z_ishr dX12_heard_53 ?_
        refine z_iconst 1 (by decide) dX12_heard_54 ?_
        refine z_iand dX12_heard_55 ?_
        refine z_icmp_ne (tgt := 63) dX12_heard_56 (by decide) (fun c3 => ?_) (fun c3 => ?_)
        · have h := zife h c3
          refine zweak [true, true, false, true, true, true, true, false, true] ?_
          exact s_X12_heard_b63 hC ih _ _ _ _ _ _ _ _ _ h
        · have h := zift h c3
          refine z_iconst 1 (by decide) dX12_heard_59 ?_
          refine z_goto (tgt := 64) dX12_heard_60 (by decide) ?_
          refine zweak [true, true, false, true, true, true, true, false, true] ?_
          exact s_X12_heard_b64 hC ih _ _ _ _ _ _ _ _ _ _ h
def f_X12_heard (x0 : Nat) (x1 : Int32) (x2 : Int32) (x3 : Int32) (x4 : Int32) (x5 : Int32) (M : zMe) : Option (Int32 × zMe) :=
  f_X12_heard_b9 zfu x0 x1 x3 x4 x5 x2 1 0 M
set_option maxHeartbeats 4000000 in
set_option maxRecDepth 100000 in
theorem s_X12_heard {g : zG} (hC : zC g) {x0 : Nat} {x1 : Int32} {x2 : Int32} {x3 : Int32} {x4 : Int32} {x5 : Int32} {M : zMe} {q : (Int32 × zMe)} (h : f_X12_heard x0 x1 x2 x3 x4 x5 M = some q) : zMet g yX12_heard mX12_heard [.ref x0, .int x1, .int x2, .int x3, .int x4, .int x5] M (some (.int q.1)) q.2 := by
  refine z_entry (by decide +kernel) rfl rfl (Nat.le_of_ble_eq_true rfl) ?_
  refine zeqL (L2 := [.ref x0, .int x1, .int x2, .int x3, .int x4, .int x5, .retAddr 0, .retAddr 0, .retAddr 0]) rfl ?_
  unfold f_X12_heard at h
  refine z_iload_n (x := x2) rfl dX12_heard_0 ?_
  refine z_istore dX12_heard_1 (by decide) ?_
  refine zeqL (L2 := [.ref x0, .int x1, .int x2, .int x3, .int x4, .int x5, .int x2, .retAddr 0, .retAddr 0]) rfl ?_
  refine z_iconst 1 (by decide) dX12_heard_3 ?_
  refine z_istore dX12_heard_4 (by decide) ?_
  refine zeqL (L2 := [.ref x0, .int x1, .int x2, .int x3, .int x4, .int x5, .int x2, .int 1, .retAddr 0]) rfl ?_
  refine z_iconst 0 (by decide) dX12_heard_6 ?_
  refine z_istore dX12_heard_7 (by decide) ?_
  refine zeqL (L2 := [.ref x0, .int x1, .int x2, .int x3, .int x4, .int x5, .int x2, .int 1, .int 0]) rfl ?_
  refine zweak [true, true, false, true, true, true, true, true, true] ?_
  exact s_X12_heard_b9 hC _ _ _ _ _ _ _ _ _ _ _ h
def f_X12_begins_b41 (k6 : Nat → Int32 → Int32 → Int32 → Int32 → Int32 → Int32 → zMe → Option (Int32 × zMe)) (x0 : Nat) (x1 : Int32) (x2 : Int32) (x3 : Int32) (x4 : Int32) (x6 : Int32) (y0 : Int32) (y1 : Int32) (M : zMe) : Option (Int32 × zMe) :=
  zlet (y1 ||| y0 : Int32) fun v1 =>
  zlet (x6 + 1) fun v2 =>
  k6 x0 x1 x2 x3 x4 v1 v2 M
set_option maxHeartbeats 4000000 in
set_option maxRecDepth 100000 in
theorem s_X12_begins_b41 {g : zG} (hC : zC g) {k6 : Nat → Int32 → Int32 → Int32 → Int32 → Int32 → Int32 → zMe → Option (Int32 × zMe)} (hk6 : ∀ (x0 : Nat) (x1 : Int32) (x2 : Int32) (x3 : Int32) (x4 : Int32) (x5 : Int32) (x6 : Int32) (M : zMe) (q : (Int32 × zMe)), k6 x0 x1 x2 x3 x4 x5 x6 M = some q → zW g mX12_begins 6 [.ref x0, .int x1, .int x2, .int x3, .int x4, .int x5, .int x6] [] M (some (.int q.1)) q.2) (x0 : Nat) (x1 : Int32) (x2 : Int32) (x3 : Int32) (x4 : Int32) (x6 : Int32) (y0 : Int32) (y1 : Int32) (M : zMe) (q : (Int32 × zMe)) (h : f_X12_begins_b41 k6 x0 x1 x2 x3 x4 x6 y0 y1 M = some q) : zW g mX12_begins 41 [.ref x0, .int x1, .int x2, .int x3, .int x4, .retAddr 0, .int x6] [.int y0, .int y1] M (some (.int q.1)) q.2 := by
  unfold f_X12_begins_b41 at h
  refine z_ior dX12_begins_41 ?_
  refine z_nameI (fun v1 hv => ?_)
  have h := zlet_use h hv
  clear hv
  refine z_istore dX12_begins_42 (by decide) ?_
  refine zeqL (L2 := [.ref x0, .int x1, .int x2, .int x3, .int x4, .int v1, .int x6]) rfl ?_
  obtain ⟨v2, hv⟩ : ∃ z : Int32, z = x6 + 1 := ⟨_, rfl⟩
  have h := zlet_use h hv
  refine z_iinc (v := v2) dX12_begins_44 (x := x6) rfl (by rw [hv]; rfl) ?_
  clear hv
  refine zeqL (L2 := [.ref x0, .int x1, .int x2, .int x3, .int x4, .int v1, .int v2]) rfl ?_
  refine z_goto (tgt := 6) dX12_begins_47 (by decide) ?_
  exact hk6 _ _ _ _ _ _ _ _ _ h
def f_X12_begins_b6  : Nat → Nat → Int32 → Int32 → Int32 → Int32 → Int32 → Int32 → zMe → Option (Int32 × zMe)
  | 0, _, _, _, _, _, _, _, _ => none
  | n + 1, x0, x1, x2, x3, x4, x5, x6, M =>
    (zgN M x0 [12] 0).bind fun a1 =>
    (zrI M a1 0).bind fun v1 =>
    if v1 ≤ x6 then (
      some (x5, M))
    else (
      (zob M x0 12).bind fun _ =>
      (f_X12_heard x0 x1 x6 x2 x3 x4 M).bind fun q1 =>
      if q1.1 = 0 then (
        f_X12_begins_b41 (f_X12_begins_b6 n) x0 x1 x2 x3 x4 x6 0 x5 q1.2)
      else (
        f_X12_begins_b41 (f_X12_begins_b6 n) x0 x1 x2 x3 x4 x6 ((1 : Int32) <<< (x6 &&& 31)) x5 q1.2))
set_option maxHeartbeats 4000000 in
set_option maxRecDepth 100000 in
theorem s_X12_begins_b6 {g : zG} (hC : zC g)  : ∀ (n : Nat) (x0 : Nat) (x1 : Int32) (x2 : Int32) (x3 : Int32) (x4 : Int32) (x5 : Int32) (x6 : Int32) (M : zMe) (q : (Int32 × zMe)), f_X12_begins_b6  n x0 x1 x2 x3 x4 x5 x6 M = some q → zW g mX12_begins 6 [.ref x0, .int x1, .int x2, .int x3, .int x4, .int x5, .int x6] [] M (some (.int q.1)) q.2 := by
  intro n
  induction n with
  | zero => intro x0 x1 x2 x3 x4 x5 x6 M q h; cases h
  | succ n ih =>
    intro x0 x1 x2 x3 x4 x5 x6 M q h
    rw [f_X12_begins_b6] at h
    refine z_iload (x := x6) rfl dX12_begins_6 ?_
    refine z_aload_n (x := x0) rfl dX12_begins_8 ?_
    obtain ⟨a1, h1, h⟩ := zbind h
    refine z_gN hC fs_X12_7 h1 dX12_begins_9 ?_
    refine z_iconst 0 (by decide) dX12_begins_12 ?_
    obtain ⟨v1, h2, h⟩ := zbind h
    refine z_rI h2 dX12_begins_13 ?_
    refine z_icmp_ge (tgt := 50) dX12_begins_14 (by decide) (fun c1 => ?_) (fun c1 => ?_)
    · have h := zift h c1
      refine z_iload (x := x5) rfl dX12_begins_50 ?_
      obtain rfl := Option.some.inj h
      exact z_iret ⟨.int, rfl, rfl⟩ dX12_begins_52
    · have h := zife h c1
      refine z_iload (x := x5) rfl dX12_begins_17 ?_
      refine z_aload_n (x := x0) rfl dX12_begins_19 ?_
      refine z_iload_n (x := x1) rfl dX12_begins_20 ?_
      refine z_iload (x := x6) rfl dX12_begins_21 ?_
      refine z_iload_n (x := x2) rfl dX12_begins_23 ?_
      refine z_iload_n (x := x3) rfl dX12_begins_24 ?_
      refine z_iload (x := x4) rfl dX12_begins_25 ?_
      obtain ⟨_, hb, h⟩ := zbind h
      obtain ⟨fs, hb⟩ := zob_some hb
      obtain ⟨q1, h3, h⟩ := zbind h
      refine z_callV (av := [.int x1, .int x6, .int x2, .int x3, .int x4]) (rest := [.int x5]) hC zcl_12 hb (s_X12_heard hC h3) lk_X12_203 im_X12_heard se_X12_heard cd_X12_heard ⟨by decide, by decide, (Nat.le_of_ble_eq_true rfl)⟩ dX12_begins_27 ?_
      clear hb fs
      refine zeqS (stk2 := [.int q1.1, .int x5]) rfl ?_
      refine z_if_eq (tgt := 40) dX12_begins_30 (by decide) (fun c2 => ?_) (fun c2 => ?_)
      · have h := zift h c2
        refine z_iconst 0 (by decide) dX12_begins_40 ?_
        refine zweak [true, true, true, true, true, false, true] ?_
        exact s_X12_begins_b41 hC ih _ _ _ _ _ _ _ _ _ _ h
      · have h := zife h c2
        refine z_iconst 1 (by decide) dX12_begins_33 ?_
        refine z_iload (x := x6) rfl dX12_begins_34 ?_
        refine z_ishl dX12_begins_36 ?_
        refine z_goto (tgt := 41) dX12_begins_37 (by decide) ?_
        refine zweak [true, true, true, true, true, false, true] ?_
        exact s_X12_begins_b41 hC ih _ _ _ _ _ _ _ _ _ _ h
def f_X12_begins (x0 : Nat) (x1 : Int32) (x2 : Int32) (x3 : Int32) (x4 : Int32) (M : zMe) : Option (Int32 × zMe) :=
  f_X12_begins_b6 zfu x0 x1 x2 x3 x4 0 0 M
set_option maxHeartbeats 4000000 in
set_option maxRecDepth 100000 in
theorem s_X12_begins {g : zG} (hC : zC g) {x0 : Nat} {x1 : Int32} {x2 : Int32} {x3 : Int32} {x4 : Int32} {M : zMe} {q : (Int32 × zMe)} (h : f_X12_begins x0 x1 x2 x3 x4 M = some q) : zMet g yX12_begins mX12_begins [.ref x0, .int x1, .int x2, .int x3, .int x4] M (some (.int q.1)) q.2 := by
  refine z_entry (by decide +kernel) rfl rfl (Nat.le_of_ble_eq_true rfl) ?_
  refine zeqL (L2 := [.ref x0, .int x1, .int x2, .int x3, .int x4, .retAddr 0, .retAddr 0]) rfl ?_
  unfold f_X12_begins at h
  refine z_iconst 0 (by decide) dX12_begins_0 ?_
  refine z_istore dX12_begins_1 (by decide) ?_
  refine zeqL (L2 := [.ref x0, .int x1, .int x2, .int x3, .int x4, .int 0, .retAddr 0]) rfl ?_
  refine z_iconst 0 (by decide) dX12_begins_3 ?_
  refine z_istore dX12_begins_4 (by decide) ?_
  refine zeqL (L2 := [.ref x0, .int x1, .int x2, .int x3, .int x4, .int 0, .int 0]) rfl ?_
  exact s_X12_begins_b6 hC _ _ _ _ _ _ _ _ _ _ h
def f_X12_which_b73 (k39 : Nat → Int32 → Int32 → Int32 → Int32 → Int32 → zMe → Option (Int32 × zMe)) (x0 : Nat) (x1 : Int32) (x2 : Int32) (x3 : Int32) (x5 : Int32) (y0 : Int32) (y1 : Int32) (M : zMe) : Option (Int32 × zMe) :=
  zlet (y1 ||| y0 : Int32) fun v1 =>
  zlet (x5 + 1) fun v2 =>
  k39 x0 x1 x2 x3 v1 v2 M
set_option maxHeartbeats 4000000 in
set_option maxRecDepth 100000 in
theorem s_X12_which_b73 {g : zG} (hC : zC g) {k39 : Nat → Int32 → Int32 → Int32 → Int32 → Int32 → zMe → Option (Int32 × zMe)} (hk39 : ∀ (x0 : Nat) (x1 : Int32) (x2 : Int32) (x3 : Int32) (x4 : Int32) (x5 : Int32) (M : zMe) (q : (Int32 × zMe)), k39 x0 x1 x2 x3 x4 x5 M = some q → zW g mX12_which 39 [.ref x0, .int x1, .int x2, .int x3, .int x4, .int x5] [] M (some (.int q.1)) q.2) (x0 : Nat) (x1 : Int32) (x2 : Int32) (x3 : Int32) (x5 : Int32) (y0 : Int32) (y1 : Int32) (M : zMe) (q : (Int32 × zMe)) (h : f_X12_which_b73 k39 x0 x1 x2 x3 x5 y0 y1 M = some q) : zW g mX12_which 73 [.ref x0, .int x1, .int x2, .int x3, .retAddr 0, .int x5] [.int y0, .int y1] M (some (.int q.1)) q.2 := by
  unfold f_X12_which_b73 at h
  refine z_ior dX12_which_73 ?_
  refine z_nameI (fun v1 hv => ?_)
  have h := zlet_use h hv
  clear hv
  refine z_istore dX12_which_74 (by decide) ?_
  refine zeqL (L2 := [.ref x0, .int x1, .int x2, .int x3, .int v1, .int x5]) rfl ?_
  obtain ⟨v2, hv⟩ : ∃ z : Int32, z = x5 + 1 := ⟨_, rfl⟩
  have h := zlet_use h hv
  refine z_iinc (v := v2) dX12_which_76 (x := x5) rfl (by rw [hv]; rfl) ?_
  clear hv
  refine zeqL (L2 := [.ref x0, .int x1, .int x2, .int x3, .int v1, .int v2]) rfl ?_
  refine z_goto (tgt := 39) dX12_which_79 (by decide) ?_
  exact hk39 _ _ _ _ _ _ _ _ h
def f_X12_which_b39  : Nat → Nat → Int32 → Int32 → Int32 → Int32 → Int32 → zMe → Option (Int32 × zMe)
  | 0, _, _, _, _, _, _, _ => none
  | n + 1, x0, x1, x2, x3, x4, x5, M =>
    (zgN M x0 [12] 0).bind fun a1 =>
    (zrI M a1 6).bind fun v1 =>
    if v1 ≤ x5 then (
      some (x4, M))
    else (
      (zob M x0 12).bind fun _ =>
      (f_X12_begins x0 x5 x1 x2 x3 M).bind fun q1 =>
      if q1.1 = 0 then (
        f_X12_which_b73 (f_X12_which_b39 n) x0 x1 x2 x3 x5 0 x4 q1.2)
      else (
        f_X12_which_b73 (f_X12_which_b39 n) x0 x1 x2 x3 x5 ((1 : Int32) <<< (x5 &&& 31)) x4 q1.2))
set_option maxHeartbeats 4000000 in
set_option maxRecDepth 100000 in
theorem s_X12_which_b39 {g : zG} (hC : zC g)  : ∀ (n : Nat) (x0 : Nat) (x1 : Int32) (x2 : Int32) (x3 : Int32) (x4 : Int32) (x5 : Int32) (M : zMe) (q : (Int32 × zMe)), f_X12_which_b39  n x0 x1 x2 x3 x4 x5 M = some q → zW g mX12_which 39 [.ref x0, .int x1, .int x2, .int x3, .int x4, .int x5] [] M (some (.int q.1)) q.2 := by
  intro n
  induction n with
  | zero => intro x0 x1 x2 x3 x4 x5 M q h; cases h
  | succ n ih =>
    intro x0 x1 x2 x3 x4 x5 M q h
    rw [f_X12_which_b39] at h
    refine z_iload (x := x5) rfl dX12_which_39 ?_
    refine z_aload_n (x := x0) rfl dX12_which_41 ?_
    obtain ⟨a1, h1, h⟩ := zbind h
    refine z_gN hC fs_X12_7 h1 dX12_which_42 ?_
    refine z_bipush 6 (by decide) dX12_which_45 ?_
    obtain ⟨v1, h2, h⟩ := zbind h
    refine z_rI h2 dX12_which_47 ?_
    refine z_icmp_ge (tgt := 82) dX12_which_48 (by decide) (fun c1 => ?_) (fun c1 => ?_)
    · have h := zift h c1
      refine z_iload (x := x4) rfl dX12_which_82 ?_
      obtain rfl := Option.some.inj h
      exact z_iret ⟨.int, rfl, rfl⟩ dX12_which_84
    · have h := zife h c1
      refine z_iload (x := x4) rfl dX12_which_51 ?_
      refine z_aload_n (x := x0) rfl dX12_which_53 ?_
      refine z_iload (x := x5) rfl dX12_which_54 ?_
      refine z_iload_n (x := x1) rfl dX12_which_56 ?_
      refine z_iload_n (x := x2) rfl dX12_which_57 ?_
      refine z_iload_n (x := x3) rfl dX12_which_58 ?_
      obtain ⟨_, hb, h⟩ := zbind h
      obtain ⟨fs, hb⟩ := zob_some hb
      obtain ⟨q1, h3, h⟩ := zbind h
      refine z_callV (av := [.int x5, .int x1, .int x2, .int x3]) (rest := [.int x4]) hC zcl_12 hb (s_X12_begins hC h3) lk_X12_207 im_X12_begins se_X12_begins cd_X12_begins ⟨by decide, by decide, (Nat.le_of_ble_eq_true rfl)⟩ dX12_which_59 ?_
      clear hb fs
      refine zeqS (stk2 := [.int q1.1, .int x4]) rfl ?_
      refine z_if_eq (tgt := 72) dX12_which_62 (by decide) (fun c2 => ?_) (fun c2 => ?_)
      · have h := zift h c2
        refine z_iconst 0 (by decide) dX12_which_72 ?_
        refine zweak [true, true, true, true, false, true] ?_
        exact s_X12_which_b73 hC ih _ _ _ _ _ _ _ _ _ h
      · have h := zife h c2
        refine z_iconst 1 (by decide) dX12_which_65 ?_
        refine z_iload (x := x5) rfl dX12_which_66 ?_
        refine z_ishl dX12_which_68 ?_
        refine z_goto (tgt := 73) dX12_which_69 (by decide) ?_
        refine zweak [true, true, true, true, false, true] ?_
        exact s_X12_which_b73 hC ih _ _ _ _ _ _ _ _ _ h
def f_X12_which_b28  (x0 : Nat) (M : zMe) : Option (Int32 × zMe) :=
  (zob M x0 12).bind fun _ =>
  (f_X12_bad x0 M).bind fun q1 =>
  some (q1.1, q1.2)
set_option maxHeartbeats 4000000 in
set_option maxRecDepth 100000 in
theorem s_X12_which_b28 {g : zG} (hC : zC g)  (x0 : Nat) (M : zMe) (q : (Int32 × zMe)) (h : f_X12_which_b28  x0 M = some q) : zW g mX12_which 28 [.ref x0, .retAddr 0, .retAddr 0, .retAddr 0, .retAddr 0, .retAddr 0] [] M (some (.int q.1)) q.2 := by
  unfold f_X12_which_b28 at h
  refine z_aload_n (x := x0) rfl dX12_which_28 ?_
  obtain ⟨_, hb, h⟩ := zbind h
  obtain ⟨fs, hb⟩ := zob_some hb
  obtain ⟨q1, h1, h⟩ := zbind h
  refine z_callV (av := []) (rest := []) hC zcl_12 hb (s_X12_bad hC h1) lk_X12_61 im_X12_bad se_X12_bad cd_X12_bad ⟨by decide, by decide, (Nat.le_of_ble_eq_true rfl)⟩ dX12_which_29 ?_
  clear hb fs
  refine zeqS (stk2 := [.int q1.1]) rfl ?_
  obtain rfl := Option.some.inj h
  exact z_iret ⟨.int, rfl, rfl⟩ dX12_which_32
def f_X12_which (x0 : Nat) (x1 : Int32) (x2 : Int32) (x3 : Int32) (M : zMe) : Option (Int32 × zMe) :=
  (f_X12_in x2 1 16 M).bind fun q1 =>
  if q1.1 = 0 then (
    f_X12_which_b28 x0 q1.2)
  else (
    (zob q1.2 x0 12).bind fun _ =>
    (f_X12_isTune x0 x1 x2 q1.2).bind fun q2 =>
    if q2.1 = 0 then (
      f_X12_which_b28 x0 q2.2)
    else (
      (zob q2.2 x0 12).bind fun _ =>
      (f_X12_isTune x0 x3 x2 q2.2).bind fun q3 =>
      if q3.1 = 0 then (
        f_X12_which_b28 x0 q3.2)
      else (
        f_X12_which_b39 zfu x0 x1 x2 x3 0 0 q3.2)))
set_option maxHeartbeats 4000000 in
set_option maxRecDepth 100000 in
theorem s_X12_which {g : zG} (hC : zC g) {x0 : Nat} {x1 : Int32} {x2 : Int32} {x3 : Int32} {M : zMe} {q : (Int32 × zMe)} (h : f_X12_which x0 x1 x2 x3 M = some q) : zMet g yX12_which mX12_which [.ref x0, .int x1, .int x2, .int x3] M (some (.int q.1)) q.2 := by
  refine z_entry (by decide +kernel) rfl rfl (Nat.le_of_ble_eq_true rfl) ?_
  refine zeqL (L2 := [.ref x0, .int x1, .int x2, .int x3, .retAddr 0, .retAddr 0]) rfl ?_
  unfold f_X12_which at h
  refine z_iload_n (x := x2) rfl dX12_which_0 ?_
  refine z_iconst 1 (by decide) dX12_which_1 ?_
  refine z_bipush 16 (by decide) dX12_which_2 ?_
  obtain ⟨q1, h1, h⟩ := zbind h
  refine z_callS (av := [.int x2, .int 1, .int 16]) (rest := []) hC (s_X12_in hC h1) lk_X12_57 st_X12_in cd_X12_in ⟨by decide, by decide, (Nat.le_of_ble_eq_true rfl)⟩ dX12_which_4 ?_
  refine zeqS (stk2 := [.int q1.1]) rfl ?_
  refine z_if_eq (tgt := 28) dX12_which_7 (by decide) (fun c1 => ?_) (fun c1 => ?_)
  · have h := zift h c1
    refine zweak [true, false, false, false, false, false] ?_
    exact s_X12_which_b28 hC _ _ _ h
  · have h := zife h c1
    refine z_aload_n (x := x0) rfl dX12_which_10 ?_
    refine z_iload_n (x := x1) rfl dX12_which_11 ?_
    refine z_iload_n (x := x2) rfl dX12_which_12 ?_
    obtain ⟨_, hb, h⟩ := zbind h
    obtain ⟨fs, hb⟩ := zob_some hb
    obtain ⟨q2, h2, h⟩ := zbind h
    refine z_callV (av := [.int x1, .int x2]) (rest := []) hC zcl_12 hb (s_X12_isTune hC h2) lk_X12_147 im_X12_isTune se_X12_isTune cd_X12_isTune ⟨by decide, by decide, (Nat.le_of_ble_eq_true rfl)⟩ dX12_which_13 ?_
    clear hb fs
    refine zeqS (stk2 := [.int q2.1]) rfl ?_
    refine z_if_eq (tgt := 28) dX12_which_16 (by decide) (fun c2 => ?_) (fun c2 => ?_)
    · have h := zift h c2
      refine zweak [true, false, false, false, false, false] ?_
      exact s_X12_which_b28 hC _ _ _ h
    · have h := zife h c2
      refine z_aload_n (x := x0) rfl dX12_which_19 ?_
      refine z_iload_n (x := x3) rfl dX12_which_20 ?_
      refine z_iload_n (x := x2) rfl dX12_which_21 ?_
      obtain ⟨_, hb, h⟩ := zbind h
      obtain ⟨fs, hb⟩ := zob_some hb
      obtain ⟨q3, h3, h⟩ := zbind h
      refine z_callV (av := [.int x3, .int x2]) (rest := []) hC zcl_12 hb (s_X12_isTune hC h3) lk_X12_147 im_X12_isTune se_X12_isTune cd_X12_isTune ⟨by decide, by decide, (Nat.le_of_ble_eq_true rfl)⟩ dX12_which_22 ?_
      clear hb fs
      refine zeqS (stk2 := [.int q3.1]) rfl ?_
      refine z_if_ne (tgt := 33) dX12_which_25 (by decide) (fun c3 => ?_) (fun c3 => ?_)
      · have h := zife h c3
        refine z_iconst 0 (by decide) dX12_which_33 ?_
        refine z_istore dX12_which_34 (by decide) ?_
        refine zeqL (L2 := [.ref x0, .int x1, .int x2, .int x3, .int 0, .retAddr 0]) rfl ?_
        refine z_iconst 0 (by decide) dX12_which_36 ?_
        refine z_istore dX12_which_37 (by decide) ?_
        refine zeqL (L2 := [.ref x0, .int x1, .int x2, .int x3, .int 0, .int 0]) rfl ?_
        exact s_X12_which_b39 hC _ _ _ _ _ _ _ _ _ h
      · have h := zift h c3
        refine zweak [true, false, false, false, false, false] ?_
        exact s_X12_which_b28 hC _ _ _ h
def f_X12_starts_b53  (y0 : Int32) (M : zMe) : Option (Int32 × zMe) :=
  some (y0, M)
set_option maxHeartbeats 4000000 in
set_option maxRecDepth 100000 in
theorem s_X12_starts_b53 {g : zG} (hC : zC g)  (y0 : Int32) (M : zMe) (q : (Int32 × zMe)) (h : f_X12_starts_b53  y0 M = some q) : zW g mX12_starts 53 [.retAddr 0, .retAddr 0, .retAddr 0, .retAddr 0, .retAddr 0] [.int y0] M (some (.int q.1)) q.2 := by
  unfold f_X12_starts_b53 at h
  obtain rfl := Option.some.inj h
  exact z_iret ⟨.int, rfl, rfl⟩ dX12_starts_53
def f_X12_starts_b49  (x0 : Nat) (M : zMe) : Option (Int32 × zMe) :=
  (zob M x0 12).bind fun _ =>
  (f_X12_bad x0 M).bind fun q1 =>
  f_X12_starts_b53 q1.1 q1.2
set_option maxHeartbeats 4000000 in
set_option maxRecDepth 100000 in
theorem s_X12_starts_b49 {g : zG} (hC : zC g)  (x0 : Nat) (M : zMe) (q : (Int32 × zMe)) (h : f_X12_starts_b49  x0 M = some q) : zW g mX12_starts 49 [.ref x0, .retAddr 0, .retAddr 0, .retAddr 0, .retAddr 0] [] M (some (.int q.1)) q.2 := by
  unfold f_X12_starts_b49 at h
  refine z_aload_n (x := x0) rfl dX12_starts_49 ?_
  obtain ⟨_, hb, h⟩ := zbind h
  obtain ⟨fs, hb⟩ := zob_some hb
  obtain ⟨q1, h1, h⟩ := zbind h
  refine z_callV (av := []) (rest := []) hC zcl_12 hb (s_X12_bad hC h1) lk_X12_61 im_X12_bad se_X12_bad cd_X12_bad ⟨by decide, by decide, (Nat.le_of_ble_eq_true rfl)⟩ dX12_starts_50 ?_
  clear hb fs
  refine zeqS (stk2 := [.int q1.1]) rfl ?_
  refine zweak [false, false, false, false, false] ?_
  exact s_X12_starts_b53 hC _ _ _ h
def f_X12_starts (x0 : Nat) (x1 : Int32) (x2 : Int32) (x3 : Int32) (x4 : Int32) (M : zMe) : Option (Int32 × zMe) :=
  (zob M x0 12).bind fun _ =>
  (f_X12_isDog x0 x1 M).bind fun q1 =>
  if q1.1 = 0 then (
    f_X12_starts_b49 x0 q1.2)
  else (
    (f_X12_in x3 1 16 q1.2).bind fun q2 =>
    if q2.1 = 0 then (
      f_X12_starts_b49 x0 q2.2)
    else (
      (zob q2.2 x0 12).bind fun _ =>
      (f_X12_isTune x0 x2 x3 q2.2).bind fun q3 =>
      if q3.1 = 0 then (
        f_X12_starts_b49 x0 q3.2)
      else (
        (zob q3.2 x0 12).bind fun _ =>
        (f_X12_isTune x0 x4 x3 q3.2).bind fun q4 =>
        if q4.1 = 0 then (
          f_X12_starts_b49 x0 q4.2)
        else (
          (zob q4.2 x0 12).bind fun _ =>
          (f_X12_begins x0 x1 x2 x3 x4 q4.2).bind fun q5 =>
          f_X12_starts_b53 q5.1 q5.2))))
set_option maxHeartbeats 4000000 in
set_option maxRecDepth 100000 in
theorem s_X12_starts {g : zG} (hC : zC g) {x0 : Nat} {x1 : Int32} {x2 : Int32} {x3 : Int32} {x4 : Int32} {M : zMe} {q : (Int32 × zMe)} (h : f_X12_starts x0 x1 x2 x3 x4 M = some q) : zMet g yX12_starts mX12_starts [.ref x0, .int x1, .int x2, .int x3, .int x4] M (some (.int q.1)) q.2 := by
  refine z_entry (by decide +kernel) rfl rfl (Nat.le_of_ble_eq_true rfl) ?_
  refine zeqL (L2 := [.ref x0, .int x1, .int x2, .int x3, .int x4]) rfl ?_
  unfold f_X12_starts at h
  refine z_aload_n (x := x0) rfl dX12_starts_0 ?_
  refine z_iload_n (x := x1) rfl dX12_starts_1 ?_
  obtain ⟨_, hb, h⟩ := zbind h
  obtain ⟨fs, hb⟩ := zob_some hb
  obtain ⟨q1, h1, h⟩ := zbind h
  refine z_callV (av := [.int x1]) (rest := []) hC zcl_12 hb (s_X12_isDog hC h1) lk_X12_140 im_X12_isDog se_X12_isDog cd_X12_isDog ⟨by decide, by decide, (Nat.le_of_ble_eq_true rfl)⟩ dX12_starts_2 ?_
  clear hb fs
  refine zeqS (stk2 := [.int q1.1]) rfl ?_
  refine z_if_eq (tgt := 49) dX12_starts_5 (by decide) (fun c1 => ?_) (fun c1 => ?_)
  · have h := zift h c1
    refine zweak [true, false, false, false, false] ?_
    exact s_X12_starts_b49 hC _ _ _ h
  · have h := zife h c1
    refine z_iload_n (x := x3) rfl dX12_starts_8 ?_
    refine z_iconst 1 (by decide) dX12_starts_9 ?_
    refine z_bipush 16 (by decide) dX12_starts_10 ?_
    obtain ⟨q2, h2, h⟩ := zbind h
    refine z_callS (av := [.int x3, .int 1, .int 16]) (rest := []) hC (s_X12_in hC h2) lk_X12_57 st_X12_in cd_X12_in ⟨by decide, by decide, (Nat.le_of_ble_eq_true rfl)⟩ dX12_starts_12 ?_
    refine zeqS (stk2 := [.int q2.1]) rfl ?_
    refine z_if_eq (tgt := 49) dX12_starts_15 (by decide) (fun c2 => ?_) (fun c2 => ?_)
    · have h := zift h c2
      refine zweak [true, false, false, false, false] ?_
      exact s_X12_starts_b49 hC _ _ _ h
    · have h := zife h c2
      refine z_aload_n (x := x0) rfl dX12_starts_18 ?_
      refine z_iload_n (x := x2) rfl dX12_starts_19 ?_
      refine z_iload_n (x := x3) rfl dX12_starts_20 ?_
      obtain ⟨_, hb, h⟩ := zbind h
      obtain ⟨fs, hb⟩ := zob_some hb
      obtain ⟨q3, h3, h⟩ := zbind h
      refine z_callV (av := [.int x2, .int x3]) (rest := []) hC zcl_12 hb (s_X12_isTune hC h3) lk_X12_147 im_X12_isTune se_X12_isTune cd_X12_isTune ⟨by decide, by decide, (Nat.le_of_ble_eq_true rfl)⟩ dX12_starts_21 ?_
      clear hb fs
      refine zeqS (stk2 := [.int q3.1]) rfl ?_
      refine z_if_eq (tgt := 49) dX12_starts_24 (by decide) (fun c3 => ?_) (fun c3 => ?_)
      · have h := zift h c3
        refine zweak [true, false, false, false, false] ?_
        exact s_X12_starts_b49 hC _ _ _ h
      · have h := zife h c3
        refine z_aload_n (x := x0) rfl dX12_starts_27 ?_
        refine z_iload (x := x4) rfl dX12_starts_28 ?_
        refine z_iload_n (x := x3) rfl dX12_starts_30 ?_
        obtain ⟨_, hb, h⟩ := zbind h
        obtain ⟨fs, hb⟩ := zob_some hb
        obtain ⟨q4, h4, h⟩ := zbind h
        refine z_callV (av := [.int x4, .int x3]) (rest := []) hC zcl_12 hb (s_X12_isTune hC h4) lk_X12_147 im_X12_isTune se_X12_isTune cd_X12_isTune ⟨by decide, by decide, (Nat.le_of_ble_eq_true rfl)⟩ dX12_starts_31 ?_
        clear hb fs
        refine zeqS (stk2 := [.int q4.1]) rfl ?_
        refine z_if_eq (tgt := 49) dX12_starts_34 (by decide) (fun c4 => ?_) (fun c4 => ?_)
        · have h := zift h c4
          refine zweak [true, false, false, false, false] ?_
          exact s_X12_starts_b49 hC _ _ _ h
        · have h := zife h c4
          refine z_aload_n (x := x0) rfl dX12_starts_37 ?_
          refine z_iload_n (x := x1) rfl dX12_starts_38 ?_
          refine z_iload_n (x := x2) rfl dX12_starts_39 ?_
          refine z_iload_n (x := x3) rfl dX12_starts_40 ?_
          refine z_iload (x := x4) rfl dX12_starts_41 ?_
          obtain ⟨_, hb, h⟩ := zbind h
          obtain ⟨fs, hb⟩ := zob_some hb
          obtain ⟨q5, h5, h⟩ := zbind h
          refine z_callV (av := [.int x1, .int x2, .int x3, .int x4]) (rest := []) hC zcl_12 hb (s_X12_begins hC h5) lk_X12_207 im_X12_begins se_X12_begins cd_X12_begins ⟨by decide, by decide, (Nat.le_of_ble_eq_true rfl)⟩ dX12_starts_43 ?_
          clear hb fs
          refine zeqS (stk2 := [.int q5.1]) rfl ?_
          refine z_goto (tgt := 53) dX12_starts_46 (by decide) ?_
          refine zweak [false, false, false, false, false] ?_
          exact s_X12_starts_b53 hC _ _ _ h
def f_X12_drawn_b243  : Nat → Nat → Int64 → Int64 → Int64 → Int64 → zMe → Option (Int32 × zMe)
  | 0, _, _, _, _, _, _ => none
  | n + 1, x0, x4, x6, x8, x10, M =>
    if (lg_cmp x8 (0 : Int64)) = 0 then (
      if x10 = 0 then none else
      (zpL M x0 [12] 7 (x6 / x10)).bind fun M1 =>
      if x10 = 0 then none else
      (zpL M1 x0 [12] 8 (x4 / x10)).bind fun M2 =>
      some (1, M2))
    else (
      if x8 = 0 then none else
      zlet (x10 - x10 / x8 * x8) fun v1 =>
      f_X12_drawn_b243 n x0 x4 x6 v1 x8 M)
set_option maxHeartbeats 4000000 in
set_option maxRecDepth 100000 in
theorem s_X12_drawn_b243 {g : zG} (hC : zC g)  : ∀ (n : Nat) (x0 : Nat) (x4 : Int64) (x6 : Int64) (x8 : Int64) (x10 : Int64) (M : zMe) (q : (Int32 × zMe)), f_X12_drawn_b243  n x0 x4 x6 x8 x10 M = some q → zW g mX12_drawn 243 [.ref x0, .retAddr 0, .retAddr 0, .retAddr 0, .long x4, .retAddr 0, .long x6, .retAddr 0, .long x8, .retAddr 0, .long x10, .retAddr 0, .retAddr 0, .retAddr 0] [] M (some (.int q.1)) q.2 := by
  intro n
  induction n with
  | zero => intro x0 x4 x6 x8 x10 M q h; cases h
  | succ n ih =>
    intro x0 x4 x6 x8 x10 M q h
    rw [f_X12_drawn_b243] at h
    refine z_lload (x := x8) rfl dX12_drawn_243 ?_
    refine z_lconst (0 : Int64) (by decide) dX12_drawn_245 ?_
    refine z_lcmp dX12_drawn_246 ?_
    refine z_if_eq (tgt := 268) dX12_drawn_247 (by decide) (fun c1 => ?_) (fun c1 => ?_)
    · have h := zift h c1
      refine z_aload_n (x := x0) rfl dX12_drawn_268 ?_
      refine z_lload (x := x6) rfl dX12_drawn_269 ?_
      refine z_lload (x := x10) rfl dX12_drawn_271 ?_
      have hne : ¬ x10 = 0 := fun z => by rw [if_pos z] at h; cases h
      have h := zife h hne
      refine z_ldiv hne dX12_drawn_273 ?_
      obtain ⟨M1, h1, h⟩ := zbind h
      refine z_pL hC fp_X12_212 h1 dX12_drawn_274 ?_
      refine z_aload_n (x := x0) rfl dX12_drawn_277 ?_
      refine z_lload (x := x4) rfl dX12_drawn_278 ?_
      refine z_lload (x := x10) rfl dX12_drawn_280 ?_
      have hne : ¬ x10 = 0 := fun z => by rw [if_pos z] at h; cases h
      have h := zife h hne
      refine z_ldiv hne dX12_drawn_282 ?_
      obtain ⟨M2, h2, h⟩ := zbind h
      refine z_pL hC fp_X12_49 h2 dX12_drawn_283 ?_
      refine z_iconst 1 (by decide) dX12_drawn_286 ?_
      obtain rfl := Option.some.inj h
      exact z_iret ⟨.int, rfl, rfl⟩ dX12_drawn_287
    · have h := zife h c1
      refine z_lload (x := x10) rfl dX12_drawn_250 ?_
      refine z_lload (x := x8) rfl dX12_drawn_252 ?_
      have hne : ¬ x8 = 0 := fun z => by rw [if_pos z] at h; cases h
      have h := zife h hne
      refine z_lrem hne dX12_drawn_254 ?_
      refine z_nameL (fun v1 hv => ?_)
      have h := zlet_use h hv
      clear hv
      refine z_lstore dX12_drawn_255 (by decide) ?_
      refine zeqL (L2 := [.ref x0, .retAddr 0, .retAddr 0, .retAddr 0, .long x4, .retAddr 0, .long x6, .retAddr 0, .long x8, .retAddr 0, .long x10, .retAddr 0, .long v1, .retAddr 0]) rfl ?_
      refine z_lload (x := x8) rfl dX12_drawn_257 ?_
      refine z_lstore dX12_drawn_259 (by decide) ?_
      refine zeqL (L2 := [.ref x0, .retAddr 0, .retAddr 0, .retAddr 0, .long x4, .retAddr 0, .long x6, .retAddr 0, .long x8, .retAddr 0, .long x8, .retAddr 0, .long v1, .retAddr 0]) rfl ?_
      refine z_lload (x := v1) rfl dX12_drawn_261 ?_
      refine z_lstore dX12_drawn_263 (by decide) ?_
      refine zeqL (L2 := [.ref x0, .retAddr 0, .retAddr 0, .retAddr 0, .long x4, .retAddr 0, .long x6, .retAddr 0, .long v1, .retAddr 0, .long x8, .retAddr 0, .long v1, .retAddr 0]) rfl ?_
      refine z_goto (tgt := 243) dX12_drawn_265 (by decide) ?_
      refine zweak [true, false, false, false, true, false, true, false, true, false, true, false, false, false] ?_
      exact ih _ _ _ _ _ _ _ h
def f_X12_drawn_b206  : Nat → Nat → Int64 → Int64 → Int32 → zMe → Option (Int32 × zMe)
  | 0, _, _, _, _, _ => none
  | n + 1, x0, x4, x6, x8, M =>
    (zgN M x0 [12] 0).bind fun a1 =>
    (zrI M a1 0).bind fun v1 =>
    if v1 ≤ x8 then (
      f_X12_drawn_b243 zfu x0 x4 x6 x6 x4 M)
    else (
      (zgN M x0 [12] 20).bind fun a2 =>
      (zrL M a2 x8).bind fun v2 =>
      zlet (x6 + v2 : Int64) fun v3 =>
      zlet (x8 + 1) fun v4 =>
      f_X12_drawn_b206 n x0 x4 v3 v4 M)
set_option maxHeartbeats 4000000 in
set_option maxRecDepth 100000 in
theorem s_X12_drawn_b206 {g : zG} (hC : zC g)  : ∀ (n : Nat) (x0 : Nat) (x4 : Int64) (x6 : Int64) (x8 : Int32) (M : zMe) (q : (Int32 × zMe)), f_X12_drawn_b206  n x0 x4 x6 x8 M = some q → zW g mX12_drawn 206 [.ref x0, .retAddr 0, .retAddr 0, .retAddr 0, .long x4, .retAddr 0, .long x6, .retAddr 0, .int x8, .retAddr 0, .retAddr 0, .retAddr 0, .retAddr 0, .retAddr 0] [] M (some (.int q.1)) q.2 := by
  intro n
  induction n with
  | zero => intro x0 x4 x6 x8 M q h; cases h
  | succ n ih =>
    intro x0 x4 x6 x8 M q h
    rw [f_X12_drawn_b206] at h
    refine z_iload (x := x8) rfl dX12_drawn_206 ?_
    refine z_aload_n (x := x0) rfl dX12_drawn_208 ?_
    obtain ⟨a1, h1, h⟩ := zbind h
    refine z_gN hC fs_X12_7 h1 dX12_drawn_209 ?_
    refine z_iconst 0 (by decide) dX12_drawn_212 ?_
    obtain ⟨v1, h2, h⟩ := zbind h
    refine z_rI h2 dX12_drawn_213 ?_
    refine z_icmp_ge (tgt := 235) dX12_drawn_214 (by decide) (fun c1 => ?_) (fun c1 => ?_)
    · have h := zift h c1
      refine z_lload (x := x6) rfl dX12_drawn_235 ?_
      refine z_lstore dX12_drawn_237 (by decide) ?_
      refine zeqL (L2 := [.ref x0, .retAddr 0, .retAddr 0, .retAddr 0, .long x4, .retAddr 0, .long x6, .retAddr 0, .long x6, .retAddr 0, .retAddr 0, .retAddr 0, .retAddr 0, .retAddr 0]) rfl ?_
      refine z_lload (x := x4) rfl dX12_drawn_239 ?_
      refine z_lstore dX12_drawn_241 (by decide) ?_
      refine zeqL (L2 := [.ref x0, .retAddr 0, .retAddr 0, .retAddr 0, .long x4, .retAddr 0, .long x6, .retAddr 0, .long x6, .retAddr 0, .long x4, .retAddr 0, .retAddr 0, .retAddr 0]) rfl ?_
      exact s_X12_drawn_b243 hC _ _ _ _ _ _ _ _ h
    · have h := zife h c1
      refine z_lload (x := x6) rfl dX12_drawn_217 ?_
      refine z_aload_n (x := x0) rfl dX12_drawn_219 ?_
      obtain ⟨a2, h3, h⟩ := zbind h
      refine z_gN hC fs_X12_45 h3 dX12_drawn_220 ?_
      refine z_iload (x := x8) rfl dX12_drawn_223 ?_
      obtain ⟨v2, h4, h⟩ := zbind h
      refine z_rL h4 dX12_drawn_225 ?_
      refine z_ladd dX12_drawn_226 ?_
      refine z_nameL (fun v3 hv => ?_)
      have h := zlet_use h hv
      clear hv
      refine z_lstore dX12_drawn_227 (by decide) ?_
      refine zeqL (L2 := [.ref x0, .retAddr 0, .retAddr 0, .retAddr 0, .long x4, .retAddr 0, .long v3, .retAddr 0, .int x8, .retAddr 0, .retAddr 0, .retAddr 0, .retAddr 0, .retAddr 0]) rfl ?_
      obtain ⟨v4, hv⟩ : ∃ z : Int32, z = x8 + 1 := ⟨_, rfl⟩
      have h := zlet_use h hv
      refine z_iinc (v := v4) dX12_drawn_229 (x := x8) rfl (by rw [hv]; rfl) ?_
      clear hv
      refine zeqL (L2 := [.ref x0, .retAddr 0, .retAddr 0, .retAddr 0, .long x4, .retAddr 0, .long v3, .retAddr 0, .int v4, .retAddr 0, .retAddr 0, .retAddr 0, .retAddr 0, .retAddr 0]) rfl ?_
      refine z_goto (tgt := 206) dX12_drawn_232 (by decide) ?_
      exact ih _ _ _ _ _ _ h
def f_X12_drawn_b109 (k91 : Nat → Int32 → Int32 → Int64 → Int32 → zMe → Option (Int32 × zMe)) : Nat → Nat → Int32 → Int32 → Int64 → Int32 → Int32 → Int32 → zMe → Option (Int32 × zMe)
  | 0, _, _, _, _, _, _, _, _ => none
  | n + 1, x0, x1, x3, x4, x6, x7, x8, M =>
    (zgN M x0 [12] 0).bind fun a1 =>
    (zrI M a1 0).bind fun v1 =>
    if v1 ≤ x8 then (
      zlet (x4 * (10 : Int64) : Int64) fun v2 =>
      zlet (x6 + (-1)) fun v3 =>
      k91 x0 x1 x3 v2 v3 M)
    else (
      (zgN M x0 [12] 20).bind fun a2 =>
      zlet (x6 - x6 / 2 * 2) fun v4 =>
      (zgN M x0 [12] 20).bind fun a3 =>
      (zob M x0 12).bind fun _ =>
      (f_X12_go x0 x1 x8 1 x6 M).bind fun q1 =>
      (zrL q1.2 a3 (x7 + q1.1)).bind fun v5 =>
      (zgN q1.2 x0 [12] 20).bind fun a4 =>
      (zob q1.2 x0 12).bind fun _ =>
      (f_X12_go x0 x1 x8 0 x6 q1.2).bind fun q2 =>
      (zrL q2.2 a4 (x7 + q2.1)).bind fun v6 =>
      (zwL q2.2 a2 ((5 * v4) + x8) ((x3.toInt64 * v5) + (((10 - x3).toInt64) * v6))).bind fun M1 =>
      zlet (x8 + 1) fun v7 =>
      f_X12_drawn_b109 k91 n x0 x1 x3 x4 x6 x7 v7 M1)
set_option maxHeartbeats 4000000 in
set_option maxRecDepth 100000 in
theorem s_X12_drawn_b109 {g : zG} (hC : zC g) {k91 : Nat → Int32 → Int32 → Int64 → Int32 → zMe → Option (Int32 × zMe)} (hk91 : ∀ (x0 : Nat) (x1 : Int32) (x3 : Int32) (x4 : Int64) (x6 : Int32) (M : zMe) (q : (Int32 × zMe)), k91 x0 x1 x3 x4 x6 M = some q → zW g mX12_drawn 91 [.ref x0, .int x1, .retAddr 0, .int x3, .long x4, .retAddr 0, .int x6, .retAddr 0, .retAddr 0, .retAddr 0, .retAddr 0, .retAddr 0, .retAddr 0, .retAddr 0] [] M (some (.int q.1)) q.2) : ∀ (n : Nat) (x0 : Nat) (x1 : Int32) (x3 : Int32) (x4 : Int64) (x6 : Int32) (x7 : Int32) (x8 : Int32) (M : zMe) (q : (Int32 × zMe)), f_X12_drawn_b109 k91 n x0 x1 x3 x4 x6 x7 x8 M = some q → zW g mX12_drawn 109 [.ref x0, .int x1, .retAddr 0, .int x3, .long x4, .retAddr 0, .int x6, .int x7, .int x8, .retAddr 0, .retAddr 0, .retAddr 0, .retAddr 0, .retAddr 0] [] M (some (.int q.1)) q.2 := by
  intro n
  induction n with
  | zero => intro x0 x1 x3 x4 x6 x7 x8 M q h; cases h
  | succ n ih =>
    intro x0 x1 x3 x4 x6 x7 x8 M q h
    rw [f_X12_drawn_b109] at h
    refine z_iload (x := x8) rfl dX12_drawn_109 ?_
    refine z_aload_n (x := x0) rfl dX12_drawn_111 ?_
    obtain ⟨a1, h1, h⟩ := zbind h
    refine z_gN hC fs_X12_7 h1 dX12_drawn_112 ?_
    refine z_iconst 0 (by decide) dX12_drawn_115 ?_
    obtain ⟨v1, h2, h⟩ := zbind h
    refine z_rI h2 dX12_drawn_116 ?_
    refine z_icmp_ge (tgt := 186) dX12_drawn_117 (by decide) (fun c1 => ?_) (fun c1 => ?_)
    · have h := zift h c1
      refine z_lload (x := x4) rfl dX12_drawn_186 ?_
      refine z_ldc2 hC dX12_drawn_188 kl_X12_210 ?_
      refine z_lmul dX12_drawn_191 ?_
      refine z_nameL (fun v2 hv => ?_)
      have h := zlet_use h hv
      clear hv
      refine z_lstore dX12_drawn_192 (by decide) ?_
      refine zeqL (L2 := [.ref x0, .int x1, .retAddr 0, .int x3, .long v2, .retAddr 0, .int x6, .int x7, .int x8, .retAddr 0, .retAddr 0, .retAddr 0, .retAddr 0, .retAddr 0]) rfl ?_
      obtain ⟨v3, hv⟩ : ∃ z : Int32, z = x6 + (-1) := ⟨_, rfl⟩
      have h := zlet_use h hv
      refine z_iinc (v := v3) dX12_drawn_194 (x := x6) rfl (by rw [hv]; rfl) ?_
      clear hv
      refine zeqL (L2 := [.ref x0, .int x1, .retAddr 0, .int x3, .long v2, .retAddr 0, .int v3, .int x7, .int x8, .retAddr 0, .retAddr 0, .retAddr 0, .retAddr 0, .retAddr 0]) rfl ?_
      refine z_goto (tgt := 91) dX12_drawn_197 (by decide) ?_
      refine zweak [true, true, false, true, true, false, true, false, false, false, false, false, false, false] ?_
      exact hk91 _ _ _ _ _ _ _ h
    · have h := zife h c1
      refine z_aload_n (x := x0) rfl dX12_drawn_120 ?_
      obtain ⟨a2, h3, h⟩ := zbind h
      refine z_gN hC fs_X12_45 h3 dX12_drawn_121 ?_
      refine z_iconst 5 (by decide) dX12_drawn_124 ?_
      refine z_iload (x := x6) rfl dX12_drawn_125 ?_
      refine z_iconst 2 (by decide) dX12_drawn_127 ?_
      refine z_irem (by decide) dX12_drawn_128 ?_
      refine z_nameI (fun v4 hv => ?_)
      have h := zlet_use h hv
      clear hv
      refine z_imul dX12_drawn_129 ?_
      refine z_iload (x := x8) rfl dX12_drawn_130 ?_
      refine z_iadd dX12_drawn_132 ?_
      refine z_iload_n (x := x3) rfl dX12_drawn_133 ?_
      refine z_i2l dX12_drawn_134 ?_
      refine z_aload_n (x := x0) rfl dX12_drawn_135 ?_
      obtain ⟨a3, h4, h⟩ := zbind h
      refine z_gN hC fs_X12_45 h4 dX12_drawn_136 ?_
      refine z_iload (x := x7) rfl dX12_drawn_139 ?_
      refine z_aload_n (x := x0) rfl dX12_drawn_141 ?_
      refine z_iload_n (x := x1) rfl dX12_drawn_142 ?_
      refine z_iload (x := x8) rfl dX12_drawn_143 ?_
      refine z_iconst 1 (by decide) dX12_drawn_145 ?_
      refine z_iload (x := x6) rfl dX12_drawn_146 ?_
      obtain ⟨_, hb, h⟩ := zbind h
      obtain ⟨fs, hb⟩ := zob_some hb
      obtain ⟨q1, h5, h⟩ := zbind h
      refine z_callV (av := [.int x1, .int x8, .int 1, .int x6]) (rest := [.int x7, .ref a3, .long x3.toInt64, .int ((5 * v4) + x8), .ref a2]) hC zcl_12 hb (s_X12_go hC h5) lk_X12_143 im_X12_go se_X12_go cd_X12_go ⟨by decide, by decide, (Nat.le_of_ble_eq_true rfl)⟩ dX12_drawn_148 ?_
      clear hb fs
      refine zeqS (stk2 := [.int q1.1, .int x7, .ref a3, .long x3.toInt64, .int ((5 * v4) + x8), .ref a2]) rfl ?_
      refine z_iadd dX12_drawn_151 ?_
      obtain ⟨v5, h6, h⟩ := zbind h
      refine z_rL h6 dX12_drawn_152 ?_
      refine z_lmul dX12_drawn_153 ?_
      refine z_bipush 10 (by decide) dX12_drawn_154 ?_
      refine z_iload_n (x := x3) rfl dX12_drawn_156 ?_
      refine z_isub dX12_drawn_157 ?_
      refine z_i2l dX12_drawn_158 ?_
      refine z_aload_n (x := x0) rfl dX12_drawn_159 ?_
      obtain ⟨a4, h7, h⟩ := zbind h
      refine z_gN hC fs_X12_45 h7 dX12_drawn_160 ?_
      refine z_iload (x := x7) rfl dX12_drawn_163 ?_
      refine z_aload_n (x := x0) rfl dX12_drawn_165 ?_
      refine z_iload_n (x := x1) rfl dX12_drawn_166 ?_
      refine z_iload (x := x8) rfl dX12_drawn_167 ?_
      refine z_iconst 0 (by decide) dX12_drawn_169 ?_
      refine z_iload (x := x6) rfl dX12_drawn_170 ?_
      obtain ⟨_, hb, h⟩ := zbind h
      obtain ⟨fs, hb⟩ := zob_some hb
      obtain ⟨q2, h8, h⟩ := zbind h
      refine z_callV (av := [.int x1, .int x8, .int 0, .int x6]) (rest := [.int x7, .ref a4, .long ((10 - x3).toInt64), .long (x3.toInt64 * v5), .int ((5 * v4) + x8), .ref a2]) hC zcl_12 hb (s_X12_go hC h8) lk_X12_143 im_X12_go se_X12_go cd_X12_go ⟨by decide, by decide, (Nat.le_of_ble_eq_true rfl)⟩ dX12_drawn_172 ?_
      clear hb fs
      refine zeqS (stk2 := [.int q2.1, .int x7, .ref a4, .long ((10 - x3).toInt64), .long (x3.toInt64 * v5), .int ((5 * v4) + x8), .ref a2]) rfl ?_
      refine z_iadd dX12_drawn_175 ?_
      obtain ⟨v6, h9, h⟩ := zbind h
      refine z_rL h9 dX12_drawn_176 ?_
      refine z_lmul dX12_drawn_177 ?_
      refine z_ladd dX12_drawn_178 ?_
      obtain ⟨M1, h10, h⟩ := zbind h
      refine z_wL h10 dX12_drawn_179 ?_
      obtain ⟨v7, hv⟩ : ∃ z : Int32, z = x8 + 1 := ⟨_, rfl⟩
      have h := zlet_use h hv
      refine z_iinc (v := v7) dX12_drawn_180 (x := x8) rfl (by rw [hv]; rfl) ?_
      clear hv
      refine zeqL (L2 := [.ref x0, .int x1, .retAddr 0, .int x3, .long x4, .retAddr 0, .int x6, .int x7, .int v7, .retAddr 0, .retAddr 0, .retAddr 0, .retAddr 0, .retAddr 0]) rfl ?_
      refine z_goto (tgt := 109) dX12_drawn_183 (by decide) ?_
      exact ih _ _ _ _ _ _ _ _ _ h
def f_X12_drawn_b91  : Nat → Nat → Int32 → Int32 → Int64 → Int32 → zMe → Option (Int32 × zMe)
  | 0, _, _, _, _, _, _ => none
  | n + 1, x0, x1, x3, x4, x6, M =>
    if x6 < 0 then (
      f_X12_drawn_b206 zfu x0 x4 (0 : Int64) 0 M)
    else (
      zlet ((x6 + 1) - (x6 + 1) / 2 * 2) fun v1 =>
      zlet (5 * v1 : Int32) fun v2 =>
      f_X12_drawn_b109 (f_X12_drawn_b91 n) zfu x0 x1 x3 x4 x6 v2 0 M)
set_option maxHeartbeats 4000000 in
set_option maxRecDepth 100000 in
theorem s_X12_drawn_b91 {g : zG} (hC : zC g)  : ∀ (n : Nat) (x0 : Nat) (x1 : Int32) (x3 : Int32) (x4 : Int64) (x6 : Int32) (M : zMe) (q : (Int32 × zMe)), f_X12_drawn_b91  n x0 x1 x3 x4 x6 M = some q → zW g mX12_drawn 91 [.ref x0, .int x1, .retAddr 0, .int x3, .long x4, .retAddr 0, .int x6, .retAddr 0, .retAddr 0, .retAddr 0, .retAddr 0, .retAddr 0, .retAddr 0, .retAddr 0] [] M (some (.int q.1)) q.2 := by
  intro n
  induction n with
  | zero => intro x0 x1 x3 x4 x6 M q h; cases h
  | succ n ih =>
    intro x0 x1 x3 x4 x6 M q h
    rw [f_X12_drawn_b91] at h
    refine z_iload (x := x6) rfl dX12_drawn_91 ?_
    refine z_if_lt (tgt := 200) dX12_drawn_93 (by decide) (fun c1 => ?_) (fun c1 => ?_)
    · have h := zift h c1
      refine z_lconst (0 : Int64) (by decide) dX12_drawn_200 ?_
      refine z_lstore dX12_drawn_201 (by decide) ?_
      refine zeqL (L2 := [.ref x0, .int x1, .retAddr 0, .int x3, .long x4, .retAddr 0, .long (0 : Int64), .retAddr 0, .retAddr 0, .retAddr 0, .retAddr 0, .retAddr 0, .retAddr 0, .retAddr 0]) rfl ?_
      refine z_iconst 0 (by decide) dX12_drawn_203 ?_
      refine z_istore dX12_drawn_204 (by decide) ?_
      refine zeqL (L2 := [.ref x0, .int x1, .retAddr 0, .int x3, .long x4, .retAddr 0, .long (0 : Int64), .retAddr 0, .int 0, .retAddr 0, .retAddr 0, .retAddr 0, .retAddr 0, .retAddr 0]) rfl ?_
      refine zweak [true, false, false, false, true, false, true, false, true, false, false, false, false, false] ?_
      exact s_X12_drawn_b206 hC _ _ _ _ _ _ _ h
    · have h := zife h c1
      refine z_iconst 5 (by decide) dX12_drawn_96 ?_
      refine z_iload (x := x6) rfl dX12_drawn_97 ?_
      refine z_iconst 1 (by decide) dX12_drawn_99 ?_
      refine z_iadd dX12_drawn_100 ?_
      refine z_iconst 2 (by decide) dX12_drawn_101 ?_
      refine z_irem (by decide) dX12_drawn_102 ?_
      refine z_nameI (fun v1 hv => ?_)
      have h := zlet_use h hv
      clear hv
      refine z_imul dX12_drawn_103 ?_
      refine z_nameI (fun v2 hv => ?_)
      have h := zlet_use h hv
      clear hv
      refine z_istore dX12_drawn_104 (by decide) ?_
      refine zeqL (L2 := [.ref x0, .int x1, .retAddr 0, .int x3, .long x4, .retAddr 0, .int x6, .int v2, .retAddr 0, .retAddr 0, .retAddr 0, .retAddr 0, .retAddr 0, .retAddr 0]) rfl ?_
      refine z_iconst 0 (by decide) dX12_drawn_106 ?_
      refine z_istore dX12_drawn_107 (by decide) ?_
      refine zeqL (L2 := [.ref x0, .int x1, .retAddr 0, .int x3, .long x4, .retAddr 0, .int x6, .int v2, .int 0, .retAddr 0, .retAddr 0, .retAddr 0, .retAddr 0, .retAddr 0]) rfl ?_
      exact s_X12_drawn_b109 hC ih _ _ _ _ _ _ _ _ _ _ h
def f_X12_drawn_b70 (k36 : Nat → Int32 → Int32 → Int32 → Int32 → zMe → Option (Int32 × zMe)) (x0 : Nat) (x1 : Int32) (x2 : Int32) (x3 : Int32) (x4 : Int32) (y0 : Int64) (y1 : Int32) (y2 : Nat) (M : zMe) : Option (Int32 × zMe) :=
  (zwL M y2 y1 y0).bind fun M1 =>
  zlet (x4 + 1) fun v1 =>
  k36 x0 x1 x2 x3 v1 M1
set_option maxHeartbeats 4000000 in
set_option maxRecDepth 100000 in
theorem s_X12_drawn_b70 {g : zG} (hC : zC g) {k36 : Nat → Int32 → Int32 → Int32 → Int32 → zMe → Option (Int32 × zMe)} (hk36 : ∀ (x0 : Nat) (x1 : Int32) (x2 : Int32) (x3 : Int32) (x4 : Int32) (M : zMe) (q : (Int32 × zMe)), k36 x0 x1 x2 x3 x4 M = some q → zW g mX12_drawn 36 [.ref x0, .int x1, .int x2, .int x3, .int x4, .retAddr 0, .retAddr 0, .retAddr 0, .retAddr 0, .retAddr 0, .retAddr 0, .retAddr 0, .retAddr 0, .retAddr 0] [] M (some (.int q.1)) q.2) (x0 : Nat) (x1 : Int32) (x2 : Int32) (x3 : Int32) (x4 : Int32) (y0 : Int64) (y1 : Int32) (y2 : Nat) (M : zMe) (q : (Int32 × zMe)) (h : f_X12_drawn_b70 k36 x0 x1 x2 x3 x4 y0 y1 y2 M = some q) : zW g mX12_drawn 70 [.ref x0, .int x1, .int x2, .int x3, .int x4, .retAddr 0, .retAddr 0, .retAddr 0, .retAddr 0, .retAddr 0, .retAddr 0, .retAddr 0, .retAddr 0, .retAddr 0] [.long y0, .int y1, .ref y2] M (some (.int q.1)) q.2 := by
  unfold f_X12_drawn_b70 at h
  obtain ⟨M1, h1, h⟩ := zbind h
  refine z_wL h1 dX12_drawn_70 ?_
  obtain ⟨v1, hv⟩ : ∃ z : Int32, z = x4 + 1 := ⟨_, rfl⟩
  have h := zlet_use h hv
  refine z_iinc (v := v1) dX12_drawn_71 (x := x4) rfl (by rw [hv]; rfl) ?_
  clear hv
  refine zeqL (L2 := [.ref x0, .int x1, .int x2, .int x3, .int v1, .retAddr 0, .retAddr 0, .retAddr 0, .retAddr 0, .retAddr 0, .retAddr 0, .retAddr 0, .retAddr 0, .retAddr 0]) rfl ?_
  refine z_goto (tgt := 36) dX12_drawn_74 (by decide) ?_
  exact hk36 _ _ _ _ _ _ _ h
def f_X12_drawn_b36  : Nat → Nat → Int32 → Int32 → Int32 → Int32 → zMe → Option (Int32 × zMe)
  | 0, _, _, _, _, _, _ => none
  | n + 1, x0, x1, x2, x3, x4, M =>
    if 5 ≤ x4 then (
      (zgN M x0 [12] 0).bind fun a1 =>
      (zrI M a1 0).bind fun v1 =>
      zlet (x2 - 1 : Int32) fun v2 =>
      f_X12_drawn_b91 zfu x0 x1 x3 v1.toInt64 v2 M)
    else (
      (zgN M x0 [12] 20).bind fun a2 =>
      zlet (x2 - x2 / 2 * 2) fun v3 =>
      (zgN M x0 [12] 0).bind fun a3 =>
      (zrI M a3 2).bind fun v4 =>
      if x4 = v4 then (
        f_X12_drawn_b70 (f_X12_drawn_b36 n) x0 x1 x2 x3 x4 (1 : Int64) ((5 * v3) + x4) a2 M)
      else (
        f_X12_drawn_b70 (f_X12_drawn_b36 n) x0 x1 x2 x3 x4 (0 : Int64) ((5 * v3) + x4) a2 M))
set_option maxHeartbeats 4000000 in
set_option maxRecDepth 100000 in
theorem s_X12_drawn_b36 {g : zG} (hC : zC g)  : ∀ (n : Nat) (x0 : Nat) (x1 : Int32) (x2 : Int32) (x3 : Int32) (x4 : Int32) (M : zMe) (q : (Int32 × zMe)), f_X12_drawn_b36  n x0 x1 x2 x3 x4 M = some q → zW g mX12_drawn 36 [.ref x0, .int x1, .int x2, .int x3, .int x4, .retAddr 0, .retAddr 0, .retAddr 0, .retAddr 0, .retAddr 0, .retAddr 0, .retAddr 0, .retAddr 0, .retAddr 0] [] M (some (.int q.1)) q.2 := by
  intro n
  induction n with
  | zero => intro x0 x1 x2 x3 x4 M q h; cases h
  | succ n ih =>
    intro x0 x1 x2 x3 x4 M q h
    rw [f_X12_drawn_b36] at h
    refine z_iload (x := x4) rfl dX12_drawn_36 ?_
    refine z_iconst 5 (by decide) dX12_drawn_38 ?_
    refine z_icmp_ge (tgt := 77) dX12_drawn_39 (by decide) (fun c1 => ?_) (fun c1 => ?_)
    · have h := zift h c1
      refine z_aload_n (x := x0) rfl dX12_drawn_77 ?_
      obtain ⟨a1, h1, h⟩ := zbind h
      refine z_gN hC fs_X12_7 h1 dX12_drawn_78 ?_
      refine z_iconst 0 (by decide) dX12_drawn_81 ?_
      obtain ⟨v1, h2, h⟩ := zbind h
      refine z_rI h2 dX12_drawn_82 ?_
      refine z_i2l dX12_drawn_83 ?_
      refine z_lstore dX12_drawn_84 (by decide) ?_
      refine zeqL (L2 := [.ref x0, .int x1, .int x2, .int x3, .long v1.toInt64, .retAddr 0, .retAddr 0, .retAddr 0, .retAddr 0, .retAddr 0, .retAddr 0, .retAddr 0, .retAddr 0, .retAddr 0]) rfl ?_
      refine z_iload_n (x := x2) rfl dX12_drawn_86 ?_
      refine z_iconst 1 (by decide) dX12_drawn_87 ?_
      refine z_isub dX12_drawn_88 ?_
      refine z_nameI (fun v2 hv => ?_)
      have h := zlet_use h hv
      clear hv
      refine z_istore dX12_drawn_89 (by decide) ?_
      refine zeqL (L2 := [.ref x0, .int x1, .int x2, .int x3, .long v1.toInt64, .retAddr 0, .int v2, .retAddr 0, .retAddr 0, .retAddr 0, .retAddr 0, .retAddr 0, .retAddr 0, .retAddr 0]) rfl ?_
      refine zweak [true, true, false, true, true, false, true, false, false, false, false, false, false, false] ?_
      exact s_X12_drawn_b91 hC _ _ _ _ _ _ _ _ h
    · have h := zife h c1
      refine z_aload_n (x := x0) rfl dX12_drawn_42 ?_
      obtain ⟨a2, h3, h⟩ := zbind h
      refine z_gN hC fs_X12_45 h3 dX12_drawn_43 ?_
      refine z_iconst 5 (by decide) dX12_drawn_46 ?_
      refine z_iload_n (x := x2) rfl dX12_drawn_47 ?_
      refine z_iconst 2 (by decide) dX12_drawn_48 ?_
      refine z_irem (by decide) dX12_drawn_49 ?_
      refine z_nameI (fun v3 hv => ?_)
      have h := zlet_use h hv
      clear hv
      refine z_imul dX12_drawn_50 ?_
      refine z_iload (x := x4) rfl dX12_drawn_51 ?_
      refine z_iadd dX12_drawn_53 ?_
      refine z_iload (x := x4) rfl dX12_drawn_54 ?_
      refine z_aload_n (x := x0) rfl dX12_drawn_56 ?_
      obtain ⟨a3, h4, h⟩ := zbind h
      refine z_gN hC fs_X12_7 h4 dX12_drawn_57 ?_
      refine z_iconst 2 (by decide) dX12_drawn_60 ?_
      obtain ⟨v4, h5, h⟩ := zbind h
      refine z_rI h5 dX12_drawn_61 ?_
      refine z_icmp_ne (tgt := 69) dX12_drawn_62 (by decide) (fun c2 => ?_) (fun c2 => ?_)
      · have h := zife h c2
        refine z_lconst (0 : Int64) (by decide) dX12_drawn_69 ?_
        exact s_X12_drawn_b70 hC ih _ _ _ _ _ _ _ _ _ _ h
      · have h := zift h c2
        refine z_lconst (1 : Int64) (by decide) dX12_drawn_65 ?_
        refine z_goto (tgt := 70) dX12_drawn_66 (by decide) ?_
        exact s_X12_drawn_b70 hC ih _ _ _ _ _ _ _ _ _ _ h
def f_X12_drawn_b28  (x0 : Nat) (M : zMe) : Option (Int32 × zMe) :=
  (zob M x0 12).bind fun _ =>
  (f_X12_bad x0 M).bind fun q1 =>
  some (q1.1, q1.2)
set_option maxHeartbeats 4000000 in
set_option maxRecDepth 100000 in
theorem s_X12_drawn_b28 {g : zG} (hC : zC g)  (x0 : Nat) (M : zMe) (q : (Int32 × zMe)) (h : f_X12_drawn_b28  x0 M = some q) : zW g mX12_drawn 28 [.ref x0, .retAddr 0, .retAddr 0, .retAddr 0, .retAddr 0, .retAddr 0, .retAddr 0, .retAddr 0, .retAddr 0, .retAddr 0, .retAddr 0, .retAddr 0, .retAddr 0, .retAddr 0] [] M (some (.int q.1)) q.2 := by
  unfold f_X12_drawn_b28 at h
  refine z_aload_n (x := x0) rfl dX12_drawn_28 ?_
  obtain ⟨_, hb, h⟩ := zbind h
  obtain ⟨fs, hb⟩ := zob_some hb
  obtain ⟨q1, h1, h⟩ := zbind h
  refine z_callV (av := []) (rest := []) hC zcl_12 hb (s_X12_bad hC h1) lk_X12_61 im_X12_bad se_X12_bad cd_X12_bad ⟨by decide, by decide, (Nat.le_of_ble_eq_true rfl)⟩ dX12_drawn_29 ?_
  clear hb fs
  refine zeqS (stk2 := [.int q1.1]) rfl ?_
  obtain rfl := Option.some.inj h
  exact z_iret ⟨.int, rfl, rfl⟩ dX12_drawn_32
def f_X12_drawn (x0 : Nat) (x1 : Int32) (x2 : Int32) (x3 : Int32) (M : zMe) : Option (Int32 × zMe) :=
  (zob M x0 12).bind fun _ =>
  (f_X12_isDog x0 x1 M).bind fun q1 =>
  if q1.1 = 0 then (
    f_X12_drawn_b28 x0 q1.2)
  else (
    (f_X12_in x2 0 12 q1.2).bind fun q2 =>
    if q2.1 = 0 then (
      f_X12_drawn_b28 x0 q2.2)
    else (
      (f_X12_in x3 0 10 q2.2).bind fun q3 =>
      if q3.1 = 0 then (
        f_X12_drawn_b28 x0 q3.2)
      else (
        f_X12_drawn_b36 zfu x0 x1 x2 x3 0 q3.2)))
set_option maxHeartbeats 4000000 in
set_option maxRecDepth 100000 in
theorem s_X12_drawn {g : zG} (hC : zC g) {x0 : Nat} {x1 : Int32} {x2 : Int32} {x3 : Int32} {M : zMe} {q : (Int32 × zMe)} (h : f_X12_drawn x0 x1 x2 x3 M = some q) : zMet g yX12_drawn mX12_drawn [.ref x0, .int x1, .int x2, .int x3] M (some (.int q.1)) q.2 := by
  refine z_entry (by decide +kernel) rfl rfl (Nat.le_of_ble_eq_true rfl) ?_
  refine zeqL (L2 := [.ref x0, .int x1, .int x2, .int x3, .retAddr 0, .retAddr 0, .retAddr 0, .retAddr 0, .retAddr 0, .retAddr 0, .retAddr 0, .retAddr 0, .retAddr 0, .retAddr 0]) rfl ?_
  unfold f_X12_drawn at h
  refine z_aload_n (x := x0) rfl dX12_drawn_0 ?_
  refine z_iload_n (x := x1) rfl dX12_drawn_1 ?_
  obtain ⟨_, hb, h⟩ := zbind h
  obtain ⟨fs, hb⟩ := zob_some hb
  obtain ⟨q1, h1, h⟩ := zbind h
  refine z_callV (av := [.int x1]) (rest := []) hC zcl_12 hb (s_X12_isDog hC h1) lk_X12_140 im_X12_isDog se_X12_isDog cd_X12_isDog ⟨by decide, by decide, (Nat.le_of_ble_eq_true rfl)⟩ dX12_drawn_2 ?_
  clear hb fs
  refine zeqS (stk2 := [.int q1.1]) rfl ?_
  refine z_if_eq (tgt := 28) dX12_drawn_5 (by decide) (fun c1 => ?_) (fun c1 => ?_)
  · have h := zift h c1
    refine zweak [true, false, false, false, false, false, false, false, false, false, false, false, false, false] ?_
    exact s_X12_drawn_b28 hC _ _ _ h
  · have h := zife h c1
    refine z_iload_n (x := x2) rfl dX12_drawn_8 ?_
    refine z_iconst 0 (by decide) dX12_drawn_9 ?_
    refine z_bipush 12 (by decide) dX12_drawn_10 ?_
    obtain ⟨q2, h2, h⟩ := zbind h
    refine z_callS (av := [.int x2, .int 0, .int 12]) (rest := []) hC (s_X12_in hC h2) lk_X12_57 st_X12_in cd_X12_in ⟨by decide, by decide, (Nat.le_of_ble_eq_true rfl)⟩ dX12_drawn_12 ?_
    refine zeqS (stk2 := [.int q2.1]) rfl ?_
    refine z_if_eq (tgt := 28) dX12_drawn_15 (by decide) (fun c2 => ?_) (fun c2 => ?_)
    · have h := zift h c2
      refine zweak [true, false, false, false, false, false, false, false, false, false, false, false, false, false] ?_
      exact s_X12_drawn_b28 hC _ _ _ h
    · have h := zife h c2
      refine z_iload_n (x := x3) rfl dX12_drawn_18 ?_
      refine z_iconst 0 (by decide) dX12_drawn_19 ?_
      refine z_bipush 10 (by decide) dX12_drawn_20 ?_
      obtain ⟨q3, h3, h⟩ := zbind h
      refine z_callS (av := [.int x3, .int 0, .int 10]) (rest := []) hC (s_X12_in hC h3) lk_X12_57 st_X12_in cd_X12_in ⟨by decide, by decide, (Nat.le_of_ble_eq_true rfl)⟩ dX12_drawn_22 ?_
      refine zeqS (stk2 := [.int q3.1]) rfl ?_
      refine z_if_ne (tgt := 33) dX12_drawn_25 (by decide) (fun c3 => ?_) (fun c3 => ?_)
      · have h := zife h c3
        refine z_iconst 0 (by decide) dX12_drawn_33 ?_
        refine z_istore dX12_drawn_34 (by decide) ?_
        refine zeqL (L2 := [.ref x0, .int x1, .int x2, .int x3, .int 0, .retAddr 0, .retAddr 0, .retAddr 0, .retAddr 0, .retAddr 0, .retAddr 0, .retAddr 0, .retAddr 0, .retAddr 0]) rfl ?_
        exact s_X12_drawn_b36 hC _ _ _ _ _ _ _ _ h
      · have h := zift h c3
        refine zweak [true, false, false, false, false, false, false, false, false, false, false, false, false, false] ?_
        exact s_X12_drawn_b28 hC _ _ _ h
def f_X12_part_b28  (y0 : Int64) (M : zMe) : Option (Int64 × zMe) :=
  some (y0, M)
set_option maxHeartbeats 4000000 in
set_option maxRecDepth 100000 in
theorem s_X12_part_b28 {g : zG} (hC : zC g)  (y0 : Int64) (M : zMe) (q : (Int64 × zMe)) (h : f_X12_part_b28  y0 M = some q) : zW g mX12_part 28 [.retAddr 0, .retAddr 0] [.long y0] M (some (.long q.1)) q.2 := by
  unfold f_X12_part_b28 at h
  obtain rfl := Option.some.inj h
  exact z_lret rfl dX12_part_28
def f_X12_part (x0 : Nat) (x1 : Int32) (M : zMe) : Option (Int64 × zMe) :=
  if x1 = 0 then (
    (zgL M x0 [12] 7).bind fun v1 =>
    f_X12_part_b28 v1 M)
  else (
    if x1 = 1 then (
      (zgL M x0 [12] 8).bind fun v2 =>
      f_X12_part_b28 v2 M)
    else (
      (zob M x0 12).bind fun _ =>
      (f_X12_bad x0 M).bind fun q1 =>
      f_X12_part_b28 q1.1.toInt64 q1.2))
set_option maxHeartbeats 4000000 in
set_option maxRecDepth 100000 in
theorem s_X12_part {g : zG} (hC : zC g) {x0 : Nat} {x1 : Int32} {M : zMe} {q : (Int64 × zMe)} (h : f_X12_part x0 x1 M = some q) : zMet g yX12_part mX12_part [.ref x0, .int x1] M (some (.long q.1)) q.2 := by
  refine z_entry (by decide +kernel) rfl rfl (Nat.le_of_ble_eq_true rfl) ?_
  refine zeqL (L2 := [.ref x0, .int x1]) rfl ?_
  unfold f_X12_part at h
  refine z_iload_n (x := x1) rfl dX12_part_0 ?_
  refine z_if_ne (tgt := 11) dX12_part_1 (by decide) (fun c1 => ?_) (fun c1 => ?_)
  · have h := zife h c1
    refine z_iload_n (x := x1) rfl dX12_part_11 ?_
    refine z_iconst 1 (by decide) dX12_part_12 ?_
    refine z_icmp_ne (tgt := 23) dX12_part_13 (by decide) (fun c2 => ?_) (fun c2 => ?_)
    · have h := zife h c2
      refine z_aload_n (x := x0) rfl dX12_part_23 ?_
      obtain ⟨_, hb, h⟩ := zbind h
      obtain ⟨fs, hb⟩ := zob_some hb
      obtain ⟨q1, h3, h⟩ := zbind h
      refine z_callV (av := []) (rest := []) hC zcl_12 hb (s_X12_bad hC h3) lk_X12_61 im_X12_bad se_X12_bad cd_X12_bad ⟨by decide, by decide, (Nat.le_of_ble_eq_true rfl)⟩ dX12_part_24 ?_
      clear hb fs
      refine zeqS (stk2 := [.int q1.1]) rfl ?_
      refine z_i2l dX12_part_27 ?_
      refine zweak [false, false] ?_
      exact s_X12_part_b28 hC _ _ _ h
    · have h := zift h c2
      refine z_aload_n (x := x0) rfl dX12_part_16 ?_
      obtain ⟨v2, h2, h⟩ := zbind h
      refine z_gL hC fs_X12_49 h2 dX12_part_17 ?_
      refine z_goto (tgt := 28) dX12_part_20 (by decide) ?_
      refine zweak [false, false] ?_
      exact s_X12_part_b28 hC _ _ _ h
  · have h := zift h c1
    refine z_aload_n (x := x0) rfl dX12_part_4 ?_
    obtain ⟨v1, h1, h⟩ := zbind h
    refine z_gL hC fs_X12_212 h1 dX12_part_5 ?_
    refine z_goto (tgt := 28) dX12_part_8 (by decide) ?_
    refine zweak [false, false] ?_
    exact s_X12_part_b28 hC _ _ _ h
def f_X12_image_b16  : Nat → Nat → Int32 → Int32 → zMe → Option (Int32 × zMe)
  | 0, _, _, _, _ => none
  | n + 1, x0, x1, x2, M =>
    if 25 ≤ x2 then (
      (zgN M x0 [12] 3).bind fun a1 =>
      (zwZ M a1 x1 1).bind fun M1 =>
      some (1, M1))
    else (
      (zgN M x0 [12] 2).bind fun a2 =>
      (zgN M x0 [12] 0).bind fun a3 =>
      (zrI M a3 x2).bind fun v1 =>
      (zwI M a2 ((25 * x1) + x2) v1).bind fun M2 =>
      zlet (x2 + 1) fun v2 =>
      f_X12_image_b16 n x0 x1 v2 M2)
set_option maxHeartbeats 4000000 in
set_option maxRecDepth 100000 in
theorem s_X12_image_b16 {g : zG} (hC : zC g)  : ∀ (n : Nat) (x0 : Nat) (x1 : Int32) (x2 : Int32) (M : zMe) (q : (Int32 × zMe)), f_X12_image_b16  n x0 x1 x2 M = some q → zW g mX12_image 16 [.ref x0, .int x1, .int x2] [] M (some (.int q.1)) q.2 := by
  intro n
  induction n with
  | zero => intro x0 x1 x2 M q h; cases h
  | succ n ih =>
    intro x0 x1 x2 M q h
    rw [f_X12_image_b16] at h
    refine z_iload_n (x := x2) rfl dX12_image_16 ?_
    refine z_bipush 25 (by decide) dX12_image_17 ?_
    refine z_icmp_ge (tgt := 45) dX12_image_19 (by decide) (fun c1 => ?_) (fun c1 => ?_)
    · have h := zift h c1
      refine z_aload_n (x := x0) rfl dX12_image_45 ?_
      obtain ⟨a1, h1, h⟩ := zbind h
      refine z_gN hC fs_X12_19 h1 dX12_image_46 ?_
      refine z_iload_n (x := x1) rfl dX12_image_49 ?_
      refine z_iconst 1 (by decide) dX12_image_50 ?_
      obtain ⟨M1, h2, h⟩ := zbind h
      refine z_wZ h2 dX12_image_51 ?_
      refine z_iconst 1 (by decide) dX12_image_52 ?_
      obtain rfl := Option.some.inj h
      exact z_iret ⟨.int, rfl, rfl⟩ dX12_image_53
    · have h := zife h c1
      refine z_aload_n (x := x0) rfl dX12_image_22 ?_
      obtain ⟨a2, h3, h⟩ := zbind h
      refine z_gN hC fs_X12_16 h3 dX12_image_23 ?_
      refine z_bipush 25 (by decide) dX12_image_26 ?_
      refine z_iload_n (x := x1) rfl dX12_image_28 ?_
      refine z_imul dX12_image_29 ?_
      refine z_iload_n (x := x2) rfl dX12_image_30 ?_
      refine z_iadd dX12_image_31 ?_
      refine z_aload_n (x := x0) rfl dX12_image_32 ?_
      obtain ⟨a3, h4, h⟩ := zbind h
      refine z_gN hC fs_X12_7 h4 dX12_image_33 ?_
      refine z_iload_n (x := x2) rfl dX12_image_36 ?_
      obtain ⟨v1, h5, h⟩ := zbind h
      refine z_rI h5 dX12_image_37 ?_
      obtain ⟨M2, h6, h⟩ := zbind h
      refine z_wI h6 dX12_image_38 ?_
      obtain ⟨v2, hv⟩ : ∃ z : Int32, z = x2 + 1 := ⟨_, rfl⟩
      have h := zlet_use h hv
      refine z_iinc (v := v2) dX12_image_39 (x := x2) rfl (by rw [hv]; rfl) ?_
      clear hv
      refine zeqL (L2 := [.ref x0, .int x1, .int v2]) rfl ?_
      refine z_goto (tgt := 16) dX12_image_42 (by decide) ?_
      exact ih _ _ _ _ _ h
def f_X12_image (x0 : Nat) (x1 : Int32) (M : zMe) : Option (Int32 × zMe) :=
  (f_X12_in x1 0 1 M).bind fun q1 =>
  if q1.1 = 0 then (
    (zob q1.2 x0 12).bind fun _ =>
    (f_X12_bad x0 q1.2).bind fun q2 =>
    some (q2.1, q2.2))
  else (
    f_X12_image_b16 zfu x0 x1 0 q1.2)
set_option maxHeartbeats 4000000 in
set_option maxRecDepth 100000 in
theorem s_X12_image {g : zG} (hC : zC g) {x0 : Nat} {x1 : Int32} {M : zMe} {q : (Int32 × zMe)} (h : f_X12_image x0 x1 M = some q) : zMet g yX12_image mX12_image [.ref x0, .int x1] M (some (.int q.1)) q.2 := by
  refine z_entry (by decide +kernel) rfl rfl (Nat.le_of_ble_eq_true rfl) ?_
  refine zeqL (L2 := [.ref x0, .int x1, .retAddr 0]) rfl ?_
  unfold f_X12_image at h
  refine z_iload_n (x := x1) rfl dX12_image_0 ?_
  refine z_iconst 0 (by decide) dX12_image_1 ?_
  refine z_iconst 1 (by decide) dX12_image_2 ?_
  obtain ⟨q1, h1, h⟩ := zbind h
  refine z_callS (av := [.int x1, .int 0, .int 1]) (rest := []) hC (s_X12_in hC h1) lk_X12_57 st_X12_in cd_X12_in ⟨by decide, by decide, (Nat.le_of_ble_eq_true rfl)⟩ dX12_image_3 ?_
  refine zeqS (stk2 := [.int q1.1]) rfl ?_
  refine z_if_ne (tgt := 14) dX12_image_6 (by decide) (fun c1 => ?_) (fun c1 => ?_)
  · have h := zife h c1
    refine z_iconst 0 (by decide) dX12_image_14 ?_
    refine z_istore_n dX12_image_15 (by decide) ?_
    refine zeqL (L2 := [.ref x0, .int x1, .int 0]) rfl ?_
    exact s_X12_image_b16 hC _ _ _ _ _ _ h
  · have h := zift h c1
    refine z_aload_n (x := x0) rfl dX12_image_9 ?_
    obtain ⟨_, hb, h⟩ := zbind h
    obtain ⟨fs, hb⟩ := zob_some hb
    obtain ⟨q2, h2, h⟩ := zbind h
    refine z_callV (av := []) (rest := []) hC zcl_12 hb (s_X12_bad hC h2) lk_X12_61 im_X12_bad se_X12_bad cd_X12_bad ⟨by decide, by decide, (Nat.le_of_ble_eq_true rfl)⟩ dX12_image_10 ?_
    clear hb fs
    refine zeqS (stk2 := [.int q2.1]) rfl ?_
    obtain rfl := Option.some.inj h
    exact z_iret ⟨.int, rfl, rfl⟩ dX12_image_13
def f_X12_from_b33  : Nat → Nat → Int32 → Int32 → zMe → Option (Int32 × zMe)
  | 0, _, _, _, _ => none
  | n + 1, x0, x1, x2, M =>
    if 25 ≤ x2 then (
      some (1, M))
    else (
      (zgN M x0 [12] 0).bind fun a1 =>
      (zgN M x0 [12] 2).bind fun a2 =>
      (zrI M a2 ((25 * x1) + x2)).bind fun v1 =>
      (zwI M a1 x2 v1).bind fun M1 =>
      zlet (x2 + 1) fun v2 =>
      f_X12_from_b33 n x0 x1 v2 M1)
set_option maxHeartbeats 4000000 in
set_option maxRecDepth 100000 in
theorem s_X12_from_b33 {g : zG} (hC : zC g)  : ∀ (n : Nat) (x0 : Nat) (x1 : Int32) (x2 : Int32) (M : zMe) (q : (Int32 × zMe)), f_X12_from_b33  n x0 x1 x2 M = some q → zW g mX12_from 33 [.ref x0, .int x1, .int x2] [] M (some (.int q.1)) q.2 := by
  intro n
  induction n with
  | zero => intro x0 x1 x2 M q h; cases h
  | succ n ih =>
    intro x0 x1 x2 M q h
    rw [f_X12_from_b33] at h
    refine z_iload_n (x := x2) rfl dX12_from_33 ?_
    refine z_bipush 25 (by decide) dX12_from_34 ?_
    refine z_icmp_ge (tgt := 62) dX12_from_36 (by decide) (fun c1 => ?_) (fun c1 => ?_)
    · have h := zift h c1
      refine z_iconst 1 (by decide) dX12_from_62 ?_
      obtain rfl := Option.some.inj h
      exact z_iret ⟨.int, rfl, rfl⟩ dX12_from_63
    · have h := zife h c1
      refine z_aload_n (x := x0) rfl dX12_from_39 ?_
      obtain ⟨a1, h1, h⟩ := zbind h
      refine z_gN hC fs_X12_7 h1 dX12_from_40 ?_
      refine z_iload_n (x := x2) rfl dX12_from_43 ?_
      refine z_aload_n (x := x0) rfl dX12_from_44 ?_
      obtain ⟨a2, h2, h⟩ := zbind h
      refine z_gN hC fs_X12_16 h2 dX12_from_45 ?_
      refine z_bipush 25 (by decide) dX12_from_48 ?_
      refine z_iload_n (x := x1) rfl dX12_from_50 ?_
      refine z_imul dX12_from_51 ?_
      refine z_iload_n (x := x2) rfl dX12_from_52 ?_
      refine z_iadd dX12_from_53 ?_
      obtain ⟨v1, h3, h⟩ := zbind h
      refine z_rI h3 dX12_from_54 ?_
      obtain ⟨M1, h4, h⟩ := zbind h
      refine z_wI h4 dX12_from_55 ?_
      obtain ⟨v2, hv⟩ : ∃ z : Int32, z = x2 + 1 := ⟨_, rfl⟩
      have h := zlet_use h hv
      refine z_iinc (v := v2) dX12_from_56 (x := x2) rfl (by rw [hv]; rfl) ?_
      clear hv
      refine zeqL (L2 := [.ref x0, .int x1, .int v2]) rfl ?_
      refine z_goto (tgt := 33) dX12_from_59 (by decide) ?_
      exact ih _ _ _ _ _ h
def f_X12_from (x0 : Nat) (x1 : Int32) (M : zMe) : Option (Int32 × zMe) :=
  (f_X12_in x1 0 1 M).bind fun q1 =>
  if q1.1 = 0 then (
    (zob q1.2 x0 12).bind fun _ =>
    (f_X12_bad x0 q1.2).bind fun q2 =>
    some (q2.1, q2.2))
  else (
    (zgN q1.2 x0 [12] 3).bind fun a1 =>
    (zrZ q1.2 a1 x1).bind fun v1 =>
    if v1 = 0 then (
      (zob q1.2 x0 12).bind fun _ =>
      (f_X12_refuses x0 1 (-3) q1.2).bind fun q3 =>
      some (q3.1, q3.2))
    else (
      f_X12_from_b33 zfu x0 x1 0 q1.2))
set_option maxHeartbeats 4000000 in
set_option maxRecDepth 100000 in
theorem s_X12_from {g : zG} (hC : zC g) {x0 : Nat} {x1 : Int32} {M : zMe} {q : (Int32 × zMe)} (h : f_X12_from x0 x1 M = some q) : zMet g yX12_from mX12_from [.ref x0, .int x1] M (some (.int q.1)) q.2 := by
  refine z_entry (by decide +kernel) rfl rfl (Nat.le_of_ble_eq_true rfl) ?_
  refine zeqL (L2 := [.ref x0, .int x1, .retAddr 0]) rfl ?_
  unfold f_X12_from at h
  refine z_iload_n (x := x1) rfl dX12_from_0 ?_
  refine z_iconst 0 (by decide) dX12_from_1 ?_
  refine z_iconst 1 (by decide) dX12_from_2 ?_
  obtain ⟨q1, h1, h⟩ := zbind h
  refine z_callS (av := [.int x1, .int 0, .int 1]) (rest := []) hC (s_X12_in hC h1) lk_X12_57 st_X12_in cd_X12_in ⟨by decide, by decide, (Nat.le_of_ble_eq_true rfl)⟩ dX12_from_3 ?_
  refine zeqS (stk2 := [.int q1.1]) rfl ?_
  refine z_if_ne (tgt := 14) dX12_from_6 (by decide) (fun c1 => ?_) (fun c1 => ?_)
  · have h := zife h c1
    refine z_aload_n (x := x0) rfl dX12_from_14 ?_
    obtain ⟨a1, h3, h⟩ := zbind h
    refine z_gN hC fs_X12_19 h3 dX12_from_15 ?_
    refine z_iload_n (x := x1) rfl dX12_from_18 ?_
    obtain ⟨v1, h4, h⟩ := zbind h
    refine z_rZ h4 dX12_from_19 ?_
    refine z_if_ne (tgt := 31) dX12_from_20 (by decide) (fun c2 => ?_) (fun c2 => ?_)
    · have h := zife h c2
      refine z_iconst 0 (by decide) dX12_from_31 ?_
      refine z_istore_n dX12_from_32 (by decide) ?_
      refine zeqL (L2 := [.ref x0, .int x1, .int 0]) rfl ?_
      exact s_X12_from_b33 hC _ _ _ _ _ _ h
    · have h := zift h c2
      refine z_aload_n (x := x0) rfl dX12_from_23 ?_
      refine z_iconst 1 (by decide) dX12_from_24 ?_
      refine z_bipush (-3) (by decide) dX12_from_25 ?_
      obtain ⟨_, hb, h⟩ := zbind h
      obtain ⟨fs, hb⟩ := zob_some hb
      obtain ⟨q3, h5, h⟩ := zbind h
      refine z_callV (av := [.int 1, .int (-3)]) (rest := []) hC zcl_12 hb (s_X12_refuses hC h5) lk_X12_53 im_X12_refuses se_X12_refuses cd_X12_refuses ⟨by decide, by decide, (Nat.le_of_ble_eq_true rfl)⟩ dX12_from_27 ?_
      clear hb fs
      refine zeqS (stk2 := [.int q3.1]) rfl ?_
      obtain rfl := Option.some.inj h
      exact z_iret ⟨.int, rfl, rfl⟩ dX12_from_30
  · have h := zift h c1
    refine z_aload_n (x := x0) rfl dX12_from_9 ?_
    obtain ⟨_, hb, h⟩ := zbind h
    obtain ⟨fs, hb⟩ := zob_some hb
    obtain ⟨q2, h2, h⟩ := zbind h
    refine z_callV (av := []) (rest := []) hC zcl_12 hb (s_X12_bad hC h2) lk_X12_61 im_X12_bad se_X12_bad cd_X12_bad ⟨by decide, by decide, (Nat.le_of_ble_eq_true rfl)⟩ dX12_from_10 ?_
    clear hb fs
    refine zeqS (stk2 := [.int q2.1]) rfl ?_
    obtain rfl := Option.some.inj h
    exact z_iret ⟨.int, rfl, rfl⟩ dX12_from_13
def f_X12_status_b24  (y0 : Int32) (M : zMe) : Option (Int32 × zMe) :=
  some (y0, M)
set_option maxHeartbeats 4000000 in
set_option maxRecDepth 100000 in
theorem s_X12_status_b24 {g : zG} (hC : zC g)  (y0 : Int32) (M : zMe) (q : (Int32 × zMe)) (h : f_X12_status_b24  y0 M = some q) : zW g mX12_status 24 [.retAddr 0, .retAddr 0] [.int y0] M (some (.int q.1)) q.2 := by
  unfold f_X12_status_b24 at h
  obtain rfl := Option.some.inj h
  exact z_iret ⟨.int, rfl, rfl⟩ dX12_status_24
def f_X12_status (x0 : Nat) (x1 : Int32) (M : zMe) : Option (Int32 × zMe) :=
  (f_X12_in x1 0 2 M).bind fun q1 =>
  if q1.1 = 0 then (
    (zob q1.2 x0 12).bind fun _ =>
    (f_X12_refuses x0 0 (-1) q1.2).bind fun q2 =>
    f_X12_status_b24 q2.1 q2.2)
  else (
    (zgN q1.2 x0 [12] 6).bind fun a1 =>
    (zrI q1.2 a1 x1).bind fun v1 =>
    f_X12_status_b24 v1 q1.2)
set_option maxHeartbeats 4000000 in
set_option maxRecDepth 100000 in
theorem s_X12_status {g : zG} (hC : zC g) {x0 : Nat} {x1 : Int32} {M : zMe} {q : (Int32 × zMe)} (h : f_X12_status x0 x1 M = some q) : zMet g yX12_status mX12_status [.ref x0, .int x1] M (some (.int q.1)) q.2 := by
  refine z_entry (by decide +kernel) rfl rfl (Nat.le_of_ble_eq_true rfl) ?_
  refine zeqL (L2 := [.ref x0, .int x1]) rfl ?_
  unfold f_X12_status at h
  refine z_iload_n (x := x1) rfl dX12_status_0 ?_
  refine z_iconst 0 (by decide) dX12_status_1 ?_
  refine z_iconst 2 (by decide) dX12_status_2 ?_
  obtain ⟨q1, h1, h⟩ := zbind h
  refine z_callS (av := [.int x1, .int 0, .int 2]) (rest := []) hC (s_X12_in hC h1) lk_X12_57 st_X12_in cd_X12_in ⟨by decide, by decide, (Nat.le_of_ble_eq_true rfl)⟩ dX12_status_3 ?_
  refine zeqS (stk2 := [.int q1.1]) rfl ?_
  refine z_if_eq (tgt := 18) dX12_status_6 (by decide) (fun c1 => ?_) (fun c1 => ?_)
  · have h := zift h c1
    refine z_aload_n (x := x0) rfl dX12_status_18 ?_
    refine z_iconst 0 (by decide) dX12_status_19 ?_
    refine z_iconst (-1) (by decide) dX12_status_20 ?_
    obtain ⟨_, hb, h⟩ := zbind h
    obtain ⟨fs, hb⟩ := zob_some hb
    obtain ⟨q2, h2, h⟩ := zbind h
    refine z_callV (av := [.int 0, .int (-1)]) (rest := []) hC zcl_12 hb (s_X12_refuses hC h2) lk_X12_53 im_X12_refuses se_X12_refuses cd_X12_refuses ⟨by decide, by decide, (Nat.le_of_ble_eq_true rfl)⟩ dX12_status_21 ?_
    clear hb fs
    refine zeqS (stk2 := [.int q2.1]) rfl ?_
    refine zweak [false, false] ?_
    exact s_X12_status_b24 hC _ _ _ h
  · have h := zife h c1
    refine z_aload_n (x := x0) rfl dX12_status_9 ?_
    obtain ⟨a1, h3, h⟩ := zbind h
    refine z_gN hC fs_X12_26 h3 dX12_status_10 ?_
    refine z_iload_n (x := x1) rfl dX12_status_13 ?_
    obtain ⟨v1, h4, h⟩ := zbind h
    refine z_rI h4 dX12_status_14 ?_
    refine z_goto (tgt := 24) dX12_status_15 (by decide) ?_
    refine zweak [false, false] ?_
    exact s_X12_status_b24 hC _ _ _ h
def f_X12_counted_b49  (y0 : Int32) (M : zMe) : Option (Int32 × zMe) :=
  some (y0, M)
set_option maxHeartbeats 4000000 in
set_option maxRecDepth 100000 in
theorem s_X12_counted_b49 {g : zG} (hC : zC g)  (y0 : Int32) (M : zMe) (q : (Int32 × zMe)) (h : f_X12_counted_b49  y0 M = some q) : zW g mX12_counted 49 [.retAddr 0, .retAddr 0] [.int y0] M (some (.int q.1)) q.2 := by
  unfold f_X12_counted_b49 at h
  obtain rfl := Option.some.inj h
  exact z_iret ⟨.int, rfl, rfl⟩ dX12_counted_49
def f_X12_counted (x0 : Nat) (x1 : Int32) (M : zMe) : Option (Int32 × zMe) :=
  if x1 = 0 then (
    (zgN M x0 [12] 0).bind fun a1 =>
    (zrI M a1 0).bind fun v1 =>
    f_X12_counted_b49 v1 M)
  else (
    if x1 = 1 then (
      (zgN M x0 [12] 0).bind fun a2 =>
      (zrI M a2 6).bind fun v2 =>
      f_X12_counted_b49 v2 M)
    else (
      if x1 = 2 then (
        (zgN M x0 [12] 0).bind fun a3 =>
        (zrI M a3 1).bind fun v3 =>
        (f_X12_bits v3 M).bind fun q1 =>
        f_X12_counted_b49 q1.1 q1.2)
      else (
        (zgI M x0 [12] 5).bind fun v4 =>
        f_X12_counted_b49 v4 M)))
set_option maxHeartbeats 4000000 in
set_option maxRecDepth 100000 in
theorem s_X12_counted {g : zG} (hC : zC g) {x0 : Nat} {x1 : Int32} {M : zMe} {q : (Int32 × zMe)} (h : f_X12_counted x0 x1 M = some q) : zMet g yX12_counted mX12_counted [.ref x0, .int x1] M (some (.int q.1)) q.2 := by
  refine z_entry (by decide +kernel) rfl rfl (Nat.le_of_ble_eq_true rfl) ?_
  refine zeqL (L2 := [.ref x0, .int x1]) rfl ?_
  unfold f_X12_counted at h
  refine z_iload_n (x := x1) rfl dX12_counted_0 ?_
  refine z_if_ne (tgt := 13) dX12_counted_1 (by decide) (fun c1 => ?_) (fun c1 => ?_)
  · have h := zife h c1
    refine z_iload_n (x := x1) rfl dX12_counted_13 ?_
    refine z_iconst 1 (by decide) dX12_counted_14 ?_
    refine z_icmp_ne (tgt := 28) dX12_counted_15 (by decide) (fun c2 => ?_) (fun c2 => ?_)
    · have h := zife h c2
      refine z_iload_n (x := x1) rfl dX12_counted_28 ?_
      refine z_iconst 2 (by decide) dX12_counted_29 ?_
      refine z_icmp_ne (tgt := 45) dX12_counted_30 (by decide) (fun c3 => ?_) (fun c3 => ?_)
      · have h := zife h c3
        refine z_aload_n (x := x0) rfl dX12_counted_45 ?_
        obtain ⟨v4, h8, h⟩ := zbind h
        refine z_gI hC fs_X12_76 h8 dX12_counted_46 ?_
        refine zweak [false, false] ?_
        exact s_X12_counted_b49 hC _ _ _ h
      · have h := zift h c3
        refine z_aload_n (x := x0) rfl dX12_counted_33 ?_
        obtain ⟨a3, h5, h⟩ := zbind h
        refine z_gN hC fs_X12_7 h5 dX12_counted_34 ?_
        refine z_iconst 1 (by decide) dX12_counted_37 ?_
        obtain ⟨v3, h6, h⟩ := zbind h
        refine z_rI h6 dX12_counted_38 ?_
        obtain ⟨q1, h7, h⟩ := zbind h
        refine z_callS (av := [.int v3]) (rest := []) hC (s_X12_bits hC h7) lk_X12_193 st_X12_bits cd_X12_bits ⟨by decide, by decide, (Nat.le_of_ble_eq_true rfl)⟩ dX12_counted_39 ?_
        refine zeqS (stk2 := [.int q1.1]) rfl ?_
        refine z_goto (tgt := 49) dX12_counted_42 (by decide) ?_
        refine zweak [false, false] ?_
        exact s_X12_counted_b49 hC _ _ _ h
    · have h := zift h c2
      refine z_aload_n (x := x0) rfl dX12_counted_18 ?_
      obtain ⟨a2, h3, h⟩ := zbind h
      refine z_gN hC fs_X12_7 h3 dX12_counted_19 ?_
      refine z_bipush 6 (by decide) dX12_counted_22 ?_
      obtain ⟨v2, h4, h⟩ := zbind h
      refine z_rI h4 dX12_counted_24 ?_
      refine z_goto (tgt := 49) dX12_counted_25 (by decide) ?_
      refine zweak [false, false] ?_
      exact s_X12_counted_b49 hC _ _ _ h
  · have h := zift h c1
    refine z_aload_n (x := x0) rfl dX12_counted_4 ?_
    obtain ⟨a1, h1, h⟩ := zbind h
    refine z_gN hC fs_X12_7 h1 dX12_counted_5 ?_
    refine z_iconst 0 (by decide) dX12_counted_8 ?_
    obtain ⟨v1, h2, h⟩ := zbind h
    refine z_rI h2 dX12_counted_9 ?_
    refine z_goto (tgt := 49) dX12_counted_10 (by decide) ?_
    refine zweak [false, false] ?_
    exact s_X12_counted_b49 hC _ _ _ h
def f_X12_count_b21  (y0 : Int32) (M : zMe) : Option (Int32 × zMe) :=
  some (y0, M)
set_option maxHeartbeats 4000000 in
set_option maxRecDepth 100000 in
theorem s_X12_count_b21 {g : zG} (hC : zC g)  (y0 : Int32) (M : zMe) (q : (Int32 × zMe)) (h : f_X12_count_b21  y0 M = some q) : zW g mX12_count 21 [.retAddr 0, .retAddr 0] [.int y0] M (some (.int q.1)) q.2 := by
  unfold f_X12_count_b21 at h
  obtain rfl := Option.some.inj h
  exact z_iret ⟨.int, rfl, rfl⟩ dX12_count_21
def f_X12_count (x0 : Nat) (x1 : Int32) (M : zMe) : Option (Int32 × zMe) :=
  (f_X12_in x1 0 3 M).bind fun q1 =>
  if q1.1 = 0 then (
    (zob q1.2 x0 12).bind fun _ =>
    (f_X12_bad x0 q1.2).bind fun q2 =>
    f_X12_count_b21 q2.1 q2.2)
  else (
    (zob q1.2 x0 12).bind fun _ =>
    (f_X12_counted x0 x1 q1.2).bind fun q3 =>
    f_X12_count_b21 q3.1 q3.2)
set_option maxHeartbeats 4000000 in
set_option maxRecDepth 100000 in
theorem s_X12_count {g : zG} (hC : zC g) {x0 : Nat} {x1 : Int32} {M : zMe} {q : (Int32 × zMe)} (h : f_X12_count x0 x1 M = some q) : zMet g yX12_count mX12_count [.ref x0, .int x1] M (some (.int q.1)) q.2 := by
  refine z_entry (by decide +kernel) rfl rfl (Nat.le_of_ble_eq_true rfl) ?_
  refine zeqL (L2 := [.ref x0, .int x1]) rfl ?_
  unfold f_X12_count at h
  refine z_iload_n (x := x1) rfl dX12_count_0 ?_
  refine z_iconst 0 (by decide) dX12_count_1 ?_
  refine z_iconst 3 (by decide) dX12_count_2 ?_
  obtain ⟨q1, h1, h⟩ := zbind h
  refine z_callS (av := [.int x1, .int 0, .int 3]) (rest := []) hC (s_X12_in hC h1) lk_X12_57 st_X12_in cd_X12_in ⟨by decide, by decide, (Nat.le_of_ble_eq_true rfl)⟩ dX12_count_3 ?_
  refine zeqS (stk2 := [.int q1.1]) rfl ?_
  refine z_if_eq (tgt := 17) dX12_count_6 (by decide) (fun c1 => ?_) (fun c1 => ?_)
  · have h := zift h c1
    refine z_aload_n (x := x0) rfl dX12_count_17 ?_
    obtain ⟨_, hb, h⟩ := zbind h
    obtain ⟨fs, hb⟩ := zob_some hb
    obtain ⟨q2, h2, h⟩ := zbind h
    refine z_callV (av := []) (rest := []) hC zcl_12 hb (s_X12_bad hC h2) lk_X12_61 im_X12_bad se_X12_bad cd_X12_bad ⟨by decide, by decide, (Nat.le_of_ble_eq_true rfl)⟩ dX12_count_18 ?_
    clear hb fs
    refine zeqS (stk2 := [.int q2.1]) rfl ?_
    refine zweak [false, false] ?_
    exact s_X12_count_b21 hC _ _ _ h
  · have h := zife h c1
    refine z_aload_n (x := x0) rfl dX12_count_9 ?_
    refine z_iload_n (x := x1) rfl dX12_count_10 ?_
    obtain ⟨_, hb, h⟩ := zbind h
    obtain ⟨fs, hb⟩ := zob_some hb
    obtain ⟨q3, h3, h⟩ := zbind h
    refine z_callV (av := [.int x1]) (rest := []) hC zcl_12 hb (s_X12_counted hC h3) lk_X12_215 im_X12_counted se_X12_counted cd_X12_counted ⟨by decide, by decide, (Nat.le_of_ble_eq_true rfl)⟩ dX12_count_11 ?_
    clear hb fs
    refine zeqS (stk2 := [.int q3.1]) rfl ?_
    refine z_goto (tgt := 21) dX12_count_14 (by decide) ?_
    refine zweak [false, false] ?_
    exact s_X12_count_b21 hC _ _ _ h
def f_X12_digest_b71  : Nat → Nat → Int64 → Int32 → zMe → Option (Int64 × zMe)
  | 0, _, _, _, _ => none
  | n + 1, x0, x1, x3, M =>
    if 6 ≤ x3 then (
      (zgL M x0 [12] 7).bind fun v1 =>
      zlet (((31 : Int64) * x1) + v1 : Int64) fun v2 =>
      (zgL M x0 [12] 8).bind fun v3 =>
      some (((31 : Int64) * v2) + v3, M))
    else (
      (zgN M x0 [12] 0).bind fun a1 =>
      (zrI M a1 x3).bind fun v4 =>
      zlet (((31 : Int64) * x1) + v4.toInt64 : Int64) fun v5 =>
      zlet (x3 + 1) fun v6 =>
      f_X12_digest_b71 n x0 v5 v6 M)
set_option maxHeartbeats 4000000 in
set_option maxRecDepth 100000 in
theorem s_X12_digest_b71 {g : zG} (hC : zC g)  : ∀ (n : Nat) (x0 : Nat) (x1 : Int64) (x3 : Int32) (M : zMe) (q : (Int64 × zMe)), f_X12_digest_b71  n x0 x1 x3 M = some q → zW g mX12_digest 71 [.ref x0, .long x1, .retAddr 0, .int x3] [] M (some (.long q.1)) q.2 := by
  intro n
  induction n with
  | zero => intro x0 x1 x3 M q h; cases h
  | succ n ih =>
    intro x0 x1 x3 M q h
    rw [f_X12_digest_b71] at h
    refine z_iload_n (x := x3) rfl dX12_digest_71 ?_
    refine z_bipush 6 (by decide) dX12_digest_72 ?_
    refine z_icmp_ge (tgt := 97) dX12_digest_74 (by decide) (fun c1 => ?_) (fun c1 => ?_)
    · have h := zift h c1
      refine z_ldc2 hC dX12_digest_97 kl_X12_220 ?_
      refine z_lload_n (x := x1) rfl dX12_digest_100 ?_
      refine z_lmul dX12_digest_101 ?_
      refine z_aload_n (x := x0) rfl dX12_digest_102 ?_
      obtain ⟨v1, h1, h⟩ := zbind h
      refine z_gL hC fs_X12_212 h1 dX12_digest_103 ?_
      refine z_ladd dX12_digest_106 ?_
      refine z_nameL (fun v2 hv => ?_)
      have h := zlet_use h hv
      clear hv
      refine z_lstore_n dX12_digest_107 (by decide) ?_
      refine zeqL (L2 := [.ref x0, .long v2, .retAddr 0, .int x3]) rfl ?_
      refine z_ldc2 hC dX12_digest_108 kl_X12_220 ?_
      refine z_lload_n (x := v2) rfl dX12_digest_111 ?_
      refine z_lmul dX12_digest_112 ?_
      refine z_aload_n (x := x0) rfl dX12_digest_113 ?_
      obtain ⟨v3, h2, h⟩ := zbind h
      refine z_gL hC fs_X12_49 h2 dX12_digest_114 ?_
      refine z_ladd dX12_digest_117 ?_
      obtain rfl := Option.some.inj h
      exact z_lret rfl dX12_digest_118
    · have h := zife h c1
      refine z_ldc2 hC dX12_digest_77 kl_X12_220 ?_
      refine z_lload_n (x := x1) rfl dX12_digest_80 ?_
      refine z_lmul dX12_digest_81 ?_
      refine z_aload_n (x := x0) rfl dX12_digest_82 ?_
      obtain ⟨a1, h3, h⟩ := zbind h
      refine z_gN hC fs_X12_7 h3 dX12_digest_83 ?_
      refine z_iload_n (x := x3) rfl dX12_digest_86 ?_
      obtain ⟨v4, h4, h⟩ := zbind h
      refine z_rI h4 dX12_digest_87 ?_
      refine z_i2l dX12_digest_88 ?_
      refine z_ladd dX12_digest_89 ?_
      refine z_nameL (fun v5 hv => ?_)
      have h := zlet_use h hv
      clear hv
      refine z_lstore_n dX12_digest_90 (by decide) ?_
      refine zeqL (L2 := [.ref x0, .long v5, .retAddr 0, .int x3]) rfl ?_
      obtain ⟨v6, hv⟩ : ∃ z : Int32, z = x3 + 1 := ⟨_, rfl⟩
      have h := zlet_use h hv
      refine z_iinc (v := v6) dX12_digest_91 (x := x3) rfl (by rw [hv]; rfl) ?_
      clear hv
      refine zeqL (L2 := [.ref x0, .long v5, .retAddr 0, .int v6]) rfl ?_
      refine z_goto (tgt := 71) dX12_digest_94 (by decide) ?_
      exact ih _ _ _ _ _ h
def f_X12_digest_b32  : Nat → Nat → Int64 → Int32 → zMe → Option (Int64 × zMe)
  | 0, _, _, _, _ => none
  | n + 1, x0, x1, x3, M =>
    (zgN M x0 [12] 0).bind fun a1 =>
    (zrI M a1 6).bind fun v1 =>
    if (6 * v1) ≤ x3 then (
      f_X12_digest_b71 zfu x0 x1 1 M)
    else (
      (zgN M x0 [12] 0).bind fun a2 =>
      (zrI M a2 (7 + x3)).bind fun v2 =>
      zlet (((31 : Int64) * x1) + v2.toInt64 : Int64) fun v3 =>
      zlet (x3 + 1) fun v4 =>
      f_X12_digest_b32 n x0 v3 v4 M)
set_option maxHeartbeats 4000000 in
set_option maxRecDepth 100000 in
theorem s_X12_digest_b32 {g : zG} (hC : zC g)  : ∀ (n : Nat) (x0 : Nat) (x1 : Int64) (x3 : Int32) (M : zMe) (q : (Int64 × zMe)), f_X12_digest_b32  n x0 x1 x3 M = some q → zW g mX12_digest 32 [.ref x0, .long x1, .retAddr 0, .int x3] [] M (some (.long q.1)) q.2 := by
  intro n
  induction n with
  | zero => intro x0 x1 x3 M q h; cases h
  | succ n ih =>
    intro x0 x1 x3 M q h
    rw [f_X12_digest_b32] at h
    refine z_iload_n (x := x3) rfl dX12_digest_32 ?_
    refine z_bipush 6 (by decide) dX12_digest_33 ?_
    refine z_aload_n (x := x0) rfl dX12_digest_35 ?_
    obtain ⟨a1, h1, h⟩ := zbind h
    refine z_gN hC fs_X12_7 h1 dX12_digest_36 ?_
    refine z_bipush 6 (by decide) dX12_digest_39 ?_
    obtain ⟨v1, h2, h⟩ := zbind h
    refine z_rI h2 dX12_digest_41 ?_
    refine z_imul dX12_digest_42 ?_
    refine z_icmp_ge (tgt := 69) dX12_digest_43 (by decide) (fun c1 => ?_) (fun c1 => ?_)
    · have h := zift h c1
      refine z_iconst 1 (by decide) dX12_digest_69 ?_
      refine z_istore_n dX12_digest_70 (by decide) ?_
      refine zeqL (L2 := [.ref x0, .long x1, .retAddr 0, .int 1]) rfl ?_
      exact s_X12_digest_b71 hC _ _ _ _ _ _ h
    · have h := zife h c1
      refine z_ldc2 hC dX12_digest_46 kl_X12_220 ?_
      refine z_lload_n (x := x1) rfl dX12_digest_49 ?_
      refine z_lmul dX12_digest_50 ?_
      refine z_aload_n (x := x0) rfl dX12_digest_51 ?_
      obtain ⟨a2, h3, h⟩ := zbind h
      refine z_gN hC fs_X12_7 h3 dX12_digest_52 ?_
      refine z_bipush 7 (by decide) dX12_digest_55 ?_
      refine z_iload_n (x := x3) rfl dX12_digest_57 ?_
      refine z_iadd dX12_digest_58 ?_
      obtain ⟨v2, h4, h⟩ := zbind h
      refine z_rI h4 dX12_digest_59 ?_
      refine z_i2l dX12_digest_60 ?_
      refine z_ladd dX12_digest_61 ?_
      refine z_nameL (fun v3 hv => ?_)
      have h := zlet_use h hv
      clear hv
      refine z_lstore_n dX12_digest_62 (by decide) ?_
      refine zeqL (L2 := [.ref x0, .long v3, .retAddr 0, .int x3]) rfl ?_
      obtain ⟨v4, hv⟩ : ∃ z : Int32, z = x3 + 1 := ⟨_, rfl⟩
      have h := zlet_use h hv
      refine z_iinc (v := v4) dX12_digest_63 (x := x3) rfl (by rw [hv]; rfl) ?_
      clear hv
      refine zeqL (L2 := [.ref x0, .long v3, .retAddr 0, .int v4]) rfl ?_
      refine z_goto (tgt := 32) dX12_digest_66 (by decide) ?_
      exact ih _ _ _ _ _ h
def f_X12_digest_b6  : Nat → Nat → Int64 → Int32 → zMe → Option (Int64 × zMe)
  | 0, _, _, _, _ => none
  | n + 1, x0, x1, x3, M =>
    if 4 ≤ x3 then (
      f_X12_digest_b32 zfu x0 x1 0 M)
    else (
      (zob M x0 12).bind fun _ =>
      (f_X12_counted x0 x3 M).bind fun q1 =>
      zlet (((31 : Int64) * x1) + q1.1.toInt64 : Int64) fun v1 =>
      zlet (x3 + 1) fun v2 =>
      f_X12_digest_b6 n x0 v1 v2 q1.2)
set_option maxHeartbeats 4000000 in
set_option maxRecDepth 100000 in
theorem s_X12_digest_b6 {g : zG} (hC : zC g)  : ∀ (n : Nat) (x0 : Nat) (x1 : Int64) (x3 : Int32) (M : zMe) (q : (Int64 × zMe)), f_X12_digest_b6  n x0 x1 x3 M = some q → zW g mX12_digest 6 [.ref x0, .long x1, .retAddr 0, .int x3] [] M (some (.long q.1)) q.2 := by
  intro n
  induction n with
  | zero => intro x0 x1 x3 M q h; cases h
  | succ n ih =>
    intro x0 x1 x3 M q h
    rw [f_X12_digest_b6] at h
    refine z_iload_n (x := x3) rfl dX12_digest_6 ?_
    refine z_iconst 4 (by decide) dX12_digest_7 ?_
    refine z_icmp_ge (tgt := 30) dX12_digest_8 (by decide) (fun c1 => ?_) (fun c1 => ?_)
    · have h := zift h c1
      refine z_iconst 0 (by decide) dX12_digest_30 ?_
      refine z_istore_n dX12_digest_31 (by decide) ?_
      refine zeqL (L2 := [.ref x0, .long x1, .retAddr 0, .int 0]) rfl ?_
      exact s_X12_digest_b32 hC _ _ _ _ _ _ h
    · have h := zife h c1
      refine z_ldc2 hC dX12_digest_11 kl_X12_220 ?_
      refine z_lload_n (x := x1) rfl dX12_digest_14 ?_
      refine z_lmul dX12_digest_15 ?_
      refine z_aload_n (x := x0) rfl dX12_digest_16 ?_
      refine z_iload_n (x := x3) rfl dX12_digest_17 ?_
      obtain ⟨_, hb, h⟩ := zbind h
      obtain ⟨fs, hb⟩ := zob_some hb
      obtain ⟨q1, h1, h⟩ := zbind h
      refine z_callV (av := [.int x3]) (rest := [.long ((31 : Int64) * x1)]) hC zcl_12 hb (s_X12_counted hC h1) lk_X12_215 im_X12_counted se_X12_counted cd_X12_counted ⟨by decide, by decide, (Nat.le_of_ble_eq_true rfl)⟩ dX12_digest_18 ?_
      clear hb fs
      refine zeqS (stk2 := [.int q1.1, .long ((31 : Int64) * x1)]) rfl ?_
      refine z_i2l dX12_digest_21 ?_
      refine z_ladd dX12_digest_22 ?_
      refine z_nameL (fun v1 hv => ?_)
      have h := zlet_use h hv
      clear hv
      refine z_lstore_n dX12_digest_23 (by decide) ?_
      refine zeqL (L2 := [.ref x0, .long v1, .retAddr 0, .int x3]) rfl ?_
      obtain ⟨v2, hv⟩ : ∃ z : Int32, z = x3 + 1 := ⟨_, rfl⟩
      have h := zlet_use h hv
      refine z_iinc (v := v2) dX12_digest_24 (x := x3) rfl (by rw [hv]; rfl) ?_
      clear hv
      refine zeqL (L2 := [.ref x0, .long v1, .retAddr 0, .int v2]) rfl ?_
      refine z_goto (tgt := 6) dX12_digest_27 (by decide) ?_
      exact ih _ _ _ _ _ h
def f_X12_digest (x0 : Nat) (M : zMe) : Option (Int64 × zMe) :=
  f_X12_digest_b6 zfu x0 (661 : Int64) 0 M
set_option maxHeartbeats 4000000 in
set_option maxRecDepth 100000 in
theorem s_X12_digest {g : zG} (hC : zC g) {x0 : Nat} {M : zMe} {q : (Int64 × zMe)} (h : f_X12_digest x0 M = some q) : zMet g yX12_digest mX12_digest [.ref x0] M (some (.long q.1)) q.2 := by
  refine z_entry (by decide +kernel) rfl rfl (Nat.le_of_ble_eq_true rfl) ?_
  refine zeqL (L2 := [.ref x0, .retAddr 0, .retAddr 0, .retAddr 0]) rfl ?_
  unfold f_X12_digest at h
  refine z_ldc2 hC dX12_digest_0 kl_X12_218 ?_
  refine z_lstore_n dX12_digest_3 (by decide) ?_
  refine zeqL (L2 := [.ref x0, .long (661 : Int64), .retAddr 0, .retAddr 0]) rfl ?_
  refine z_iconst 0 (by decide) dX12_digest_4 ?_
  refine z_istore_n dX12_digest_5 (by decide) ?_
  refine zeqL (L2 := [.ref x0, .long (661 : Int64), .retAddr 0, .int 0]) rfl ?_
  exact s_X12_digest_b6 hC _ _ _ _ _ _ h
def f_L_law_b1080 (sa : Nat → Nat) (sn : Nat) (xs : Nat → Int32) (k18 : Nat → Nat → Int32 → zMe → Option (Int32 × zMe)) (x1 : Nat) (x2 : Nat) (x3 : Int32) (M : zMe) : Option (Int32 × zMe) :=
  zlet (x3 + 7) fun v1 =>
  k18 x1 x2 v1 M
set_option maxHeartbeats 4000000 in
set_option maxRecDepth 100000 in
theorem s_L_law_b1080 {g : zG} (hC : zC g) {sa : Nat → Nat} (hS : zCs g sa) {sn b0 : Nat} {xs : Nat → Int32} (hX : va_X b0 sn xs g.2.1 g.2.1.heap) (hbl : b0 < g.2.1.heap.size) {k18 : Nat → Nat → Int32 → zMe → Option (Int32 × zMe)} (hk18 : ∀ (x1 : Nat) (x2 : Nat) (x3 : Int32) (M : zMe) (q : (Int32 × zMe)), k18 x1 x2 x3 M = some q → zW g mL_law 18 [.ref b0, .ref x1, .ref x2, .int x3] [] M (some (.int q.1)) q.2) (x1 : Nat) (x2 : Nat) (x3 : Int32) (M : zMe) (q : (Int32 × zMe)) (h : f_L_law_b1080 sa sn xs k18 x1 x2 x3 M = some q) : zW g mL_law 1080 [.ref b0, .ref x1, .ref x2, .int x3] [] M (some (.int q.1)) q.2 := by
  unfold f_L_law_b1080 at h
  obtain ⟨v1, hv⟩ : ∃ z : Int32, z = x3 + 7 := ⟨_, rfl⟩
  have h := zlet_use h hv
  refine z_iinc (v := v1) dL_law_1080 (x := x3) rfl (by rw [hv]; rfl) ?_
  clear hv
  refine zeqL (L2 := [.ref b0, .ref x1, .ref x2, .int v1]) rfl ?_
  refine z_goto (tgt := 18) dL_law_1083 (by decide) ?_
  exact hk18 _ _ _ _ _ h
def f_L_law_b334 (sa : Nat → Nat) (sn : Nat) (xs : Nat → Int32) (k18 : Nat → Nat → Int32 → zMe → Option (Int32 × zMe)) (x1 : Nat) (x2 : Nat) (x3 : Int32) (y0 : Int32) (y1 : Int32) (y2 : Nat) (y3 : Int32) (M : zMe) : Option (Int32 × zMe) :=
  (zob M y2 12).bind fun _ =>
  (f_X12_shut y2 y1 y0 M).bind fun q1 =>
  if y3 = q1.1 then (
    f_L_law_b1080 sa sn xs k18 x1 x2 x3 q1.2)
  else (
    some (0, q1.2))
set_option maxHeartbeats 4000000 in
set_option maxRecDepth 100000 in
theorem s_L_law_b334 {g : zG} (hC : zC g) {sa : Nat → Nat} (hS : zCs g sa) {sn b0 : Nat} {xs : Nat → Int32} (hX : va_X b0 sn xs g.2.1 g.2.1.heap) (hbl : b0 < g.2.1.heap.size) {k18 : Nat → Nat → Int32 → zMe → Option (Int32 × zMe)} (hk18 : ∀ (x1 : Nat) (x2 : Nat) (x3 : Int32) (M : zMe) (q : (Int32 × zMe)), k18 x1 x2 x3 M = some q → zW g mL_law 18 [.ref b0, .ref x1, .ref x2, .int x3] [] M (some (.int q.1)) q.2) (x1 : Nat) (x2 : Nat) (x3 : Int32) (y0 : Int32) (y1 : Int32) (y2 : Nat) (y3 : Int32) (M : zMe) (q : (Int32 × zMe)) (h : f_L_law_b334 sa sn xs k18 x1 x2 x3 y0 y1 y2 y3 M = some q) : zW g mL_law 334 [.ref b0, .ref x1, .ref x2, .int x3] [.int y0, .int y1, .ref y2, .int y3] M (some (.int q.1)) q.2 := by
  unfold f_L_law_b334 at h
  obtain ⟨_, hb, h⟩ := zbind h
  obtain ⟨fs, hb⟩ := zob_some hb
  obtain ⟨q1, h1, h⟩ := zbind h
  refine z_callV (av := [.int y1, .int y0]) (rest := [.int y3]) hC zcl_12 hb (s_X12_shut hC h1) lk_L_32 im_X12_shut se_X12_shut cd_X12_shut ⟨by decide, by decide, (Nat.le_of_ble_eq_true rfl)⟩ dL_law_334 ?_
  clear hb fs
  refine zeqS (stk2 := [.int q1.1, .int y3]) rfl ?_
  refine z_icmp_eq (tgt := 1080) dL_law_337 (by decide) (fun c1 => ?_) (fun c1 => ?_)
  · have h := zift h c1
    exact s_L_law_b1080 hC hS hX hbl hk18 _ _ _ _ _ h
  · have h := zife h c1
    refine z_iconst 0 (by decide) dL_law_340 ?_
    obtain rfl := Option.some.inj h
    exact z_iret ⟨.boolean, rfl, rfl⟩ dL_law_341
def f_L_law_b312 (sa : Nat → Nat) (sn : Nat) (xs : Nat → Int32) (k18 : Nat → Nat → Int32 → zMe → Option (Int32 × zMe)) (x1 : Nat) (x2 : Nat) (x3 : Int32) (y0 : Int32) (y1 : Int32) (y2 : Nat) (M : zMe) : Option (Int32 × zMe) :=
  (zob M y2 11).bind fun _ =>
  (f_X11_shut y2 y1 y0 M).bind fun q1 =>
  (zxs sn xs (x3 + 1)).bind fun v1 =>
  (zxs sn xs (x3 + 2)).bind fun v2 =>
  if v2 = 0 then (
    f_L_law_b334 sa sn xs k18 x1 x2 x3 0 v1 x2 q1.1 q1.2)
  else (
    f_L_law_b334 sa sn xs k18 x1 x2 x3 1 v1 x2 q1.1 q1.2)
set_option maxHeartbeats 4000000 in
set_option maxRecDepth 100000 in
theorem s_L_law_b312 {g : zG} (hC : zC g) {sa : Nat → Nat} (hS : zCs g sa) {sn b0 : Nat} {xs : Nat → Int32} (hX : va_X b0 sn xs g.2.1 g.2.1.heap) (hbl : b0 < g.2.1.heap.size) {k18 : Nat → Nat → Int32 → zMe → Option (Int32 × zMe)} (hk18 : ∀ (x1 : Nat) (x2 : Nat) (x3 : Int32) (M : zMe) (q : (Int32 × zMe)), k18 x1 x2 x3 M = some q → zW g mL_law 18 [.ref b0, .ref x1, .ref x2, .int x3] [] M (some (.int q.1)) q.2) (x1 : Nat) (x2 : Nat) (x3 : Int32) (y0 : Int32) (y1 : Int32) (y2 : Nat) (M : zMe) (q : (Int32 × zMe)) (h : f_L_law_b312 sa sn xs k18 x1 x2 x3 y0 y1 y2 M = some q) : zW g mL_law 312 [.ref b0, .ref x1, .ref x2, .int x3] [.int y0, .int y1, .ref y2] M (some (.int q.1)) q.2 := by
  unfold f_L_law_b312 at h
  obtain ⟨_, hb, h⟩ := zbind h
  obtain ⟨fs, hb⟩ := zob_some hb
  obtain ⟨q1, h1, h⟩ := zbind h
  refine z_callV (av := [.int y1, .int y0]) (rest := []) hC zcl_11 hb (s_X11_shut hC h1) lk_L_28 im_X11_shut se_X11_shut cd_X11_shut ⟨by decide, by decide, (Nat.le_of_ble_eq_true rfl)⟩ dL_law_312 ?_
  clear hb fs
  refine zeqS (stk2 := [.int q1.1]) rfl ?_
  refine z_aload_n (x := x2) rfl dL_law_315 ?_
  refine z_aload_n (x := b0) rfl dL_law_316 ?_
  refine z_iload_n (x := x3) rfl dL_law_317 ?_
  refine z_iconst 1 (by decide) dL_law_318 ?_
  refine z_iadd dL_law_319 ?_
  obtain ⟨v1, h2, h⟩ := zbind h
  refine z_xs hX hbl h2 dL_law_320 ?_
  refine z_aload_n (x := b0) rfl dL_law_321 ?_
  refine z_iload_n (x := x3) rfl dL_law_322 ?_
  refine z_iconst 2 (by decide) dL_law_323 ?_
  refine z_iadd dL_law_324 ?_
  obtain ⟨v2, h3, h⟩ := zbind h
  refine z_xs hX hbl h3 dL_law_325 ?_
  refine z_if_eq (tgt := 333) dL_law_326 (by decide) (fun c1 => ?_) (fun c1 => ?_)
  · have h := zift h c1
    refine z_iconst 0 (by decide) dL_law_333 ?_
    exact s_L_law_b334 hC hS hX hbl hk18 _ _ _ _ _ _ _ _ _ h
  · have h := zife h c1
    refine z_iconst 1 (by decide) dL_law_329 ?_
    refine z_goto (tgt := 334) dL_law_330 (by decide) ?_
    exact s_L_law_b334 hC hS hX hbl hk18 _ _ _ _ _ _ _ _ _ h
def f_L_law_b18 (sa : Nat → Nat) (sn : Nat) (xs : Nat → Int32)  : Nat → Nat → Nat → Int32 → zMe → Option (Int32 × zMe)
  | 0, _, _, _, _ => none
  | n + 1, x1, x2, x3, M =>
    if ((Int32.ofNat sn) - 7) < x3 then (
      some (1, M))
    else (
      (zxs sn xs x3).bind fun v1 =>
      if (v1 &&& 31) = 0 then (
        (zxs sn xs (x3 + 1)).bind fun v2 =>
        (zob M x1 11).bind fun _ =>
        (f_X11_places x1 v2 M).bind fun q1 =>
        (zxs sn xs (x3 + 1)).bind fun v3 =>
        (zob q1.2 x2 12).bind fun _ =>
        (f_X12_places x2 v3 q1.2).bind fun q2 =>
        if q1.1 = q2.1 then (
          f_L_law_b1080 sa sn xs (f_L_law_b18 sa sn xs n) x1 x2 x3 q2.2)
        else (
          some (0, q2.2)))
      else (
        if (v1 &&& 31) = 1 then (
          (zxs sn xs (x3 + 1)).bind fun v4 =>
          (zxs sn xs (x3 + 2)).bind fun v5 =>
          (zxs sn xs (x3 + 3)).bind fun v6 =>
          (zob M x1 11).bind fun _ =>
          (f_X11_dog x1 v4 v5 v6 M).bind fun q3 =>
          (zxs sn xs (x3 + 1)).bind fun v7 =>
          (zxs sn xs (x3 + 2)).bind fun v8 =>
          (zxs sn xs (x3 + 3)).bind fun v9 =>
          (zob q3.2 x2 12).bind fun _ =>
          (f_X12_dog x2 v7 v8 v9 q3.2).bind fun q4 =>
          if q3.1 = q4.1 then (
            f_L_law_b1080 sa sn xs (f_L_law_b18 sa sn xs n) x1 x2 x3 q4.2)
          else (
            some (0, q4.2)))
        else (
          if (v1 &&& 31) = 2 then (
            (zxs sn xs (x3 + 1)).bind fun v10 =>
            (zxs sn xs (x3 + 2)).bind fun v11 =>
            (zxs sn xs (x3 + 3)).bind fun v12 =>
            (zxs sn xs (x3 + 4)).bind fun v13 =>
            (zxs sn xs (x3 + 5)).bind fun v14 =>
            (zxs sn xs (x3 + 6)).bind fun v15 =>
            (zob M x1 11).bind fun _ =>
            (f_X11_pup x1 v10 v11 v12 v13 v14 v15 M).bind fun q5 =>
            (zxs sn xs (x3 + 1)).bind fun v16 =>
            (zxs sn xs (x3 + 2)).bind fun v17 =>
            (zxs sn xs (x3 + 3)).bind fun v18 =>
            (zxs sn xs (x3 + 4)).bind fun v19 =>
            (zxs sn xs (x3 + 5)).bind fun v20 =>
            (zxs sn xs (x3 + 6)).bind fun v21 =>
            (zob q5.2 x2 12).bind fun _ =>
            (f_X12_pup x2 v16 v17 v18 v19 v20 v21 q5.2).bind fun q6 =>
            if q5.1 = q6.1 then (
              f_L_law_b1080 sa sn xs (f_L_law_b18 sa sn xs n) x1 x2 x3 q6.2)
            else (
              some (0, q6.2)))
          else (
            if (v1 &&& 31) = 3 then (
              (zxs sn xs (x3 + 1)).bind fun v22 =>
              (zxs sn xs (x3 + 2)).bind fun v23 =>
              if v23 = 0 then (
                f_L_law_b312 sa sn xs (f_L_law_b18 sa sn xs n) x1 x2 x3 0 v22 x1 M)
              else (
                f_L_law_b312 sa sn xs (f_L_law_b18 sa sn xs n) x1 x2 x3 1 v22 x1 M))
            else (
              if (v1 &&& 31) = 4 then (
                (zxs sn xs (x3 + 1)).bind fun v24 =>
                (zxs sn xs (x3 + 2)).bind fun v25 =>
                (zob M x1 11).bind fun _ =>
                (f_X11_put x1 v24 v25 M).bind fun q7 =>
                (zxs sn xs (x3 + 1)).bind fun v26 =>
                (zxs sn xs (x3 + 2)).bind fun v27 =>
                (zob q7.2 x2 12).bind fun _ =>
                (f_X12_put x2 v26 v27 q7.2).bind fun q8 =>
                if q7.1 = q8.1 then (
                  f_L_law_b1080 sa sn xs (f_L_law_b18 sa sn xs n) x1 x2 x3 q8.2)
                else (
                  some (0, q8.2)))
              else (
                if (v1 &&& 31) = 5 then (
                  (zxs sn xs (x3 + 1)).bind fun v28 =>
                  (zxs sn xs (x3 + 2)).bind fun v29 =>
                  (zxs sn xs (x3 + 3)).bind fun v30 =>
                  (zob M x1 11).bind fun _ =>
                  (f_X11_type x1 ((v28.toInt64 <<< ((32 : Int32).toInt64 &&& 63)) ||| (v29.toInt64 &&& (4294967295 : Int64))) v30 M).bind fun q9 =>
                  (zxs sn xs (x3 + 1)).bind fun v31 =>
                  (zxs sn xs (x3 + 2)).bind fun v32 =>
                  (zxs sn xs (x3 + 3)).bind fun v33 =>
                  (zob q9.2 x2 12).bind fun _ =>
                  (f_X12_type x2 ((v31.toInt64 <<< ((32 : Int32).toInt64 &&& 63)) ||| (v32.toInt64 &&& (4294967295 : Int64))) v33 q9.2).bind fun q10 =>
                  if q9.1 = q10.1 then (
                    f_L_law_b1080 sa sn xs (f_L_law_b18 sa sn xs n) x1 x2 x3 q10.2)
                  else (
                    some (0, q10.2)))
                else (
                  if (v1 &&& 31) = 6 then (
                    (zob M x1 11).bind fun _ =>
                    (f_X11_clear x1 M).bind fun q11 =>
                    (zob q11.2 x2 12).bind fun _ =>
                    (f_X12_clear x2 q11.2).bind fun q12 =>
                    if q11.1 = q12.1 then (
                      f_L_law_b1080 sa sn xs (f_L_law_b18 sa sn xs n) x1 x2 x3 q12.2)
                    else (
                      some (0, q12.2)))
                  else (
                    if (v1 &&& 31) = 7 then (
                      (zob M x1 11).bind fun _ =>
                      (f_X11_read sa x1 M).bind fun q13 =>
                      (zob q13.2 x2 12).bind fun _ =>
                      (f_X12_read x2 q13.2).bind fun q14 =>
                      if q13.1 = q14.1 then (
                        f_L_law_b1080 sa sn xs (f_L_law_b18 sa sn xs n) x1 x2 x3 q14.2)
                      else (
                        some (0, q14.2)))
                    else (
                      if (v1 &&& 31) = 8 then (
                        (zxs sn xs (x3 + 1)).bind fun v34 =>
                        (zxs sn xs (x3 + 2)).bind fun v35 =>
                        (zxs sn xs (x3 + 3)).bind fun v36 =>
                        (zxs sn xs (x3 + 4)).bind fun v37 =>
                        (zob M x1 11).bind fun _ =>
                        (f_X11_goes x1 v34 v35 v36 v37 M).bind fun q15 =>
                        (zxs sn xs (x3 + 1)).bind fun v38 =>
                        (zxs sn xs (x3 + 2)).bind fun v39 =>
                        (zxs sn xs (x3 + 3)).bind fun v40 =>
                        (zxs sn xs (x3 + 4)).bind fun v41 =>
                        (zob q15.2 x2 12).bind fun _ =>
                        (f_X12_goes x2 v38 v39 v40 v41 q15.2).bind fun q16 =>
                        if q15.1 = q16.1 then (
                          f_L_law_b1080 sa sn xs (f_L_law_b18 sa sn xs n) x1 x2 x3 q16.2)
                        else (
                          some (0, q16.2)))
                      else (
                        if (v1 &&& 31) = 9 then (
                          (zxs sn xs (x3 + 1)).bind fun v42 =>
                          (zxs sn xs (x3 + 2)).bind fun v43 =>
                          (zxs sn xs (x3 + 3)).bind fun v44 =>
                          (zxs sn xs (x3 + 4)).bind fun v45 =>
                          (zob M x1 11).bind fun _ =>
                          (f_X11_run x1 v42 v43 v44 v45 M).bind fun q17 =>
                          (zxs sn xs (x3 + 1)).bind fun v46 =>
                          (zxs sn xs (x3 + 2)).bind fun v47 =>
                          (zxs sn xs (x3 + 3)).bind fun v48 =>
                          (zxs sn xs (x3 + 4)).bind fun v49 =>
                          (zob q17.2 x2 12).bind fun _ =>
                          (f_X12_run x2 v46 v47 v48 v49 q17.2).bind fun q18 =>
                          if q17.1 = q18.1 then (
                            f_L_law_b1080 sa sn xs (f_L_law_b18 sa sn xs n) x1 x2 x3 q18.2)
                          else (
                            some (0, q18.2)))
                        else (
                          if (v1 &&& 31) = 10 then (
                            (zxs sn xs (x3 + 1)).bind fun v50 =>
                            (zxs sn xs (x3 + 2)).bind fun v51 =>
                            (zxs sn xs (x3 + 3)).bind fun v52 =>
                            (zob M x1 11).bind fun _ =>
                            (f_X11_meets x1 v50 v51 v52 M).bind fun q19 =>
                            (zxs sn xs (x3 + 1)).bind fun v53 =>
                            (zxs sn xs (x3 + 2)).bind fun v54 =>
                            (zxs sn xs (x3 + 3)).bind fun v55 =>
                            (zob q19.2 x2 12).bind fun _ =>
                            (f_X12_meets x2 v53 v54 v55 q19.2).bind fun q20 =>
                            if q19.1 = q20.1 then (
                              f_L_law_b1080 sa sn xs (f_L_law_b18 sa sn xs n) x1 x2 x3 q20.2)
                            else (
                              some (0, q20.2)))
                          else (
                            if (v1 &&& 31) = 11 then (
                              (zxs sn xs (x3 + 1)).bind fun v56 =>
                              (zxs sn xs (x3 + 2)).bind fun v57 =>
                              (zob M x1 11).bind fun _ =>
                              (f_X11_tame x1 v56 v57 M).bind fun q21 =>
                              (zxs sn xs (x3 + 1)).bind fun v58 =>
                              (zxs sn xs (x3 + 2)).bind fun v59 =>
                              (zob q21.2 x2 12).bind fun _ =>
                              (f_X12_tame x2 v58 v59 q21.2).bind fun q22 =>
                              if q21.1 = q22.1 then (
                                f_L_law_b1080 sa sn xs (f_L_law_b18 sa sn xs n) x1 x2 x3 q22.2)
                              else (
                                some (0, q22.2)))
                            else (
                              if (v1 &&& 31) = 12 then (
                                (zxs sn xs (x3 + 1)).bind fun v60 =>
                                (zob M x1 11).bind fun _ =>
                                (f_X11_quiet x1 v60 M).bind fun q23 =>
                                (zxs sn xs (x3 + 1)).bind fun v61 =>
                                (zob q23.2 x2 12).bind fun _ =>
                                (f_X12_quiet x2 v61 q23.2).bind fun q24 =>
                                if q23.1 = q24.1 then (
                                  f_L_law_b1080 sa sn xs (f_L_law_b18 sa sn xs n) x1 x2 x3 q24.2)
                                else (
                                  some (0, q24.2)))
                              else (
                                if (v1 &&& 31) = 13 then (
                                  (zxs sn xs (x3 + 1)).bind fun v62 =>
                                  (zob M x1 11).bind fun _ =>
                                  (f_X11_apart x1 v62 M).bind fun q25 =>
                                  (zxs sn xs (x3 + 1)).bind fun v63 =>
                                  (zob q25.2 x2 12).bind fun _ =>
                                  (f_X12_apart x2 v63 q25.2).bind fun q26 =>
                                  if q25.1 = q26.1 then (
                                    f_L_law_b1080 sa sn xs (f_L_law_b18 sa sn xs n) x1 x2 x3 q26.2)
                                  else (
                                    some (0, q26.2)))
                                else (
                                  if (v1 &&& 31) = 14 then (
                                    (zxs sn xs (x3 + 1)).bind fun v64 =>
                                    (zob M x1 11).bind fun _ =>
                                    (f_X11_shuts x1 v64 M).bind fun q27 =>
                                    (zxs sn xs (x3 + 1)).bind fun v65 =>
                                    (zob q27.2 x2 12).bind fun _ =>
                                    (f_X12_shuts x2 v65 q27.2).bind fun q28 =>
                                    if q27.1 = q28.1 then (
                                      f_L_law_b1080 sa sn xs (f_L_law_b18 sa sn xs n) x1 x2 x3 q28.2)
                                    else (
                                      some (0, q28.2)))
                                  else (
                                    if (v1 &&& 31) = 15 then (
                                      (zxs sn xs (x3 + 1)).bind fun v66 =>
                                      (zxs sn xs (x3 + 2)).bind fun v67 =>
                                      (zxs sn xs (x3 + 3)).bind fun v68 =>
                                      (zxs sn xs (x3 + 4)).bind fun v69 =>
                                      (zob M x1 11).bind fun _ =>
                                      (f_X11_neighbour x1 v66 v67 v68 v69 M).bind fun q29 =>
                                      (zxs sn xs (x3 + 1)).bind fun v70 =>
                                      (zxs sn xs (x3 + 2)).bind fun v71 =>
                                      (zxs sn xs (x3 + 3)).bind fun v72 =>
                                      (zxs sn xs (x3 + 4)).bind fun v73 =>
                                      (zob q29.2 x2 12).bind fun _ =>
                                      (f_X12_neighbour x2 v70 v71 v72 v73 q29.2).bind fun q30 =>
                                      if q29.1 = q30.1 then (
                                        f_L_law_b1080 sa sn xs (f_L_law_b18 sa sn xs n) x1 x2 x3 q30.2)
                                      else (
                                        some (0, q30.2)))
                                    else (
                                      if (v1 &&& 31) = 16 then (
                                        (zxs sn xs (x3 + 1)).bind fun v74 =>
                                        (zxs sn xs (x3 + 2)).bind fun v75 =>
                                        (zxs sn xs (x3 + 3)).bind fun v76 =>
                                        (zob M x1 11).bind fun _ =>
                                        (f_X11_tells x1 v74 v75 v76 M).bind fun q31 =>
                                        (zxs sn xs (x3 + 1)).bind fun v77 =>
                                        (zxs sn xs (x3 + 2)).bind fun v78 =>
                                        (zxs sn xs (x3 + 3)).bind fun v79 =>
                                        (zob q31.2 x2 12).bind fun _ =>
                                        (f_X12_tells x2 v77 v78 v79 q31.2).bind fun q32 =>
                                        if q31.1 = q32.1 then (
                                          f_L_law_b1080 sa sn xs (f_L_law_b18 sa sn xs n) x1 x2 x3 q32.2)
                                        else (
                                          some (0, q32.2)))
                                      else (
                                        if (v1 &&& 31) = 17 then (
                                          (zxs sn xs (x3 + 1)).bind fun v80 =>
                                          (zxs sn xs (x3 + 2)).bind fun v81 =>
                                          (zxs sn xs (x3 + 3)).bind fun v82 =>
                                          (zob M x1 11).bind fun _ =>
                                          (f_X11_which x1 v80 v81 v82 M).bind fun q33 =>
                                          (zxs sn xs (x3 + 1)).bind fun v83 =>
                                          (zxs sn xs (x3 + 2)).bind fun v84 =>
                                          (zxs sn xs (x3 + 3)).bind fun v85 =>
                                          (zob q33.2 x2 12).bind fun _ =>
                                          (f_X12_which x2 v83 v84 v85 q33.2).bind fun q34 =>
                                          if q33.1 = q34.1 then (
                                            f_L_law_b1080 sa sn xs (f_L_law_b18 sa sn xs n) x1 x2 x3 q34.2)
                                          else (
                                            some (0, q34.2)))
                                        else (
                                          if (v1 &&& 31) = 18 then (
                                            (zxs sn xs (x3 + 1)).bind fun v86 =>
                                            (zxs sn xs (x3 + 2)).bind fun v87 =>
                                            (zxs sn xs (x3 + 3)).bind fun v88 =>
                                            (zxs sn xs (x3 + 4)).bind fun v89 =>
                                            (zob M x1 11).bind fun _ =>
                                            (f_X11_starts x1 v86 v87 v88 v89 M).bind fun q35 =>
                                            (zxs sn xs (x3 + 1)).bind fun v90 =>
                                            (zxs sn xs (x3 + 2)).bind fun v91 =>
                                            (zxs sn xs (x3 + 3)).bind fun v92 =>
                                            (zxs sn xs (x3 + 4)).bind fun v93 =>
                                            (zob q35.2 x2 12).bind fun _ =>
                                            (f_X12_starts x2 v90 v91 v92 v93 q35.2).bind fun q36 =>
                                            if q35.1 = q36.1 then (
                                              f_L_law_b1080 sa sn xs (f_L_law_b18 sa sn xs n) x1 x2 x3 q36.2)
                                            else (
                                              some (0, q36.2)))
                                          else (
                                            if (v1 &&& 31) = 19 then (
                                              (zxs sn xs (x3 + 1)).bind fun v94 =>
                                              (zxs sn xs (x3 + 2)).bind fun v95 =>
                                              (zxs sn xs (x3 + 3)).bind fun v96 =>
                                              (zob M x1 11).bind fun _ =>
                                              (f_X11_drawn x1 v94 v95 v96 M).bind fun q37 =>
                                              (zxs sn xs (x3 + 1)).bind fun v97 =>
                                              (zxs sn xs (x3 + 2)).bind fun v98 =>
                                              (zxs sn xs (x3 + 3)).bind fun v99 =>
                                              (zob q37.2 x2 12).bind fun _ =>
                                              (f_X12_drawn x2 v97 v98 v99 q37.2).bind fun q38 =>
                                              if q37.1 = q38.1 then (
                                                f_L_law_b1080 sa sn xs (f_L_law_b18 sa sn xs n) x1 x2 x3 q38.2)
                                              else (
                                                some (0, q38.2)))
                                            else (
                                              if (v1 &&& 31) = 20 then (
                                                (zxs sn xs (x3 + 1)).bind fun v100 =>
                                                (zob M x1 11).bind fun _ =>
                                                (f_X11_part x1 v100 M).bind fun q39 =>
                                                (zxs sn xs (x3 + 1)).bind fun v101 =>
                                                (zob q39.2 x2 12).bind fun _ =>
                                                (f_X12_part x2 v101 q39.2).bind fun q40 =>
                                                if (lg_cmp q39.1 q40.1) = 0 then (
                                                  f_L_law_b1080 sa sn xs (f_L_law_b18 sa sn xs n) x1 x2 x3 q40.2)
                                                else (
                                                  some (0, q40.2)))
                                              else (
                                                if (v1 &&& 31) = 21 then (
                                                  (zxs sn xs (x3 + 1)).bind fun v102 =>
                                                  (zob M x1 11).bind fun _ =>
                                                  (f_X11_image x1 v102 M).bind fun q41 =>
                                                  (zxs sn xs (x3 + 1)).bind fun v103 =>
                                                  (zob q41.2 x2 12).bind fun _ =>
                                                  (f_X12_image x2 v103 q41.2).bind fun q42 =>
                                                  if q41.1 = q42.1 then (
                                                    f_L_law_b1080 sa sn xs (f_L_law_b18 sa sn xs n) x1 x2 x3 q42.2)
                                                  else (
                                                    some (0, q42.2)))
                                                else (
                                                  if (v1 &&& 31) = 22 then (
                                                    (zxs sn xs (x3 + 1)).bind fun v104 =>
                                                    (zob M x1 11).bind fun _ =>
                                                    (f_X11_from x1 v104 M).bind fun q43 =>
                                                    (zxs sn xs (x3 + 1)).bind fun v105 =>
                                                    (zob q43.2 x2 12).bind fun _ =>
                                                    (f_X12_from x2 v105 q43.2).bind fun q44 =>
                                                    if q43.1 = q44.1 then (
                                                      f_L_law_b1080 sa sn xs (f_L_law_b18 sa sn xs n) x1 x2 x3 q44.2)
                                                    else (
                                                      some (0, q44.2)))
                                                  else (
                                                    if (v1 &&& 31) = 23 then (
                                                      (zxs sn xs (x3 + 1)).bind fun v106 =>
                                                      (zob M x1 11).bind fun _ =>
                                                      (f_X11_status x1 v106 M).bind fun q45 =>
                                                      (zxs sn xs (x3 + 1)).bind fun v107 =>
                                                      (zob q45.2 x2 12).bind fun _ =>
                                                      (f_X12_status x2 v107 q45.2).bind fun q46 =>
                                                      if q45.1 = q46.1 then (
                                                        f_L_law_b1080 sa sn xs (f_L_law_b18 sa sn xs n) x1 x2 x3 q46.2)
                                                      else (
                                                        some (0, q46.2)))
                                                    else (
                                                      if (v1 &&& 31) = 24 then (
                                                        (zxs sn xs (x3 + 1)).bind fun v108 =>
                                                        (zob M x1 11).bind fun _ =>
                                                        (f_X11_count x1 v108 M).bind fun q47 =>
                                                        (zxs sn xs (x3 + 1)).bind fun v109 =>
                                                        (zob q47.2 x2 12).bind fun _ =>
                                                        (f_X12_count x2 v109 q47.2).bind fun q48 =>
                                                        if q47.1 = q48.1 then (
                                                          f_L_law_b1080 sa sn xs (f_L_law_b18 sa sn xs n) x1 x2 x3 q48.2)
                                                        else (
                                                          some (0, q48.2)))
                                                      else (
                                                        if (v1 &&& 31) = 25 then (
                                                          (zob M x1 11).bind fun _ =>
                                                          (f_X11_digest x1 M).bind fun q49 =>
                                                          (zob q49.2 x2 12).bind fun _ =>
                                                          (f_X12_digest x2 q49.2).bind fun q50 =>
                                                          if (lg_cmp q49.1 q50.1) = 0 then (
                                                            f_L_law_b1080 sa sn xs (f_L_law_b18 sa sn xs n) x1 x2 x3 q50.2)
                                                          else (
                                                            some (0, q50.2)))
                                                        else (
                                                          f_L_law_b1080 sa sn xs (f_L_law_b18 sa sn xs n) x1 x2 x3 M)))))))))))))))))))))))))))
set_option maxHeartbeats 4000000 in
set_option maxRecDepth 100000 in
theorem s_L_law_b18 {g : zG} (hC : zC g) {sa : Nat → Nat} (hS : zCs g sa) {sn b0 : Nat} {xs : Nat → Int32} (hX : va_X b0 sn xs g.2.1 g.2.1.heap) (hbl : b0 < g.2.1.heap.size)  : ∀ (n : Nat) (x1 : Nat) (x2 : Nat) (x3 : Int32) (M : zMe) (q : (Int32 × zMe)), f_L_law_b18 sa sn xs  n x1 x2 x3 M = some q → zW g mL_law 18 [.ref b0, .ref x1, .ref x2, .int x3] [] M (some (.int q.1)) q.2 := by
  intro n
  induction n with
  | zero => intro x1 x2 x3 M q h; cases h
  | succ n ih =>
    intro x1 x2 x3 M q h
    rw [f_L_law_b18] at h
    refine z_iload_n (x := x3) rfl dL_law_18 ?_
    refine z_aload_n (x := b0) rfl dL_law_19 ?_
    refine z_xlen hX hbl dL_law_20 ?_
    refine z_bipush 7 (by decide) dL_law_21 ?_
    refine z_isub dL_law_23 ?_
    refine z_icmp_gt (tgt := 1086) dL_law_24 (by decide) (fun c1 => ?_) (fun c1 => ?_)
    · have h := zift h c1
      refine z_iconst 1 (by decide) dL_law_1086 ?_
      obtain rfl := Option.some.inj h
      exact z_iret ⟨.boolean, rfl, rfl⟩ dL_law_1087
    · have h := zife h c1
      refine z_aload_n (x := b0) rfl dL_law_27 ?_
      refine z_iload_n (x := x3) rfl dL_law_28 ?_
      obtain ⟨v1, h1, h⟩ := zbind h
      refine z_xs hX hbl h1 dL_law_29 ?_
      refine z_bipush 31 (by decide) dL_law_30 ?_
      refine z_iand dL_law_32 ?_
      by_cases c2 : (v1 &&& 31) = 0
      · have h := zift h c2
        refine z_tabIn (tgt := 152) 0 dL_law_33 c2 (by decide) (by decide) rfl (by decide) ?_
        refine z_aload_n (x := x1) rfl dL_law_152 ?_
        refine z_aload_n (x := b0) rfl dL_law_153 ?_
        refine z_iload_n (x := x3) rfl dL_law_154 ?_
        refine z_iconst 1 (by decide) dL_law_155 ?_
        refine z_iadd dL_law_156 ?_
        obtain ⟨v2, h2, h⟩ := zbind h
        refine z_xs hX hbl h2 dL_law_157 ?_
        obtain ⟨_, hb, h⟩ := zbind h
        obtain ⟨fs, hb⟩ := zob_some hb
        obtain ⟨q1, h3, h⟩ := zbind h
        refine z_callV (av := [.int v2]) (rest := []) hC zcl_11 hb (s_X11_places hC h3) lk_L_13 im_X11_places se_X11_places cd_X11_places ⟨by decide, by decide, (Nat.le_of_ble_eq_true rfl)⟩ dL_law_158 ?_
        clear hb fs
        refine zeqS (stk2 := [.int q1.1]) rfl ?_
        refine z_aload_n (x := x2) rfl dL_law_161 ?_
        refine z_aload_n (x := b0) rfl dL_law_162 ?_
        refine z_iload_n (x := x3) rfl dL_law_163 ?_
        refine z_iconst 1 (by decide) dL_law_164 ?_
        refine z_iadd dL_law_165 ?_
        obtain ⟨v3, h4, h⟩ := zbind h
        refine z_xs hX hbl h4 dL_law_166 ?_
        obtain ⟨_, hb, h⟩ := zbind h
        obtain ⟨fs, hb⟩ := zob_some hb
        obtain ⟨q2, h5, h⟩ := zbind h
        refine z_callV (av := [.int v3]) (rest := [.int q1.1]) hC zcl_12 hb (s_X12_places hC h5) lk_L_17 im_X12_places se_X12_places cd_X12_places ⟨by decide, by decide, (Nat.le_of_ble_eq_true rfl)⟩ dL_law_167 ?_
        clear hb fs
        refine zeqS (stk2 := [.int q2.1, .int q1.1]) rfl ?_
        refine z_icmp_eq (tgt := 1080) dL_law_170 (by decide) (fun c3 => ?_) (fun c3 => ?_)
        · have h := zift h c3
          exact s_L_law_b1080 hC hS hX hbl ih _ _ _ _ _ h
        · have h := zife h c3
          refine z_iconst 0 (by decide) dL_law_173 ?_
          obtain rfl := Option.some.inj h
          exact z_iret ⟨.boolean, rfl, rfl⟩ dL_law_174
      · have h := zife h c2
        by_cases c4 : (v1 &&& 31) = 1
        · have h := zift h c4
          refine z_tabIn (tgt := 175) 1 dL_law_33 c4 (by decide) (by decide) rfl (by decide) ?_
          refine z_aload_n (x := x1) rfl dL_law_175 ?_
          refine z_aload_n (x := b0) rfl dL_law_176 ?_
          refine z_iload_n (x := x3) rfl dL_law_177 ?_
          refine z_iconst 1 (by decide) dL_law_178 ?_
          refine z_iadd dL_law_179 ?_
          obtain ⟨v4, h6, h⟩ := zbind h
          refine z_xs hX hbl h6 dL_law_180 ?_
          refine z_aload_n (x := b0) rfl dL_law_181 ?_
          refine z_iload_n (x := x3) rfl dL_law_182 ?_
          refine z_iconst 2 (by decide) dL_law_183 ?_
          refine z_iadd dL_law_184 ?_
          obtain ⟨v5, h7, h⟩ := zbind h
          refine z_xs hX hbl h7 dL_law_185 ?_
          refine z_aload_n (x := b0) rfl dL_law_186 ?_
          refine z_iload_n (x := x3) rfl dL_law_187 ?_
          refine z_iconst 3 (by decide) dL_law_188 ?_
          refine z_iadd dL_law_189 ?_
          obtain ⟨v6, h8, h⟩ := zbind h
          refine z_xs hX hbl h8 dL_law_190 ?_
          obtain ⟨_, hb, h⟩ := zbind h
          obtain ⟨fs, hb⟩ := zob_some hb
          obtain ⟨q3, h9, h⟩ := zbind h
          refine z_callV (av := [.int v4, .int v5, .int v6]) (rest := []) hC zcl_11 hb (s_X11_dog hC h9) lk_L_18 im_X11_dog se_X11_dog cd_X11_dog ⟨by decide, by decide, (Nat.le_of_ble_eq_true rfl)⟩ dL_law_191 ?_
          clear hb fs
          refine zeqS (stk2 := [.int q3.1]) rfl ?_
          refine z_aload_n (x := x2) rfl dL_law_194 ?_
          refine z_aload_n (x := b0) rfl dL_law_195 ?_
          refine z_iload_n (x := x3) rfl dL_law_196 ?_
          refine z_iconst 1 (by decide) dL_law_197 ?_
          refine z_iadd dL_law_198 ?_
          obtain ⟨v7, h10, h⟩ := zbind h
          refine z_xs hX hbl h10 dL_law_199 ?_
          refine z_aload_n (x := b0) rfl dL_law_200 ?_
          refine z_iload_n (x := x3) rfl dL_law_201 ?_
          refine z_iconst 2 (by decide) dL_law_202 ?_
          refine z_iadd dL_law_203 ?_
          obtain ⟨v8, h11, h⟩ := zbind h
          refine z_xs hX hbl h11 dL_law_204 ?_
          refine z_aload_n (x := b0) rfl dL_law_205 ?_
          refine z_iload_n (x := x3) rfl dL_law_206 ?_
          refine z_iconst 3 (by decide) dL_law_207 ?_
          refine z_iadd dL_law_208 ?_
          obtain ⟨v9, h12, h⟩ := zbind h
          refine z_xs hX hbl h12 dL_law_209 ?_
          obtain ⟨_, hb, h⟩ := zbind h
          obtain ⟨fs, hb⟩ := zob_some hb
          obtain ⟨q4, h13, h⟩ := zbind h
          refine z_callV (av := [.int v7, .int v8, .int v9]) (rest := [.int q3.1]) hC zcl_12 hb (s_X12_dog hC h13) lk_L_22 im_X12_dog se_X12_dog cd_X12_dog ⟨by decide, by decide, (Nat.le_of_ble_eq_true rfl)⟩ dL_law_210 ?_
          clear hb fs
          refine zeqS (stk2 := [.int q4.1, .int q3.1]) rfl ?_
          refine z_icmp_eq (tgt := 1080) dL_law_213 (by decide) (fun c5 => ?_) (fun c5 => ?_)
          · have h := zift h c5
            exact s_L_law_b1080 hC hS hX hbl ih _ _ _ _ _ h
          · have h := zife h c5
            refine z_iconst 0 (by decide) dL_law_216 ?_
            obtain rfl := Option.some.inj h
            exact z_iret ⟨.boolean, rfl, rfl⟩ dL_law_217
        · have h := zife h c4
          by_cases c6 : (v1 &&& 31) = 2
          · have h := zift h c6
            refine z_tabIn (tgt := 218) 2 dL_law_33 c6 (by decide) (by decide) rfl (by decide) ?_
            refine z_aload_n (x := x1) rfl dL_law_218 ?_
            refine z_aload_n (x := b0) rfl dL_law_219 ?_
            refine z_iload_n (x := x3) rfl dL_law_220 ?_
            refine z_iconst 1 (by decide) dL_law_221 ?_
            refine z_iadd dL_law_222 ?_
            obtain ⟨v10, h14, h⟩ := zbind h
            refine z_xs hX hbl h14 dL_law_223 ?_
            refine z_aload_n (x := b0) rfl dL_law_224 ?_
            refine z_iload_n (x := x3) rfl dL_law_225 ?_
            refine z_iconst 2 (by decide) dL_law_226 ?_
            refine z_iadd dL_law_227 ?_
            obtain ⟨v11, h15, h⟩ := zbind h
            refine z_xs hX hbl h15 dL_law_228 ?_
            refine z_aload_n (x := b0) rfl dL_law_229 ?_
            refine z_iload_n (x := x3) rfl dL_law_230 ?_
            refine z_iconst 3 (by decide) dL_law_231 ?_
            refine z_iadd dL_law_232 ?_
            obtain ⟨v12, h16, h⟩ := zbind h
            refine z_xs hX hbl h16 dL_law_233 ?_
            refine z_aload_n (x := b0) rfl dL_law_234 ?_
            refine z_iload_n (x := x3) rfl dL_law_235 ?_
            refine z_iconst 4 (by decide) dL_law_236 ?_
            refine z_iadd dL_law_237 ?_
            obtain ⟨v13, h17, h⟩ := zbind h
            refine z_xs hX hbl h17 dL_law_238 ?_
            refine z_aload_n (x := b0) rfl dL_law_239 ?_
            refine z_iload_n (x := x3) rfl dL_law_240 ?_
            refine z_iconst 5 (by decide) dL_law_241 ?_
            refine z_iadd dL_law_242 ?_
            obtain ⟨v14, h18, h⟩ := zbind h
            refine z_xs hX hbl h18 dL_law_243 ?_
            refine z_aload_n (x := b0) rfl dL_law_244 ?_
            refine z_iload_n (x := x3) rfl dL_law_245 ?_
            refine z_bipush 6 (by decide) dL_law_246 ?_
            refine z_iadd dL_law_248 ?_
            obtain ⟨v15, h19, h⟩ := zbind h
            refine z_xs hX hbl h19 dL_law_249 ?_
            obtain ⟨_, hb, h⟩ := zbind h
            obtain ⟨fs, hb⟩ := zob_some hb
            obtain ⟨q5, h20, h⟩ := zbind h
            refine z_callV (av := [.int v10, .int v11, .int v12, .int v13, .int v14, .int v15]) (rest := []) hC zcl_11 hb (s_X11_pup hC h20) lk_L_23 im_X11_pup se_X11_pup cd_X11_pup ⟨by decide, by decide, (Nat.le_of_ble_eq_true rfl)⟩ dL_law_250 ?_
            clear hb fs
            refine zeqS (stk2 := [.int q5.1]) rfl ?_
            refine z_aload_n (x := x2) rfl dL_law_253 ?_
            refine z_aload_n (x := b0) rfl dL_law_254 ?_
            refine z_iload_n (x := x3) rfl dL_law_255 ?_
            refine z_iconst 1 (by decide) dL_law_256 ?_
            refine z_iadd dL_law_257 ?_
            obtain ⟨v16, h21, h⟩ := zbind h
            refine z_xs hX hbl h21 dL_law_258 ?_
            refine z_aload_n (x := b0) rfl dL_law_259 ?_
            refine z_iload_n (x := x3) rfl dL_law_260 ?_
            refine z_iconst 2 (by decide) dL_law_261 ?_
            refine z_iadd dL_law_262 ?_
            obtain ⟨v17, h22, h⟩ := zbind h
            refine z_xs hX hbl h22 dL_law_263 ?_
            refine z_aload_n (x := b0) rfl dL_law_264 ?_
            refine z_iload_n (x := x3) rfl dL_law_265 ?_
            refine z_iconst 3 (by decide) dL_law_266 ?_
            refine z_iadd dL_law_267 ?_
            obtain ⟨v18, h23, h⟩ := zbind h
            refine z_xs hX hbl h23 dL_law_268 ?_
            refine z_aload_n (x := b0) rfl dL_law_269 ?_
            refine z_iload_n (x := x3) rfl dL_law_270 ?_
            refine z_iconst 4 (by decide) dL_law_271 ?_
            refine z_iadd dL_law_272 ?_
            obtain ⟨v19, h24, h⟩ := zbind h
            refine z_xs hX hbl h24 dL_law_273 ?_
            refine z_aload_n (x := b0) rfl dL_law_274 ?_
            refine z_iload_n (x := x3) rfl dL_law_275 ?_
            refine z_iconst 5 (by decide) dL_law_276 ?_
            refine z_iadd dL_law_277 ?_
            obtain ⟨v20, h25, h⟩ := zbind h
            refine z_xs hX hbl h25 dL_law_278 ?_
            refine z_aload_n (x := b0) rfl dL_law_279 ?_
            refine z_iload_n (x := x3) rfl dL_law_280 ?_
            refine z_bipush 6 (by decide) dL_law_281 ?_
            refine z_iadd dL_law_283 ?_
            obtain ⟨v21, h26, h⟩ := zbind h
            refine z_xs hX hbl h26 dL_law_284 ?_
            obtain ⟨_, hb, h⟩ := zbind h
            obtain ⟨fs, hb⟩ := zob_some hb
            obtain ⟨q6, h27, h⟩ := zbind h
            refine z_callV (av := [.int v16, .int v17, .int v18, .int v19, .int v20, .int v21]) (rest := [.int q5.1]) hC zcl_12 hb (s_X12_pup hC h27) lk_L_27 im_X12_pup se_X12_pup cd_X12_pup ⟨by decide, by decide, (Nat.le_of_ble_eq_true rfl)⟩ dL_law_285 ?_
            clear hb fs
            refine zeqS (stk2 := [.int q6.1, .int q5.1]) rfl ?_
            refine z_icmp_eq (tgt := 1080) dL_law_288 (by decide) (fun c7 => ?_) (fun c7 => ?_)
            · have h := zift h c7
              exact s_L_law_b1080 hC hS hX hbl ih _ _ _ _ _ h
            · have h := zife h c7
              refine z_iconst 0 (by decide) dL_law_291 ?_
              obtain rfl := Option.some.inj h
              exact z_iret ⟨.boolean, rfl, rfl⟩ dL_law_292
          · have h := zife h c6
            by_cases c8 : (v1 &&& 31) = 3
            · have h := zift h c8
              refine z_tabIn (tgt := 293) 3 dL_law_33 c8 (by decide) (by decide) rfl (by decide) ?_
              refine z_aload_n (x := x1) rfl dL_law_293 ?_
              refine z_aload_n (x := b0) rfl dL_law_294 ?_
              refine z_iload_n (x := x3) rfl dL_law_295 ?_
              refine z_iconst 1 (by decide) dL_law_296 ?_
              refine z_iadd dL_law_297 ?_
              obtain ⟨v22, h28, h⟩ := zbind h
              refine z_xs hX hbl h28 dL_law_298 ?_
              refine z_aload_n (x := b0) rfl dL_law_299 ?_
              refine z_iload_n (x := x3) rfl dL_law_300 ?_
              refine z_iconst 2 (by decide) dL_law_301 ?_
              refine z_iadd dL_law_302 ?_
              obtain ⟨v23, h29, h⟩ := zbind h
              refine z_xs hX hbl h29 dL_law_303 ?_
              refine z_if_eq (tgt := 311) dL_law_304 (by decide) (fun c9 => ?_) (fun c9 => ?_)
              · have h := zift h c9
                refine z_iconst 0 (by decide) dL_law_311 ?_
                exact s_L_law_b312 hC hS hX hbl ih _ _ _ _ _ _ _ _ h
              · have h := zife h c9
                refine z_iconst 1 (by decide) dL_law_307 ?_
                refine z_goto (tgt := 312) dL_law_308 (by decide) ?_
                exact s_L_law_b312 hC hS hX hbl ih _ _ _ _ _ _ _ _ h
            · have h := zife h c8
              by_cases c10 : (v1 &&& 31) = 4
              · have h := zift h c10
                refine z_tabIn (tgt := 342) 4 dL_law_33 c10 (by decide) (by decide) rfl (by decide) ?_
                refine z_aload_n (x := x1) rfl dL_law_342 ?_
                refine z_aload_n (x := b0) rfl dL_law_343 ?_
                refine z_iload_n (x := x3) rfl dL_law_344 ?_
                refine z_iconst 1 (by decide) dL_law_345 ?_
                refine z_iadd dL_law_346 ?_
                obtain ⟨v24, h30, h⟩ := zbind h
                refine z_xs hX hbl h30 dL_law_347 ?_
                refine z_aload_n (x := b0) rfl dL_law_348 ?_
                refine z_iload_n (x := x3) rfl dL_law_349 ?_
                refine z_iconst 2 (by decide) dL_law_350 ?_
                refine z_iadd dL_law_351 ?_
                obtain ⟨v25, h31, h⟩ := zbind h
                refine z_xs hX hbl h31 dL_law_352 ?_
                obtain ⟨_, hb, h⟩ := zbind h
                obtain ⟨fs, hb⟩ := zob_some hb
                obtain ⟨q7, h32, h⟩ := zbind h
                refine z_callV (av := [.int v24, .int v25]) (rest := []) hC zcl_11 hb (s_X11_put hC h32) lk_L_33 im_X11_put se_X11_put cd_X11_put ⟨by decide, by decide, (Nat.le_of_ble_eq_true rfl)⟩ dL_law_353 ?_
                clear hb fs
                refine zeqS (stk2 := [.int q7.1]) rfl ?_
                refine z_aload_n (x := x2) rfl dL_law_356 ?_
                refine z_aload_n (x := b0) rfl dL_law_357 ?_
                refine z_iload_n (x := x3) rfl dL_law_358 ?_
                refine z_iconst 1 (by decide) dL_law_359 ?_
                refine z_iadd dL_law_360 ?_
                obtain ⟨v26, h33, h⟩ := zbind h
                refine z_xs hX hbl h33 dL_law_361 ?_
                refine z_aload_n (x := b0) rfl dL_law_362 ?_
                refine z_iload_n (x := x3) rfl dL_law_363 ?_
                refine z_iconst 2 (by decide) dL_law_364 ?_
                refine z_iadd dL_law_365 ?_
                obtain ⟨v27, h34, h⟩ := zbind h
                refine z_xs hX hbl h34 dL_law_366 ?_
                obtain ⟨_, hb, h⟩ := zbind h
                obtain ⟨fs, hb⟩ := zob_some hb
                obtain ⟨q8, h35, h⟩ := zbind h
                refine z_callV (av := [.int v26, .int v27]) (rest := [.int q7.1]) hC zcl_12 hb (s_X12_put hC h35) lk_L_37 im_X12_put se_X12_put cd_X12_put ⟨by decide, by decide, (Nat.le_of_ble_eq_true rfl)⟩ dL_law_367 ?_
                clear hb fs
                refine zeqS (stk2 := [.int q8.1, .int q7.1]) rfl ?_
                refine z_icmp_eq (tgt := 1080) dL_law_370 (by decide) (fun c11 => ?_) (fun c11 => ?_)
                · have h := zift h c11
                  exact s_L_law_b1080 hC hS hX hbl ih _ _ _ _ _ h
                · have h := zife h c11
                  refine z_iconst 0 (by decide) dL_law_373 ?_
                  obtain rfl := Option.some.inj h
                  exact z_iret ⟨.boolean, rfl, rfl⟩ dL_law_374
              · have h := zife h c10
                by_cases c12 : (v1 &&& 31) = 5
                · have h := zift h c12
                  refine z_tabIn (tgt := 375) 5 dL_law_33 c12 (by decide) (by decide) rfl (by decide) ?_
                  refine z_aload_n (x := x1) rfl dL_law_375 ?_
                  refine z_aload_n (x := b0) rfl dL_law_376 ?_
                  refine z_iload_n (x := x3) rfl dL_law_377 ?_
                  refine z_iconst 1 (by decide) dL_law_378 ?_
                  refine z_iadd dL_law_379 ?_
                  obtain ⟨v28, h36, h⟩ := zbind h
                  refine z_xs hX hbl h36 dL_law_380 ?_
                  refine z_i2l dL_law_381 ?_
                  refine z_bipush 32 (by decide) dL_law_382 ?_
                  refine z_lshl dL_law_384 ?_
                  refine z_aload_n (x := b0) rfl dL_law_385 ?_
                  refine z_iload_n (x := x3) rfl dL_law_386 ?_
                  refine z_iconst 2 (by decide) dL_law_387 ?_
                  refine z_iadd dL_law_388 ?_
                  obtain ⟨v29, h37, h⟩ := zbind h
                  refine z_xs hX hbl h37 dL_law_389 ?_
                  refine z_i2l dL_law_390 ?_
                  refine z_ldc2 hC dL_law_391 kl_L_38 ?_
                  refine z_land dL_law_394 ?_
                  refine z_lor dL_law_395 ?_
                  refine z_aload_n (x := b0) rfl dL_law_396 ?_
                  refine z_iload_n (x := x3) rfl dL_law_397 ?_
                  refine z_iconst 3 (by decide) dL_law_398 ?_
                  refine z_iadd dL_law_399 ?_
                  obtain ⟨v30, h38, h⟩ := zbind h
                  refine z_xs hX hbl h38 dL_law_400 ?_
                  obtain ⟨_, hb, h⟩ := zbind h
                  obtain ⟨fs, hb⟩ := zob_some hb
                  obtain ⟨q9, h39, h⟩ := zbind h
                  refine z_callV (av := [.long ((v28.toInt64 <<< ((32 : Int32).toInt64 &&& 63)) ||| (v29.toInt64 &&& (4294967295 : Int64))), .int v30]) (rest := []) hC zcl_11 hb (s_X11_type hC h39) lk_L_40 im_X11_type se_X11_type cd_X11_type ⟨by decide, by decide, (Nat.le_of_ble_eq_true rfl)⟩ dL_law_401 ?_
                  clear hb fs
                  refine zeqS (stk2 := [.int q9.1]) rfl ?_
                  refine z_aload_n (x := x2) rfl dL_law_404 ?_
                  refine z_aload_n (x := b0) rfl dL_law_405 ?_
                  refine z_iload_n (x := x3) rfl dL_law_406 ?_
                  refine z_iconst 1 (by decide) dL_law_407 ?_
                  refine z_iadd dL_law_408 ?_
                  obtain ⟨v31, h40, h⟩ := zbind h
                  refine z_xs hX hbl h40 dL_law_409 ?_
                  refine z_i2l dL_law_410 ?_
                  refine z_bipush 32 (by decide) dL_law_411 ?_
                  refine z_lshl dL_law_413 ?_
                  refine z_aload_n (x := b0) rfl dL_law_414 ?_
                  refine z_iload_n (x := x3) rfl dL_law_415 ?_
                  refine z_iconst 2 (by decide) dL_law_416 ?_
                  refine z_iadd dL_law_417 ?_
                  obtain ⟨v32, h41, h⟩ := zbind h
                  refine z_xs hX hbl h41 dL_law_418 ?_
                  refine z_i2l dL_law_419 ?_
                  refine z_ldc2 hC dL_law_420 kl_L_38 ?_
                  refine z_land dL_law_423 ?_
                  refine z_lor dL_law_424 ?_
                  refine z_aload_n (x := b0) rfl dL_law_425 ?_
                  refine z_iload_n (x := x3) rfl dL_law_426 ?_
                  refine z_iconst 3 (by decide) dL_law_427 ?_
                  refine z_iadd dL_law_428 ?_
                  obtain ⟨v33, h42, h⟩ := zbind h
                  refine z_xs hX hbl h42 dL_law_429 ?_
                  obtain ⟨_, hb, h⟩ := zbind h
                  obtain ⟨fs, hb⟩ := zob_some hb
                  obtain ⟨q10, h43, h⟩ := zbind h
                  refine z_callV (av := [.long ((v31.toInt64 <<< ((32 : Int32).toInt64 &&& 63)) ||| (v32.toInt64 &&& (4294967295 : Int64))), .int v33]) (rest := [.int q9.1]) hC zcl_12 hb (s_X12_type hC h43) lk_L_44 im_X12_type se_X12_type cd_X12_type ⟨by decide, by decide, (Nat.le_of_ble_eq_true rfl)⟩ dL_law_430 ?_
                  clear hb fs
                  refine zeqS (stk2 := [.int q10.1, .int q9.1]) rfl ?_
                  refine z_icmp_eq (tgt := 1080) dL_law_433 (by decide) (fun c13 => ?_) (fun c13 => ?_)
                  · have h := zift h c13
                    exact s_L_law_b1080 hC hS hX hbl ih _ _ _ _ _ h
                  · have h := zife h c13
                    refine z_iconst 0 (by decide) dL_law_436 ?_
                    obtain rfl := Option.some.inj h
                    exact z_iret ⟨.boolean, rfl, rfl⟩ dL_law_437
                · have h := zife h c12
                  by_cases c14 : (v1 &&& 31) = 6
                  · have h := zift h c14
                    refine z_tabIn (tgt := 438) 6 dL_law_33 c14 (by decide) (by decide) rfl (by decide) ?_
                    refine z_aload_n (x := x1) rfl dL_law_438 ?_
                    obtain ⟨_, hb, h⟩ := zbind h
                    obtain ⟨fs, hb⟩ := zob_some hb
                    obtain ⟨q11, h44, h⟩ := zbind h
                    refine z_callV (av := []) (rest := []) hC zcl_11 hb (s_X11_clear hC h44) lk_L_45 im_X11_clear se_X11_clear cd_X11_clear ⟨by decide, by decide, (Nat.le_of_ble_eq_true rfl)⟩ dL_law_439 ?_
                    clear hb fs
                    refine zeqS (stk2 := [.int q11.1]) rfl ?_
                    refine z_aload_n (x := x2) rfl dL_law_442 ?_
                    obtain ⟨_, hb, h⟩ := zbind h
                    obtain ⟨fs, hb⟩ := zob_some hb
                    obtain ⟨q12, h45, h⟩ := zbind h
                    refine z_callV (av := []) (rest := [.int q11.1]) hC zcl_12 hb (s_X12_clear hC h45) lk_L_49 im_X12_clear se_X12_clear cd_X12_clear ⟨by decide, by decide, (Nat.le_of_ble_eq_true rfl)⟩ dL_law_443 ?_
                    clear hb fs
                    refine zeqS (stk2 := [.int q12.1, .int q11.1]) rfl ?_
                    refine z_icmp_eq (tgt := 1080) dL_law_446 (by decide) (fun c15 => ?_) (fun c15 => ?_)
                    · have h := zift h c15
                      exact s_L_law_b1080 hC hS hX hbl ih _ _ _ _ _ h
                    · have h := zife h c15
                      refine z_iconst 0 (by decide) dL_law_449 ?_
                      obtain rfl := Option.some.inj h
                      exact z_iret ⟨.boolean, rfl, rfl⟩ dL_law_450
                  · have h := zife h c14
                    by_cases c16 : (v1 &&& 31) = 7
                    · have h := zift h c16
                      refine z_tabIn (tgt := 451) 7 dL_law_33 c16 (by decide) (by decide) rfl (by decide) ?_
                      refine z_aload_n (x := x1) rfl dL_law_451 ?_
                      obtain ⟨_, hb, h⟩ := zbind h
                      obtain ⟨fs, hb⟩ := zob_some hb
                      obtain ⟨q13, h46, h⟩ := zbind h
                      refine z_callV (av := []) (rest := []) hC zcl_11 hb (s_X11_read hC hS h46) lk_L_50 im_X11_read se_X11_read cd_X11_read ⟨by decide, by decide, (Nat.le_of_ble_eq_true rfl)⟩ dL_law_452 ?_
                      clear hb fs
                      refine zeqS (stk2 := [.int q13.1]) rfl ?_
                      refine z_aload_n (x := x2) rfl dL_law_455 ?_
                      obtain ⟨_, hb, h⟩ := zbind h
                      obtain ⟨fs, hb⟩ := zob_some hb
                      obtain ⟨q14, h47, h⟩ := zbind h
                      refine z_callV (av := []) (rest := [.int q13.1]) hC zcl_12 hb (s_X12_read hC h47) lk_L_53 im_X12_read se_X12_read cd_X12_read ⟨by decide, by decide, (Nat.le_of_ble_eq_true rfl)⟩ dL_law_456 ?_
                      clear hb fs
                      refine zeqS (stk2 := [.int q14.1, .int q13.1]) rfl ?_
                      refine z_icmp_eq (tgt := 1080) dL_law_459 (by decide) (fun c17 => ?_) (fun c17 => ?_)
                      · have h := zift h c17
                        exact s_L_law_b1080 hC hS hX hbl ih _ _ _ _ _ h
                      · have h := zife h c17
                        refine z_iconst 0 (by decide) dL_law_462 ?_
                        obtain rfl := Option.some.inj h
                        exact z_iret ⟨.boolean, rfl, rfl⟩ dL_law_463
                    · have h := zife h c16
                      by_cases c18 : (v1 &&& 31) = 8
                      · have h := zift h c18
                        refine z_tabIn (tgt := 464) 8 dL_law_33 c18 (by decide) (by decide) rfl (by decide) ?_
                        refine z_aload_n (x := x1) rfl dL_law_464 ?_
                        refine z_aload_n (x := b0) rfl dL_law_465 ?_
                        refine z_iload_n (x := x3) rfl dL_law_466 ?_
                        refine z_iconst 1 (by decide) dL_law_467 ?_
                        refine z_iadd dL_law_468 ?_
                        obtain ⟨v34, h48, h⟩ := zbind h
                        refine z_xs hX hbl h48 dL_law_469 ?_
                        refine z_aload_n (x := b0) rfl dL_law_470 ?_
                        refine z_iload_n (x := x3) rfl dL_law_471 ?_
                        refine z_iconst 2 (by decide) dL_law_472 ?_
                        refine z_iadd dL_law_473 ?_
                        obtain ⟨v35, h49, h⟩ := zbind h
                        refine z_xs hX hbl h49 dL_law_474 ?_
                        refine z_aload_n (x := b0) rfl dL_law_475 ?_
                        refine z_iload_n (x := x3) rfl dL_law_476 ?_
                        refine z_iconst 3 (by decide) dL_law_477 ?_
                        refine z_iadd dL_law_478 ?_
                        obtain ⟨v36, h50, h⟩ := zbind h
                        refine z_xs hX hbl h50 dL_law_479 ?_
                        refine z_aload_n (x := b0) rfl dL_law_480 ?_
                        refine z_iload_n (x := x3) rfl dL_law_481 ?_
                        refine z_iconst 4 (by decide) dL_law_482 ?_
                        refine z_iadd dL_law_483 ?_
                        obtain ⟨v37, h51, h⟩ := zbind h
                        refine z_xs hX hbl h51 dL_law_484 ?_
                        obtain ⟨_, hb, h⟩ := zbind h
                        obtain ⟨fs, hb⟩ := zob_some hb
                        obtain ⟨q15, h52, h⟩ := zbind h
                        refine z_callV (av := [.int v34, .int v35, .int v36, .int v37]) (rest := []) hC zcl_11 hb (s_X11_goes hC h52) lk_L_54 im_X11_goes se_X11_goes cd_X11_goes ⟨by decide, by decide, (Nat.le_of_ble_eq_true rfl)⟩ dL_law_485 ?_
                        clear hb fs
                        refine zeqS (stk2 := [.int q15.1]) rfl ?_
                        refine z_aload_n (x := x2) rfl dL_law_488 ?_
                        refine z_aload_n (x := b0) rfl dL_law_489 ?_
                        refine z_iload_n (x := x3) rfl dL_law_490 ?_
                        refine z_iconst 1 (by decide) dL_law_491 ?_
                        refine z_iadd dL_law_492 ?_
                        obtain ⟨v38, h53, h⟩ := zbind h
                        refine z_xs hX hbl h53 dL_law_493 ?_
                        refine z_aload_n (x := b0) rfl dL_law_494 ?_
                        refine z_iload_n (x := x3) rfl dL_law_495 ?_
                        refine z_iconst 2 (by decide) dL_law_496 ?_
                        refine z_iadd dL_law_497 ?_
                        obtain ⟨v39, h54, h⟩ := zbind h
                        refine z_xs hX hbl h54 dL_law_498 ?_
                        refine z_aload_n (x := b0) rfl dL_law_499 ?_
                        refine z_iload_n (x := x3) rfl dL_law_500 ?_
                        refine z_iconst 3 (by decide) dL_law_501 ?_
                        refine z_iadd dL_law_502 ?_
                        obtain ⟨v40, h55, h⟩ := zbind h
                        refine z_xs hX hbl h55 dL_law_503 ?_
                        refine z_aload_n (x := b0) rfl dL_law_504 ?_
                        refine z_iload_n (x := x3) rfl dL_law_505 ?_
                        refine z_iconst 4 (by decide) dL_law_506 ?_
                        refine z_iadd dL_law_507 ?_
                        obtain ⟨v41, h56, h⟩ := zbind h
                        refine z_xs hX hbl h56 dL_law_508 ?_
                        obtain ⟨_, hb, h⟩ := zbind h
                        obtain ⟨fs, hb⟩ := zob_some hb
                        obtain ⟨q16, h57, h⟩ := zbind h
                        refine z_callV (av := [.int v38, .int v39, .int v40, .int v41]) (rest := [.int q15.1]) hC zcl_12 hb (s_X12_goes hC h57) lk_L_58 im_X12_goes se_X12_goes cd_X12_goes ⟨by decide, by decide, (Nat.le_of_ble_eq_true rfl)⟩ dL_law_509 ?_
                        clear hb fs
                        refine zeqS (stk2 := [.int q16.1, .int q15.1]) rfl ?_
                        refine z_icmp_eq (tgt := 1080) dL_law_512 (by decide) (fun c19 => ?_) (fun c19 => ?_)
                        · have h := zift h c19
                          exact s_L_law_b1080 hC hS hX hbl ih _ _ _ _ _ h
                        · have h := zife h c19
                          refine z_iconst 0 (by decide) dL_law_515 ?_
                          obtain rfl := Option.some.inj h
                          exact z_iret ⟨.boolean, rfl, rfl⟩ dL_law_516
                      · have h := zife h c18
                        by_cases c20 : (v1 &&& 31) = 9
                        · have h := zift h c20
                          refine z_tabIn (tgt := 517) 9 dL_law_33 c20 (by decide) (by decide) rfl (by decide) ?_
                          refine z_aload_n (x := x1) rfl dL_law_517 ?_
                          refine z_aload_n (x := b0) rfl dL_law_518 ?_
                          refine z_iload_n (x := x3) rfl dL_law_519 ?_
                          refine z_iconst 1 (by decide) dL_law_520 ?_
                          refine z_iadd dL_law_521 ?_
                          obtain ⟨v42, h58, h⟩ := zbind h
                          refine z_xs hX hbl h58 dL_law_522 ?_
                          refine z_aload_n (x := b0) rfl dL_law_523 ?_
                          refine z_iload_n (x := x3) rfl dL_law_524 ?_
                          refine z_iconst 2 (by decide) dL_law_525 ?_
                          refine z_iadd dL_law_526 ?_
                          obtain ⟨v43, h59, h⟩ := zbind h
                          refine z_xs hX hbl h59 dL_law_527 ?_
                          refine z_aload_n (x := b0) rfl dL_law_528 ?_
                          refine z_iload_n (x := x3) rfl dL_law_529 ?_
                          refine z_iconst 3 (by decide) dL_law_530 ?_
                          refine z_iadd dL_law_531 ?_
                          obtain ⟨v44, h60, h⟩ := zbind h
                          refine z_xs hX hbl h60 dL_law_532 ?_
                          refine z_aload_n (x := b0) rfl dL_law_533 ?_
                          refine z_iload_n (x := x3) rfl dL_law_534 ?_
                          refine z_iconst 4 (by decide) dL_law_535 ?_
                          refine z_iadd dL_law_536 ?_
                          obtain ⟨v45, h61, h⟩ := zbind h
                          refine z_xs hX hbl h61 dL_law_537 ?_
                          obtain ⟨_, hb, h⟩ := zbind h
                          obtain ⟨fs, hb⟩ := zob_some hb
                          obtain ⟨q17, h62, h⟩ := zbind h
                          refine z_callV (av := [.int v42, .int v43, .int v44, .int v45]) (rest := []) hC zcl_11 hb (s_X11_run hC h62) lk_L_59 im_X11_run se_X11_run cd_X11_run ⟨by decide, by decide, (Nat.le_of_ble_eq_true rfl)⟩ dL_law_538 ?_
                          clear hb fs
                          refine zeqS (stk2 := [.int q17.1]) rfl ?_
                          refine z_aload_n (x := x2) rfl dL_law_541 ?_
                          refine z_aload_n (x := b0) rfl dL_law_542 ?_
                          refine z_iload_n (x := x3) rfl dL_law_543 ?_
                          refine z_iconst 1 (by decide) dL_law_544 ?_
                          refine z_iadd dL_law_545 ?_
                          obtain ⟨v46, h63, h⟩ := zbind h
                          refine z_xs hX hbl h63 dL_law_546 ?_
                          refine z_aload_n (x := b0) rfl dL_law_547 ?_
                          refine z_iload_n (x := x3) rfl dL_law_548 ?_
                          refine z_iconst 2 (by decide) dL_law_549 ?_
                          refine z_iadd dL_law_550 ?_
                          obtain ⟨v47, h64, h⟩ := zbind h
                          refine z_xs hX hbl h64 dL_law_551 ?_
                          refine z_aload_n (x := b0) rfl dL_law_552 ?_
                          refine z_iload_n (x := x3) rfl dL_law_553 ?_
                          refine z_iconst 3 (by decide) dL_law_554 ?_
                          refine z_iadd dL_law_555 ?_
                          obtain ⟨v48, h65, h⟩ := zbind h
                          refine z_xs hX hbl h65 dL_law_556 ?_
                          refine z_aload_n (x := b0) rfl dL_law_557 ?_
                          refine z_iload_n (x := x3) rfl dL_law_558 ?_
                          refine z_iconst 4 (by decide) dL_law_559 ?_
                          refine z_iadd dL_law_560 ?_
                          obtain ⟨v49, h66, h⟩ := zbind h
                          refine z_xs hX hbl h66 dL_law_561 ?_
                          obtain ⟨_, hb, h⟩ := zbind h
                          obtain ⟨fs, hb⟩ := zob_some hb
                          obtain ⟨q18, h67, h⟩ := zbind h
                          refine z_callV (av := [.int v46, .int v47, .int v48, .int v49]) (rest := [.int q17.1]) hC zcl_12 hb (s_X12_run hC h67) lk_L_62 im_X12_run se_X12_run cd_X12_run ⟨by decide, by decide, (Nat.le_of_ble_eq_true rfl)⟩ dL_law_562 ?_
                          clear hb fs
                          refine zeqS (stk2 := [.int q18.1, .int q17.1]) rfl ?_
                          refine z_icmp_eq (tgt := 1080) dL_law_565 (by decide) (fun c21 => ?_) (fun c21 => ?_)
                          · have h := zift h c21
                            exact s_L_law_b1080 hC hS hX hbl ih _ _ _ _ _ h
                          · have h := zife h c21
                            refine z_iconst 0 (by decide) dL_law_568 ?_
                            obtain rfl := Option.some.inj h
                            exact z_iret ⟨.boolean, rfl, rfl⟩ dL_law_569
                        · have h := zife h c20
                          by_cases c22 : (v1 &&& 31) = 10
                          · have h := zift h c22
                            refine z_tabIn (tgt := 570) 10 dL_law_33 c22 (by decide) (by decide) rfl (by decide) ?_
                            refine z_aload_n (x := x1) rfl dL_law_570 ?_
                            refine z_aload_n (x := b0) rfl dL_law_571 ?_
                            refine z_iload_n (x := x3) rfl dL_law_572 ?_
                            refine z_iconst 1 (by decide) dL_law_573 ?_
                            refine z_iadd dL_law_574 ?_
                            obtain ⟨v50, h68, h⟩ := zbind h
                            refine z_xs hX hbl h68 dL_law_575 ?_
                            refine z_aload_n (x := b0) rfl dL_law_576 ?_
                            refine z_iload_n (x := x3) rfl dL_law_577 ?_
                            refine z_iconst 2 (by decide) dL_law_578 ?_
                            refine z_iadd dL_law_579 ?_
                            obtain ⟨v51, h69, h⟩ := zbind h
                            refine z_xs hX hbl h69 dL_law_580 ?_
                            refine z_aload_n (x := b0) rfl dL_law_581 ?_
                            refine z_iload_n (x := x3) rfl dL_law_582 ?_
                            refine z_iconst 3 (by decide) dL_law_583 ?_
                            refine z_iadd dL_law_584 ?_
                            obtain ⟨v52, h70, h⟩ := zbind h
                            refine z_xs hX hbl h70 dL_law_585 ?_
                            obtain ⟨_, hb, h⟩ := zbind h
                            obtain ⟨fs, hb⟩ := zob_some hb
                            obtain ⟨q19, h71, h⟩ := zbind h
                            refine z_callV (av := [.int v50, .int v51, .int v52]) (rest := []) hC zcl_11 hb (s_X11_meets hC h71) lk_L_63 im_X11_meets se_X11_meets cd_X11_meets ⟨by decide, by decide, (Nat.le_of_ble_eq_true rfl)⟩ dL_law_586 ?_
                            clear hb fs
                            refine zeqS (stk2 := [.int q19.1]) rfl ?_
                            refine z_aload_n (x := x2) rfl dL_law_589 ?_
                            refine z_aload_n (x := b0) rfl dL_law_590 ?_
                            refine z_iload_n (x := x3) rfl dL_law_591 ?_
                            refine z_iconst 1 (by decide) dL_law_592 ?_
                            refine z_iadd dL_law_593 ?_
                            obtain ⟨v53, h72, h⟩ := zbind h
                            refine z_xs hX hbl h72 dL_law_594 ?_
                            refine z_aload_n (x := b0) rfl dL_law_595 ?_
                            refine z_iload_n (x := x3) rfl dL_law_596 ?_
                            refine z_iconst 2 (by decide) dL_law_597 ?_
                            refine z_iadd dL_law_598 ?_
                            obtain ⟨v54, h73, h⟩ := zbind h
                            refine z_xs hX hbl h73 dL_law_599 ?_
                            refine z_aload_n (x := b0) rfl dL_law_600 ?_
                            refine z_iload_n (x := x3) rfl dL_law_601 ?_
                            refine z_iconst 3 (by decide) dL_law_602 ?_
                            refine z_iadd dL_law_603 ?_
                            obtain ⟨v55, h74, h⟩ := zbind h
                            refine z_xs hX hbl h74 dL_law_604 ?_
                            obtain ⟨_, hb, h⟩ := zbind h
                            obtain ⟨fs, hb⟩ := zob_some hb
                            obtain ⟨q20, h75, h⟩ := zbind h
                            refine z_callV (av := [.int v53, .int v54, .int v55]) (rest := [.int q19.1]) hC zcl_12 hb (s_X12_meets hC h75) lk_L_66 im_X12_meets se_X12_meets cd_X12_meets ⟨by decide, by decide, (Nat.le_of_ble_eq_true rfl)⟩ dL_law_605 ?_
                            clear hb fs
                            refine zeqS (stk2 := [.int q20.1, .int q19.1]) rfl ?_
                            refine z_icmp_eq (tgt := 1080) dL_law_608 (by decide) (fun c23 => ?_) (fun c23 => ?_)
                            · have h := zift h c23
                              exact s_L_law_b1080 hC hS hX hbl ih _ _ _ _ _ h
                            · have h := zife h c23
                              refine z_iconst 0 (by decide) dL_law_611 ?_
                              obtain rfl := Option.some.inj h
                              exact z_iret ⟨.boolean, rfl, rfl⟩ dL_law_612
                          · have h := zife h c22
                            by_cases c24 : (v1 &&& 31) = 11
                            · have h := zift h c24
                              refine z_tabIn (tgt := 613) 11 dL_law_33 c24 (by decide) (by decide) rfl (by decide) ?_
                              refine z_aload_n (x := x1) rfl dL_law_613 ?_
                              refine z_aload_n (x := b0) rfl dL_law_614 ?_
                              refine z_iload_n (x := x3) rfl dL_law_615 ?_
                              refine z_iconst 1 (by decide) dL_law_616 ?_
                              refine z_iadd dL_law_617 ?_
                              obtain ⟨v56, h76, h⟩ := zbind h
                              refine z_xs hX hbl h76 dL_law_618 ?_
                              refine z_aload_n (x := b0) rfl dL_law_619 ?_
                              refine z_iload_n (x := x3) rfl dL_law_620 ?_
                              refine z_iconst 2 (by decide) dL_law_621 ?_
                              refine z_iadd dL_law_622 ?_
                              obtain ⟨v57, h77, h⟩ := zbind h
                              refine z_xs hX hbl h77 dL_law_623 ?_
                              obtain ⟨_, hb, h⟩ := zbind h
                              obtain ⟨fs, hb⟩ := zob_some hb
                              obtain ⟨q21, h78, h⟩ := zbind h
                              refine z_callV (av := [.int v56, .int v57]) (rest := []) hC zcl_11 hb (s_X11_tame hC h78) lk_L_67 im_X11_tame se_X11_tame cd_X11_tame ⟨by decide, by decide, (Nat.le_of_ble_eq_true rfl)⟩ dL_law_624 ?_
                              clear hb fs
                              refine zeqS (stk2 := [.int q21.1]) rfl ?_
                              refine z_aload_n (x := x2) rfl dL_law_627 ?_
                              refine z_aload_n (x := b0) rfl dL_law_628 ?_
                              refine z_iload_n (x := x3) rfl dL_law_629 ?_
                              refine z_iconst 1 (by decide) dL_law_630 ?_
                              refine z_iadd dL_law_631 ?_
                              obtain ⟨v58, h79, h⟩ := zbind h
                              refine z_xs hX hbl h79 dL_law_632 ?_
                              refine z_aload_n (x := b0) rfl dL_law_633 ?_
                              refine z_iload_n (x := x3) rfl dL_law_634 ?_
                              refine z_iconst 2 (by decide) dL_law_635 ?_
                              refine z_iadd dL_law_636 ?_
                              obtain ⟨v59, h80, h⟩ := zbind h
                              refine z_xs hX hbl h80 dL_law_637 ?_
                              obtain ⟨_, hb, h⟩ := zbind h
                              obtain ⟨fs, hb⟩ := zob_some hb
                              obtain ⟨q22, h81, h⟩ := zbind h
                              refine z_callV (av := [.int v58, .int v59]) (rest := [.int q21.1]) hC zcl_12 hb (s_X12_tame hC h81) lk_L_70 im_X12_tame se_X12_tame cd_X12_tame ⟨by decide, by decide, (Nat.le_of_ble_eq_true rfl)⟩ dL_law_638 ?_
                              clear hb fs
                              refine zeqS (stk2 := [.int q22.1, .int q21.1]) rfl ?_
                              refine z_icmp_eq (tgt := 1080) dL_law_641 (by decide) (fun c25 => ?_) (fun c25 => ?_)
                              · have h := zift h c25
                                exact s_L_law_b1080 hC hS hX hbl ih _ _ _ _ _ h
                              · have h := zife h c25
                                refine z_iconst 0 (by decide) dL_law_644 ?_
                                obtain rfl := Option.some.inj h
                                exact z_iret ⟨.boolean, rfl, rfl⟩ dL_law_645
                            · have h := zife h c24
                              by_cases c26 : (v1 &&& 31) = 12
                              · have h := zift h c26
                                refine z_tabIn (tgt := 646) 12 dL_law_33 c26 (by decide) (by decide) rfl (by decide) ?_
                                refine z_aload_n (x := x1) rfl dL_law_646 ?_
                                refine z_aload_n (x := b0) rfl dL_law_647 ?_
                                refine z_iload_n (x := x3) rfl dL_law_648 ?_
                                refine z_iconst 1 (by decide) dL_law_649 ?_
                                refine z_iadd dL_law_650 ?_
                                obtain ⟨v60, h82, h⟩ := zbind h
                                refine z_xs hX hbl h82 dL_law_651 ?_
                                obtain ⟨_, hb, h⟩ := zbind h
                                obtain ⟨fs, hb⟩ := zob_some hb
                                obtain ⟨q23, h83, h⟩ := zbind h
                                refine z_callV (av := [.int v60]) (rest := []) hC zcl_11 hb (s_X11_quiet hC h83) lk_L_71 im_X11_quiet se_X11_quiet cd_X11_quiet ⟨by decide, by decide, (Nat.le_of_ble_eq_true rfl)⟩ dL_law_652 ?_
                                clear hb fs
                                refine zeqS (stk2 := [.int q23.1]) rfl ?_
                                refine z_aload_n (x := x2) rfl dL_law_655 ?_
                                refine z_aload_n (x := b0) rfl dL_law_656 ?_
                                refine z_iload_n (x := x3) rfl dL_law_657 ?_
                                refine z_iconst 1 (by decide) dL_law_658 ?_
                                refine z_iadd dL_law_659 ?_
                                obtain ⟨v61, h84, h⟩ := zbind h
                                refine z_xs hX hbl h84 dL_law_660 ?_
                                obtain ⟨_, hb, h⟩ := zbind h
                                obtain ⟨fs, hb⟩ := zob_some hb
                                obtain ⟨q24, h85, h⟩ := zbind h
                                refine z_callV (av := [.int v61]) (rest := [.int q23.1]) hC zcl_12 hb (s_X12_quiet hC h85) lk_L_74 im_X12_quiet se_X12_quiet cd_X12_quiet ⟨by decide, by decide, (Nat.le_of_ble_eq_true rfl)⟩ dL_law_661 ?_
                                clear hb fs
                                refine zeqS (stk2 := [.int q24.1, .int q23.1]) rfl ?_
                                refine z_icmp_eq (tgt := 1080) dL_law_664 (by decide) (fun c27 => ?_) (fun c27 => ?_)
                                · have h := zift h c27
                                  exact s_L_law_b1080 hC hS hX hbl ih _ _ _ _ _ h
                                · have h := zife h c27
                                  refine z_iconst 0 (by decide) dL_law_667 ?_
                                  obtain rfl := Option.some.inj h
                                  exact z_iret ⟨.boolean, rfl, rfl⟩ dL_law_668
                              · have h := zife h c26
                                by_cases c28 : (v1 &&& 31) = 13
                                · have h := zift h c28
                                  refine z_tabIn (tgt := 669) 13 dL_law_33 c28 (by decide) (by decide) rfl (by decide) ?_
                                  refine z_aload_n (x := x1) rfl dL_law_669 ?_
                                  refine z_aload_n (x := b0) rfl dL_law_670 ?_
                                  refine z_iload_n (x := x3) rfl dL_law_671 ?_
                                  refine z_iconst 1 (by decide) dL_law_672 ?_
                                  refine z_iadd dL_law_673 ?_
                                  obtain ⟨v62, h86, h⟩ := zbind h
                                  refine z_xs hX hbl h86 dL_law_674 ?_
                                  obtain ⟨_, hb, h⟩ := zbind h
                                  obtain ⟨fs, hb⟩ := zob_some hb
                                  obtain ⟨q25, h87, h⟩ := zbind h
                                  refine z_callV (av := [.int v62]) (rest := []) hC zcl_11 hb (s_X11_apart hC h87) lk_L_75 im_X11_apart se_X11_apart cd_X11_apart ⟨by decide, by decide, (Nat.le_of_ble_eq_true rfl)⟩ dL_law_675 ?_
                                  clear hb fs
                                  refine zeqS (stk2 := [.int q25.1]) rfl ?_
                                  refine z_aload_n (x := x2) rfl dL_law_678 ?_
                                  refine z_aload_n (x := b0) rfl dL_law_679 ?_
                                  refine z_iload_n (x := x3) rfl dL_law_680 ?_
                                  refine z_iconst 1 (by decide) dL_law_681 ?_
                                  refine z_iadd dL_law_682 ?_
                                  obtain ⟨v63, h88, h⟩ := zbind h
                                  refine z_xs hX hbl h88 dL_law_683 ?_
                                  obtain ⟨_, hb, h⟩ := zbind h
                                  obtain ⟨fs, hb⟩ := zob_some hb
                                  obtain ⟨q26, h89, h⟩ := zbind h
                                  refine z_callV (av := [.int v63]) (rest := [.int q25.1]) hC zcl_12 hb (s_X12_apart hC h89) lk_L_78 im_X12_apart se_X12_apart cd_X12_apart ⟨by decide, by decide, (Nat.le_of_ble_eq_true rfl)⟩ dL_law_684 ?_
                                  clear hb fs
                                  refine zeqS (stk2 := [.int q26.1, .int q25.1]) rfl ?_
                                  refine z_icmp_eq (tgt := 1080) dL_law_687 (by decide) (fun c29 => ?_) (fun c29 => ?_)
                                  · have h := zift h c29
                                    exact s_L_law_b1080 hC hS hX hbl ih _ _ _ _ _ h
                                  · have h := zife h c29
                                    refine z_iconst 0 (by decide) dL_law_690 ?_
                                    obtain rfl := Option.some.inj h
                                    exact z_iret ⟨.boolean, rfl, rfl⟩ dL_law_691
                                · have h := zife h c28
                                  by_cases c30 : (v1 &&& 31) = 14
                                  · have h := zift h c30
                                    refine z_tabIn (tgt := 692) 14 dL_law_33 c30 (by decide) (by decide) rfl (by decide) ?_
                                    refine z_aload_n (x := x1) rfl dL_law_692 ?_
                                    refine z_aload_n (x := b0) rfl dL_law_693 ?_
                                    refine z_iload_n (x := x3) rfl dL_law_694 ?_
                                    refine z_iconst 1 (by decide) dL_law_695 ?_
                                    refine z_iadd dL_law_696 ?_
                                    obtain ⟨v64, h90, h⟩ := zbind h
                                    refine z_xs hX hbl h90 dL_law_697 ?_
                                    obtain ⟨_, hb, h⟩ := zbind h
                                    obtain ⟨fs, hb⟩ := zob_some hb
                                    obtain ⟨q27, h91, h⟩ := zbind h
                                    refine z_callV (av := [.int v64]) (rest := []) hC zcl_11 hb (s_X11_shuts hC h91) lk_L_79 im_X11_shuts se_X11_shuts cd_X11_shuts ⟨by decide, by decide, (Nat.le_of_ble_eq_true rfl)⟩ dL_law_698 ?_
                                    clear hb fs
                                    refine zeqS (stk2 := [.int q27.1]) rfl ?_
                                    refine z_aload_n (x := x2) rfl dL_law_701 ?_
                                    refine z_aload_n (x := b0) rfl dL_law_702 ?_
                                    refine z_iload_n (x := x3) rfl dL_law_703 ?_
                                    refine z_iconst 1 (by decide) dL_law_704 ?_
                                    refine z_iadd dL_law_705 ?_
                                    obtain ⟨v65, h92, h⟩ := zbind h
                                    refine z_xs hX hbl h92 dL_law_706 ?_
                                    obtain ⟨_, hb, h⟩ := zbind h
                                    obtain ⟨fs, hb⟩ := zob_some hb
                                    obtain ⟨q28, h93, h⟩ := zbind h
                                    refine z_callV (av := [.int v65]) (rest := [.int q27.1]) hC zcl_12 hb (s_X12_shuts hC h93) lk_L_82 im_X12_shuts se_X12_shuts cd_X12_shuts ⟨by decide, by decide, (Nat.le_of_ble_eq_true rfl)⟩ dL_law_707 ?_
                                    clear hb fs
                                    refine zeqS (stk2 := [.int q28.1, .int q27.1]) rfl ?_
                                    refine z_icmp_eq (tgt := 1080) dL_law_710 (by decide) (fun c31 => ?_) (fun c31 => ?_)
                                    · have h := zift h c31
                                      exact s_L_law_b1080 hC hS hX hbl ih _ _ _ _ _ h
                                    · have h := zife h c31
                                      refine z_iconst 0 (by decide) dL_law_713 ?_
                                      obtain rfl := Option.some.inj h
                                      exact z_iret ⟨.boolean, rfl, rfl⟩ dL_law_714
                                  · have h := zife h c30
                                    by_cases c32 : (v1 &&& 31) = 15
                                    · have h := zift h c32
                                      refine z_tabIn (tgt := 715) 15 dL_law_33 c32 (by decide) (by decide) rfl (by decide) ?_
                                      refine z_aload_n (x := x1) rfl dL_law_715 ?_
                                      refine z_aload_n (x := b0) rfl dL_law_716 ?_
                                      refine z_iload_n (x := x3) rfl dL_law_717 ?_
                                      refine z_iconst 1 (by decide) dL_law_718 ?_
                                      refine z_iadd dL_law_719 ?_
                                      obtain ⟨v66, h94, h⟩ := zbind h
                                      refine z_xs hX hbl h94 dL_law_720 ?_
                                      refine z_aload_n (x := b0) rfl dL_law_721 ?_
                                      refine z_iload_n (x := x3) rfl dL_law_722 ?_
                                      refine z_iconst 2 (by decide) dL_law_723 ?_
                                      refine z_iadd dL_law_724 ?_
                                      obtain ⟨v67, h95, h⟩ := zbind h
                                      refine z_xs hX hbl h95 dL_law_725 ?_
                                      refine z_aload_n (x := b0) rfl dL_law_726 ?_
                                      refine z_iload_n (x := x3) rfl dL_law_727 ?_
                                      refine z_iconst 3 (by decide) dL_law_728 ?_
                                      refine z_iadd dL_law_729 ?_
                                      obtain ⟨v68, h96, h⟩ := zbind h
                                      refine z_xs hX hbl h96 dL_law_730 ?_
                                      refine z_aload_n (x := b0) rfl dL_law_731 ?_
                                      refine z_iload_n (x := x3) rfl dL_law_732 ?_
                                      refine z_iconst 4 (by decide) dL_law_733 ?_
                                      refine z_iadd dL_law_734 ?_
                                      obtain ⟨v69, h97, h⟩ := zbind h
                                      refine z_xs hX hbl h97 dL_law_735 ?_
                                      obtain ⟨_, hb, h⟩ := zbind h
                                      obtain ⟨fs, hb⟩ := zob_some hb
                                      obtain ⟨q29, h98, h⟩ := zbind h
                                      refine z_callV (av := [.int v66, .int v67, .int v68, .int v69]) (rest := []) hC zcl_11 hb (s_X11_neighbour hC h98) lk_L_83 im_X11_neighbour se_X11_neighbour cd_X11_neighbour ⟨by decide, by decide, (Nat.le_of_ble_eq_true rfl)⟩ dL_law_736 ?_
                                      clear hb fs
                                      refine zeqS (stk2 := [.int q29.1]) rfl ?_
                                      refine z_aload_n (x := x2) rfl dL_law_739 ?_
                                      refine z_aload_n (x := b0) rfl dL_law_740 ?_
                                      refine z_iload_n (x := x3) rfl dL_law_741 ?_
                                      refine z_iconst 1 (by decide) dL_law_742 ?_
                                      refine z_iadd dL_law_743 ?_
                                      obtain ⟨v70, h99, h⟩ := zbind h
                                      refine z_xs hX hbl h99 dL_law_744 ?_
                                      refine z_aload_n (x := b0) rfl dL_law_745 ?_
                                      refine z_iload_n (x := x3) rfl dL_law_746 ?_
                                      refine z_iconst 2 (by decide) dL_law_747 ?_
                                      refine z_iadd dL_law_748 ?_
                                      obtain ⟨v71, h100, h⟩ := zbind h
                                      refine z_xs hX hbl h100 dL_law_749 ?_
                                      refine z_aload_n (x := b0) rfl dL_law_750 ?_
                                      refine z_iload_n (x := x3) rfl dL_law_751 ?_
                                      refine z_iconst 3 (by decide) dL_law_752 ?_
                                      refine z_iadd dL_law_753 ?_
                                      obtain ⟨v72, h101, h⟩ := zbind h
                                      refine z_xs hX hbl h101 dL_law_754 ?_
                                      refine z_aload_n (x := b0) rfl dL_law_755 ?_
                                      refine z_iload_n (x := x3) rfl dL_law_756 ?_
                                      refine z_iconst 4 (by decide) dL_law_757 ?_
                                      refine z_iadd dL_law_758 ?_
                                      obtain ⟨v73, h102, h⟩ := zbind h
                                      refine z_xs hX hbl h102 dL_law_759 ?_
                                      obtain ⟨_, hb, h⟩ := zbind h
                                      obtain ⟨fs, hb⟩ := zob_some hb
                                      obtain ⟨q30, h103, h⟩ := zbind h
                                      refine z_callV (av := [.int v70, .int v71, .int v72, .int v73]) (rest := [.int q29.1]) hC zcl_12 hb (s_X12_neighbour hC h103) lk_L_86 im_X12_neighbour se_X12_neighbour cd_X12_neighbour ⟨by decide, by decide, (Nat.le_of_ble_eq_true rfl)⟩ dL_law_760 ?_
                                      clear hb fs
                                      refine zeqS (stk2 := [.int q30.1, .int q29.1]) rfl ?_
                                      refine z_icmp_eq (tgt := 1080) dL_law_763 (by decide) (fun c33 => ?_) (fun c33 => ?_)
                                      · have h := zift h c33
                                        exact s_L_law_b1080 hC hS hX hbl ih _ _ _ _ _ h
                                      · have h := zife h c33
                                        refine z_iconst 0 (by decide) dL_law_766 ?_
                                        obtain rfl := Option.some.inj h
                                        exact z_iret ⟨.boolean, rfl, rfl⟩ dL_law_767
                                    · have h := zife h c32
                                      by_cases c34 : (v1 &&& 31) = 16
                                      · have h := zift h c34
                                        refine z_tabIn (tgt := 768) 16 dL_law_33 c34 (by decide) (by decide) rfl (by decide) ?_
                                        refine z_aload_n (x := x1) rfl dL_law_768 ?_
                                        refine z_aload_n (x := b0) rfl dL_law_769 ?_
                                        refine z_iload_n (x := x3) rfl dL_law_770 ?_
                                        refine z_iconst 1 (by decide) dL_law_771 ?_
                                        refine z_iadd dL_law_772 ?_
                                        obtain ⟨v74, h104, h⟩ := zbind h
                                        refine z_xs hX hbl h104 dL_law_773 ?_
                                        refine z_aload_n (x := b0) rfl dL_law_774 ?_
                                        refine z_iload_n (x := x3) rfl dL_law_775 ?_
                                        refine z_iconst 2 (by decide) dL_law_776 ?_
                                        refine z_iadd dL_law_777 ?_
                                        obtain ⟨v75, h105, h⟩ := zbind h
                                        refine z_xs hX hbl h105 dL_law_778 ?_
                                        refine z_aload_n (x := b0) rfl dL_law_779 ?_
                                        refine z_iload_n (x := x3) rfl dL_law_780 ?_
                                        refine z_iconst 3 (by decide) dL_law_781 ?_
                                        refine z_iadd dL_law_782 ?_
                                        obtain ⟨v76, h106, h⟩ := zbind h
                                        refine z_xs hX hbl h106 dL_law_783 ?_
                                        obtain ⟨_, hb, h⟩ := zbind h
                                        obtain ⟨fs, hb⟩ := zob_some hb
                                        obtain ⟨q31, h107, h⟩ := zbind h
                                        refine z_callV (av := [.int v74, .int v75, .int v76]) (rest := []) hC zcl_11 hb (s_X11_tells hC h107) lk_L_87 im_X11_tells se_X11_tells cd_X11_tells ⟨by decide, by decide, (Nat.le_of_ble_eq_true rfl)⟩ dL_law_784 ?_
                                        clear hb fs
                                        refine zeqS (stk2 := [.int q31.1]) rfl ?_
                                        refine z_aload_n (x := x2) rfl dL_law_787 ?_
                                        refine z_aload_n (x := b0) rfl dL_law_788 ?_
                                        refine z_iload_n (x := x3) rfl dL_law_789 ?_
                                        refine z_iconst 1 (by decide) dL_law_790 ?_
                                        refine z_iadd dL_law_791 ?_
                                        obtain ⟨v77, h108, h⟩ := zbind h
                                        refine z_xs hX hbl h108 dL_law_792 ?_
                                        refine z_aload_n (x := b0) rfl dL_law_793 ?_
                                        refine z_iload_n (x := x3) rfl dL_law_794 ?_
                                        refine z_iconst 2 (by decide) dL_law_795 ?_
                                        refine z_iadd dL_law_796 ?_
                                        obtain ⟨v78, h109, h⟩ := zbind h
                                        refine z_xs hX hbl h109 dL_law_797 ?_
                                        refine z_aload_n (x := b0) rfl dL_law_798 ?_
                                        refine z_iload_n (x := x3) rfl dL_law_799 ?_
                                        refine z_iconst 3 (by decide) dL_law_800 ?_
                                        refine z_iadd dL_law_801 ?_
                                        obtain ⟨v79, h110, h⟩ := zbind h
                                        refine z_xs hX hbl h110 dL_law_802 ?_
                                        obtain ⟨_, hb, h⟩ := zbind h
                                        obtain ⟨fs, hb⟩ := zob_some hb
                                        obtain ⟨q32, h111, h⟩ := zbind h
                                        refine z_callV (av := [.int v77, .int v78, .int v79]) (rest := [.int q31.1]) hC zcl_12 hb (s_X12_tells hC h111) lk_L_90 im_X12_tells se_X12_tells cd_X12_tells ⟨by decide, by decide, (Nat.le_of_ble_eq_true rfl)⟩ dL_law_803 ?_
                                        clear hb fs
                                        refine zeqS (stk2 := [.int q32.1, .int q31.1]) rfl ?_
                                        refine z_icmp_eq (tgt := 1080) dL_law_806 (by decide) (fun c35 => ?_) (fun c35 => ?_)
                                        · have h := zift h c35
                                          exact s_L_law_b1080 hC hS hX hbl ih _ _ _ _ _ h
                                        · have h := zife h c35
                                          refine z_iconst 0 (by decide) dL_law_809 ?_
                                          obtain rfl := Option.some.inj h
                                          exact z_iret ⟨.boolean, rfl, rfl⟩ dL_law_810
                                      · have h := zife h c34
                                        by_cases c36 : (v1 &&& 31) = 17
                                        · have h := zift h c36
                                          refine z_tabIn (tgt := 811) 17 dL_law_33 c36 (by decide) (by decide) rfl (by decide) ?_
                                          refine z_aload_n (x := x1) rfl dL_law_811 ?_
                                          refine z_aload_n (x := b0) rfl dL_law_812 ?_
                                          refine z_iload_n (x := x3) rfl dL_law_813 ?_
                                          refine z_iconst 1 (by decide) dL_law_814 ?_
                                          refine z_iadd dL_law_815 ?_
                                          obtain ⟨v80, h112, h⟩ := zbind h
                                          refine z_xs hX hbl h112 dL_law_816 ?_
                                          refine z_aload_n (x := b0) rfl dL_law_817 ?_
                                          refine z_iload_n (x := x3) rfl dL_law_818 ?_
                                          refine z_iconst 2 (by decide) dL_law_819 ?_
                                          refine z_iadd dL_law_820 ?_
                                          obtain ⟨v81, h113, h⟩ := zbind h
                                          refine z_xs hX hbl h113 dL_law_821 ?_
                                          refine z_aload_n (x := b0) rfl dL_law_822 ?_
                                          refine z_iload_n (x := x3) rfl dL_law_823 ?_
                                          refine z_iconst 3 (by decide) dL_law_824 ?_
                                          refine z_iadd dL_law_825 ?_
                                          obtain ⟨v82, h114, h⟩ := zbind h
                                          refine z_xs hX hbl h114 dL_law_826 ?_
                                          obtain ⟨_, hb, h⟩ := zbind h
                                          obtain ⟨fs, hb⟩ := zob_some hb
                                          obtain ⟨q33, h115, h⟩ := zbind h
                                          refine z_callV (av := [.int v80, .int v81, .int v82]) (rest := []) hC zcl_11 hb (s_X11_which hC h115) lk_L_91 im_X11_which se_X11_which cd_X11_which ⟨by decide, by decide, (Nat.le_of_ble_eq_true rfl)⟩ dL_law_827 ?_
                                          clear hb fs
                                          refine zeqS (stk2 := [.int q33.1]) rfl ?_
                                          refine z_aload_n (x := x2) rfl dL_law_830 ?_
                                          refine z_aload_n (x := b0) rfl dL_law_831 ?_
                                          refine z_iload_n (x := x3) rfl dL_law_832 ?_
                                          refine z_iconst 1 (by decide) dL_law_833 ?_
                                          refine z_iadd dL_law_834 ?_
                                          obtain ⟨v83, h116, h⟩ := zbind h
                                          refine z_xs hX hbl h116 dL_law_835 ?_
                                          refine z_aload_n (x := b0) rfl dL_law_836 ?_
                                          refine z_iload_n (x := x3) rfl dL_law_837 ?_
                                          refine z_iconst 2 (by decide) dL_law_838 ?_
                                          refine z_iadd dL_law_839 ?_
                                          obtain ⟨v84, h117, h⟩ := zbind h
                                          refine z_xs hX hbl h117 dL_law_840 ?_
                                          refine z_aload_n (x := b0) rfl dL_law_841 ?_
                                          refine z_iload_n (x := x3) rfl dL_law_842 ?_
                                          refine z_iconst 3 (by decide) dL_law_843 ?_
                                          refine z_iadd dL_law_844 ?_
                                          obtain ⟨v85, h118, h⟩ := zbind h
                                          refine z_xs hX hbl h118 dL_law_845 ?_
                                          obtain ⟨_, hb, h⟩ := zbind h
                                          obtain ⟨fs, hb⟩ := zob_some hb
                                          obtain ⟨q34, h119, h⟩ := zbind h
                                          refine z_callV (av := [.int v83, .int v84, .int v85]) (rest := [.int q33.1]) hC zcl_12 hb (s_X12_which hC h119) lk_L_94 im_X12_which se_X12_which cd_X12_which ⟨by decide, by decide, (Nat.le_of_ble_eq_true rfl)⟩ dL_law_846 ?_
                                          clear hb fs
                                          refine zeqS (stk2 := [.int q34.1, .int q33.1]) rfl ?_
                                          refine z_icmp_eq (tgt := 1080) dL_law_849 (by decide) (fun c37 => ?_) (fun c37 => ?_)
                                          · have h := zift h c37
                                            exact s_L_law_b1080 hC hS hX hbl ih _ _ _ _ _ h
                                          · have h := zife h c37
                                            refine z_iconst 0 (by decide) dL_law_852 ?_
                                            obtain rfl := Option.some.inj h
                                            exact z_iret ⟨.boolean, rfl, rfl⟩ dL_law_853
                                        · have h := zife h c36
                                          by_cases c38 : (v1 &&& 31) = 18
                                          · have h := zift h c38
                                            refine z_tabIn (tgt := 854) 18 dL_law_33 c38 (by decide) (by decide) rfl (by decide) ?_
                                            refine z_aload_n (x := x1) rfl dL_law_854 ?_
                                            refine z_aload_n (x := b0) rfl dL_law_855 ?_
                                            refine z_iload_n (x := x3) rfl dL_law_856 ?_
                                            refine z_iconst 1 (by decide) dL_law_857 ?_
                                            refine z_iadd dL_law_858 ?_
                                            obtain ⟨v86, h120, h⟩ := zbind h
                                            refine z_xs hX hbl h120 dL_law_859 ?_
                                            refine z_aload_n (x := b0) rfl dL_law_860 ?_
                                            refine z_iload_n (x := x3) rfl dL_law_861 ?_
                                            refine z_iconst 2 (by decide) dL_law_862 ?_
                                            refine z_iadd dL_law_863 ?_
                                            obtain ⟨v87, h121, h⟩ := zbind h
                                            refine z_xs hX hbl h121 dL_law_864 ?_
                                            refine z_aload_n (x := b0) rfl dL_law_865 ?_
                                            refine z_iload_n (x := x3) rfl dL_law_866 ?_
                                            refine z_iconst 3 (by decide) dL_law_867 ?_
                                            refine z_iadd dL_law_868 ?_
                                            obtain ⟨v88, h122, h⟩ := zbind h
                                            refine z_xs hX hbl h122 dL_law_869 ?_
                                            refine z_aload_n (x := b0) rfl dL_law_870 ?_
                                            refine z_iload_n (x := x3) rfl dL_law_871 ?_
                                            refine z_iconst 4 (by decide) dL_law_872 ?_
                                            refine z_iadd dL_law_873 ?_
                                            obtain ⟨v89, h123, h⟩ := zbind h
                                            refine z_xs hX hbl h123 dL_law_874 ?_
                                            obtain ⟨_, hb, h⟩ := zbind h
                                            obtain ⟨fs, hb⟩ := zob_some hb
                                            obtain ⟨q35, h124, h⟩ := zbind h
                                            refine z_callV (av := [.int v86, .int v87, .int v88, .int v89]) (rest := []) hC zcl_11 hb (s_X11_starts hC h124) lk_L_95 im_X11_starts se_X11_starts cd_X11_starts ⟨by decide, by decide, (Nat.le_of_ble_eq_true rfl)⟩ dL_law_875 ?_
                                            clear hb fs
                                            refine zeqS (stk2 := [.int q35.1]) rfl ?_
                                            refine z_aload_n (x := x2) rfl dL_law_878 ?_
                                            refine z_aload_n (x := b0) rfl dL_law_879 ?_
                                            refine z_iload_n (x := x3) rfl dL_law_880 ?_
                                            refine z_iconst 1 (by decide) dL_law_881 ?_
                                            refine z_iadd dL_law_882 ?_
                                            obtain ⟨v90, h125, h⟩ := zbind h
                                            refine z_xs hX hbl h125 dL_law_883 ?_
                                            refine z_aload_n (x := b0) rfl dL_law_884 ?_
                                            refine z_iload_n (x := x3) rfl dL_law_885 ?_
                                            refine z_iconst 2 (by decide) dL_law_886 ?_
                                            refine z_iadd dL_law_887 ?_
                                            obtain ⟨v91, h126, h⟩ := zbind h
                                            refine z_xs hX hbl h126 dL_law_888 ?_
                                            refine z_aload_n (x := b0) rfl dL_law_889 ?_
                                            refine z_iload_n (x := x3) rfl dL_law_890 ?_
                                            refine z_iconst 3 (by decide) dL_law_891 ?_
                                            refine z_iadd dL_law_892 ?_
                                            obtain ⟨v92, h127, h⟩ := zbind h
                                            refine z_xs hX hbl h127 dL_law_893 ?_
                                            refine z_aload_n (x := b0) rfl dL_law_894 ?_
                                            refine z_iload_n (x := x3) rfl dL_law_895 ?_
                                            refine z_iconst 4 (by decide) dL_law_896 ?_
                                            refine z_iadd dL_law_897 ?_
                                            obtain ⟨v93, h128, h⟩ := zbind h
                                            refine z_xs hX hbl h128 dL_law_898 ?_
                                            obtain ⟨_, hb, h⟩ := zbind h
                                            obtain ⟨fs, hb⟩ := zob_some hb
                                            obtain ⟨q36, h129, h⟩ := zbind h
                                            refine z_callV (av := [.int v90, .int v91, .int v92, .int v93]) (rest := [.int q35.1]) hC zcl_12 hb (s_X12_starts hC h129) lk_L_98 im_X12_starts se_X12_starts cd_X12_starts ⟨by decide, by decide, (Nat.le_of_ble_eq_true rfl)⟩ dL_law_899 ?_
                                            clear hb fs
                                            refine zeqS (stk2 := [.int q36.1, .int q35.1]) rfl ?_
                                            refine z_icmp_eq (tgt := 1080) dL_law_902 (by decide) (fun c39 => ?_) (fun c39 => ?_)
                                            · have h := zift h c39
                                              exact s_L_law_b1080 hC hS hX hbl ih _ _ _ _ _ h
                                            · have h := zife h c39
                                              refine z_iconst 0 (by decide) dL_law_905 ?_
                                              obtain rfl := Option.some.inj h
                                              exact z_iret ⟨.boolean, rfl, rfl⟩ dL_law_906
                                          · have h := zife h c38
                                            by_cases c40 : (v1 &&& 31) = 19
                                            · have h := zift h c40
                                              refine z_tabIn (tgt := 907) 19 dL_law_33 c40 (by decide) (by decide) rfl (by decide) ?_
                                              refine z_aload_n (x := x1) rfl dL_law_907 ?_
                                              refine z_aload_n (x := b0) rfl dL_law_908 ?_
                                              refine z_iload_n (x := x3) rfl dL_law_909 ?_
                                              refine z_iconst 1 (by decide) dL_law_910 ?_
                                              refine z_iadd dL_law_911 ?_
                                              obtain ⟨v94, h130, h⟩ := zbind h
                                              refine z_xs hX hbl h130 dL_law_912 ?_
                                              refine z_aload_n (x := b0) rfl dL_law_913 ?_
                                              refine z_iload_n (x := x3) rfl dL_law_914 ?_
                                              refine z_iconst 2 (by decide) dL_law_915 ?_
                                              refine z_iadd dL_law_916 ?_
                                              obtain ⟨v95, h131, h⟩ := zbind h
                                              refine z_xs hX hbl h131 dL_law_917 ?_
                                              refine z_aload_n (x := b0) rfl dL_law_918 ?_
                                              refine z_iload_n (x := x3) rfl dL_law_919 ?_
                                              refine z_iconst 3 (by decide) dL_law_920 ?_
                                              refine z_iadd dL_law_921 ?_
                                              obtain ⟨v96, h132, h⟩ := zbind h
                                              refine z_xs hX hbl h132 dL_law_922 ?_
                                              obtain ⟨_, hb, h⟩ := zbind h
                                              obtain ⟨fs, hb⟩ := zob_some hb
                                              obtain ⟨q37, h133, h⟩ := zbind h
                                              refine z_callV (av := [.int v94, .int v95, .int v96]) (rest := []) hC zcl_11 hb (s_X11_drawn hC h133) lk_L_99 im_X11_drawn se_X11_drawn cd_X11_drawn ⟨by decide, by decide, (Nat.le_of_ble_eq_true rfl)⟩ dL_law_923 ?_
                                              clear hb fs
                                              refine zeqS (stk2 := [.int q37.1]) rfl ?_
                                              refine z_aload_n (x := x2) rfl dL_law_926 ?_
                                              refine z_aload_n (x := b0) rfl dL_law_927 ?_
                                              refine z_iload_n (x := x3) rfl dL_law_928 ?_
                                              refine z_iconst 1 (by decide) dL_law_929 ?_
                                              refine z_iadd dL_law_930 ?_
                                              obtain ⟨v97, h134, h⟩ := zbind h
                                              refine z_xs hX hbl h134 dL_law_931 ?_
                                              refine z_aload_n (x := b0) rfl dL_law_932 ?_
                                              refine z_iload_n (x := x3) rfl dL_law_933 ?_
                                              refine z_iconst 2 (by decide) dL_law_934 ?_
                                              refine z_iadd dL_law_935 ?_
                                              obtain ⟨v98, h135, h⟩ := zbind h
                                              refine z_xs hX hbl h135 dL_law_936 ?_
                                              refine z_aload_n (x := b0) rfl dL_law_937 ?_
                                              refine z_iload_n (x := x3) rfl dL_law_938 ?_
                                              refine z_iconst 3 (by decide) dL_law_939 ?_
                                              refine z_iadd dL_law_940 ?_
                                              obtain ⟨v99, h136, h⟩ := zbind h
                                              refine z_xs hX hbl h136 dL_law_941 ?_
                                              obtain ⟨_, hb, h⟩ := zbind h
                                              obtain ⟨fs, hb⟩ := zob_some hb
                                              obtain ⟨q38, h137, h⟩ := zbind h
                                              refine z_callV (av := [.int v97, .int v98, .int v99]) (rest := [.int q37.1]) hC zcl_12 hb (s_X12_drawn hC h137) lk_L_102 im_X12_drawn se_X12_drawn cd_X12_drawn ⟨by decide, by decide, (Nat.le_of_ble_eq_true rfl)⟩ dL_law_942 ?_
                                              clear hb fs
                                              refine zeqS (stk2 := [.int q38.1, .int q37.1]) rfl ?_
                                              refine z_icmp_eq (tgt := 1080) dL_law_945 (by decide) (fun c41 => ?_) (fun c41 => ?_)
                                              · have h := zift h c41
                                                exact s_L_law_b1080 hC hS hX hbl ih _ _ _ _ _ h
                                              · have h := zife h c41
                                                refine z_iconst 0 (by decide) dL_law_948 ?_
                                                obtain rfl := Option.some.inj h
                                                exact z_iret ⟨.boolean, rfl, rfl⟩ dL_law_949
                                            · have h := zife h c40
                                              by_cases c42 : (v1 &&& 31) = 20
                                              · have h := zift h c42
                                                refine z_tabIn (tgt := 950) 20 dL_law_33 c42 (by decide) (by decide) rfl (by decide) ?_
                                                refine z_aload_n (x := x1) rfl dL_law_950 ?_
                                                refine z_aload_n (x := b0) rfl dL_law_951 ?_
                                                refine z_iload_n (x := x3) rfl dL_law_952 ?_
                                                refine z_iconst 1 (by decide) dL_law_953 ?_
                                                refine z_iadd dL_law_954 ?_
                                                obtain ⟨v100, h138, h⟩ := zbind h
                                                refine z_xs hX hbl h138 dL_law_955 ?_
                                                obtain ⟨_, hb, h⟩ := zbind h
                                                obtain ⟨fs, hb⟩ := zob_some hb
                                                obtain ⟨q39, h139, h⟩ := zbind h
                                                refine z_callV (av := [.int v100]) (rest := []) hC zcl_11 hb (s_X11_part hC h139) lk_L_103 im_X11_part se_X11_part cd_X11_part ⟨by decide, by decide, (Nat.le_of_ble_eq_true rfl)⟩ dL_law_956 ?_
                                                clear hb fs
                                                refine zeqS (stk2 := [.long q39.1]) rfl ?_
                                                refine z_aload_n (x := x2) rfl dL_law_959 ?_
                                                refine z_aload_n (x := b0) rfl dL_law_960 ?_
                                                refine z_iload_n (x := x3) rfl dL_law_961 ?_
                                                refine z_iconst 1 (by decide) dL_law_962 ?_
                                                refine z_iadd dL_law_963 ?_
                                                obtain ⟨v101, h140, h⟩ := zbind h
                                                refine z_xs hX hbl h140 dL_law_964 ?_
                                                obtain ⟨_, hb, h⟩ := zbind h
                                                obtain ⟨fs, hb⟩ := zob_some hb
                                                obtain ⟨q40, h141, h⟩ := zbind h
                                                refine z_callV (av := [.int v101]) (rest := [.long q39.1]) hC zcl_12 hb (s_X12_part hC h141) lk_L_107 im_X12_part se_X12_part cd_X12_part ⟨by decide, by decide, (Nat.le_of_ble_eq_true rfl)⟩ dL_law_965 ?_
                                                clear hb fs
                                                refine zeqS (stk2 := [.long q40.1, .long q39.1]) rfl ?_
                                                refine z_lcmp dL_law_968 ?_
                                                refine z_if_eq (tgt := 1080) dL_law_969 (by decide) (fun c43 => ?_) (fun c43 => ?_)
                                                · have h := zift h c43
                                                  exact s_L_law_b1080 hC hS hX hbl ih _ _ _ _ _ h
                                                · have h := zife h c43
                                                  refine z_iconst 0 (by decide) dL_law_972 ?_
                                                  obtain rfl := Option.some.inj h
                                                  exact z_iret ⟨.boolean, rfl, rfl⟩ dL_law_973
                                              · have h := zife h c42
                                                by_cases c44 : (v1 &&& 31) = 21
                                                · have h := zift h c44
                                                  refine z_tabIn (tgt := 974) 21 dL_law_33 c44 (by decide) (by decide) rfl (by decide) ?_
                                                  refine z_aload_n (x := x1) rfl dL_law_974 ?_
                                                  refine z_aload_n (x := b0) rfl dL_law_975 ?_
                                                  refine z_iload_n (x := x3) rfl dL_law_976 ?_
                                                  refine z_iconst 1 (by decide) dL_law_977 ?_
                                                  refine z_iadd dL_law_978 ?_
                                                  obtain ⟨v102, h142, h⟩ := zbind h
                                                  refine z_xs hX hbl h142 dL_law_979 ?_
                                                  obtain ⟨_, hb, h⟩ := zbind h
                                                  obtain ⟨fs, hb⟩ := zob_some hb
                                                  obtain ⟨q41, h143, h⟩ := zbind h
                                                  refine z_callV (av := [.int v102]) (rest := []) hC zcl_11 hb (s_X11_image hC h143) lk_L_108 im_X11_image se_X11_image cd_X11_image ⟨by decide, by decide, (Nat.le_of_ble_eq_true rfl)⟩ dL_law_980 ?_
                                                  clear hb fs
                                                  refine zeqS (stk2 := [.int q41.1]) rfl ?_
                                                  refine z_aload_n (x := x2) rfl dL_law_983 ?_
                                                  refine z_aload_n (x := b0) rfl dL_law_984 ?_
                                                  refine z_iload_n (x := x3) rfl dL_law_985 ?_
                                                  refine z_iconst 1 (by decide) dL_law_986 ?_
                                                  refine z_iadd dL_law_987 ?_
                                                  obtain ⟨v103, h144, h⟩ := zbind h
                                                  refine z_xs hX hbl h144 dL_law_988 ?_
                                                  obtain ⟨_, hb, h⟩ := zbind h
                                                  obtain ⟨fs, hb⟩ := zob_some hb
                                                  obtain ⟨q42, h145, h⟩ := zbind h
                                                  refine z_callV (av := [.int v103]) (rest := [.int q41.1]) hC zcl_12 hb (s_X12_image hC h145) lk_L_111 im_X12_image se_X12_image cd_X12_image ⟨by decide, by decide, (Nat.le_of_ble_eq_true rfl)⟩ dL_law_989 ?_
                                                  clear hb fs
                                                  refine zeqS (stk2 := [.int q42.1, .int q41.1]) rfl ?_
                                                  refine z_icmp_eq (tgt := 1080) dL_law_992 (by decide) (fun c45 => ?_) (fun c45 => ?_)
                                                  · have h := zift h c45
                                                    exact s_L_law_b1080 hC hS hX hbl ih _ _ _ _ _ h
                                                  · have h := zife h c45
                                                    refine z_iconst 0 (by decide) dL_law_995 ?_
                                                    obtain rfl := Option.some.inj h
                                                    exact z_iret ⟨.boolean, rfl, rfl⟩ dL_law_996
                                                · have h := zife h c44
                                                  by_cases c46 : (v1 &&& 31) = 22
                                                  · have h := zift h c46
                                                    refine z_tabIn (tgt := 997) 22 dL_law_33 c46 (by decide) (by decide) rfl (by decide) ?_
                                                    refine z_aload_n (x := x1) rfl dL_law_997 ?_
                                                    refine z_aload_n (x := b0) rfl dL_law_998 ?_
                                                    refine z_iload_n (x := x3) rfl dL_law_999 ?_
                                                    refine z_iconst 1 (by decide) dL_law_1000 ?_
                                                    refine z_iadd dL_law_1001 ?_
                                                    obtain ⟨v104, h146, h⟩ := zbind h
                                                    refine z_xs hX hbl h146 dL_law_1002 ?_
                                                    obtain ⟨_, hb, h⟩ := zbind h
                                                    obtain ⟨fs, hb⟩ := zob_some hb
                                                    obtain ⟨q43, h147, h⟩ := zbind h
                                                    refine z_callV (av := [.int v104]) (rest := []) hC zcl_11 hb (s_X11_from hC h147) lk_L_112 im_X11_from se_X11_from cd_X11_from ⟨by decide, by decide, (Nat.le_of_ble_eq_true rfl)⟩ dL_law_1003 ?_
                                                    clear hb fs
                                                    refine zeqS (stk2 := [.int q43.1]) rfl ?_
                                                    refine z_aload_n (x := x2) rfl dL_law_1006 ?_
                                                    refine z_aload_n (x := b0) rfl dL_law_1007 ?_
                                                    refine z_iload_n (x := x3) rfl dL_law_1008 ?_
                                                    refine z_iconst 1 (by decide) dL_law_1009 ?_
                                                    refine z_iadd dL_law_1010 ?_
                                                    obtain ⟨v105, h148, h⟩ := zbind h
                                                    refine z_xs hX hbl h148 dL_law_1011 ?_
                                                    obtain ⟨_, hb, h⟩ := zbind h
                                                    obtain ⟨fs, hb⟩ := zob_some hb
                                                    obtain ⟨q44, h149, h⟩ := zbind h
                                                    refine z_callV (av := [.int v105]) (rest := [.int q43.1]) hC zcl_12 hb (s_X12_from hC h149) lk_L_115 im_X12_from se_X12_from cd_X12_from ⟨by decide, by decide, (Nat.le_of_ble_eq_true rfl)⟩ dL_law_1012 ?_
                                                    clear hb fs
                                                    refine zeqS (stk2 := [.int q44.1, .int q43.1]) rfl ?_
                                                    refine z_icmp_eq (tgt := 1080) dL_law_1015 (by decide) (fun c47 => ?_) (fun c47 => ?_)
                                                    · have h := zift h c47
                                                      exact s_L_law_b1080 hC hS hX hbl ih _ _ _ _ _ h
                                                    · have h := zife h c47
                                                      refine z_iconst 0 (by decide) dL_law_1018 ?_
                                                      obtain rfl := Option.some.inj h
                                                      exact z_iret ⟨.boolean, rfl, rfl⟩ dL_law_1019
                                                  · have h := zife h c46
                                                    by_cases c48 : (v1 &&& 31) = 23
                                                    · have h := zift h c48
                                                      refine z_tabIn (tgt := 1020) 23 dL_law_33 c48 (by decide) (by decide) rfl (by decide) ?_
                                                      refine z_aload_n (x := x1) rfl dL_law_1020 ?_
                                                      refine z_aload_n (x := b0) rfl dL_law_1021 ?_
                                                      refine z_iload_n (x := x3) rfl dL_law_1022 ?_
                                                      refine z_iconst 1 (by decide) dL_law_1023 ?_
                                                      refine z_iadd dL_law_1024 ?_
                                                      obtain ⟨v106, h150, h⟩ := zbind h
                                                      refine z_xs hX hbl h150 dL_law_1025 ?_
                                                      obtain ⟨_, hb, h⟩ := zbind h
                                                      obtain ⟨fs, hb⟩ := zob_some hb
                                                      obtain ⟨q45, h151, h⟩ := zbind h
                                                      refine z_callV (av := [.int v106]) (rest := []) hC zcl_11 hb (s_X11_status hC h151) lk_L_116 im_X11_status se_X11_status cd_X11_status ⟨by decide, by decide, (Nat.le_of_ble_eq_true rfl)⟩ dL_law_1026 ?_
                                                      clear hb fs
                                                      refine zeqS (stk2 := [.int q45.1]) rfl ?_
                                                      refine z_aload_n (x := x2) rfl dL_law_1029 ?_
                                                      refine z_aload_n (x := b0) rfl dL_law_1030 ?_
                                                      refine z_iload_n (x := x3) rfl dL_law_1031 ?_
                                                      refine z_iconst 1 (by decide) dL_law_1032 ?_
                                                      refine z_iadd dL_law_1033 ?_
                                                      obtain ⟨v107, h152, h⟩ := zbind h
                                                      refine z_xs hX hbl h152 dL_law_1034 ?_
                                                      obtain ⟨_, hb, h⟩ := zbind h
                                                      obtain ⟨fs, hb⟩ := zob_some hb
                                                      obtain ⟨q46, h153, h⟩ := zbind h
                                                      refine z_callV (av := [.int v107]) (rest := [.int q45.1]) hC zcl_12 hb (s_X12_status hC h153) lk_L_119 im_X12_status se_X12_status cd_X12_status ⟨by decide, by decide, (Nat.le_of_ble_eq_true rfl)⟩ dL_law_1035 ?_
                                                      clear hb fs
                                                      refine zeqS (stk2 := [.int q46.1, .int q45.1]) rfl ?_
                                                      refine z_icmp_eq (tgt := 1080) dL_law_1038 (by decide) (fun c49 => ?_) (fun c49 => ?_)
                                                      · have h := zift h c49
                                                        exact s_L_law_b1080 hC hS hX hbl ih _ _ _ _ _ h
                                                      · have h := zife h c49
                                                        refine z_iconst 0 (by decide) dL_law_1041 ?_
                                                        obtain rfl := Option.some.inj h
                                                        exact z_iret ⟨.boolean, rfl, rfl⟩ dL_law_1042
                                                    · have h := zife h c48
                                                      by_cases c50 : (v1 &&& 31) = 24
                                                      · have h := zift h c50
                                                        refine z_tabIn (tgt := 1043) 24 dL_law_33 c50 (by decide) (by decide) rfl (by decide) ?_
                                                        refine z_aload_n (x := x1) rfl dL_law_1043 ?_
                                                        refine z_aload_n (x := b0) rfl dL_law_1044 ?_
                                                        refine z_iload_n (x := x3) rfl dL_law_1045 ?_
                                                        refine z_iconst 1 (by decide) dL_law_1046 ?_
                                                        refine z_iadd dL_law_1047 ?_
                                                        obtain ⟨v108, h154, h⟩ := zbind h
                                                        refine z_xs hX hbl h154 dL_law_1048 ?_
                                                        obtain ⟨_, hb, h⟩ := zbind h
                                                        obtain ⟨fs, hb⟩ := zob_some hb
                                                        obtain ⟨q47, h155, h⟩ := zbind h
                                                        refine z_callV (av := [.int v108]) (rest := []) hC zcl_11 hb (s_X11_count hC h155) lk_L_120 im_X11_count se_X11_count cd_X11_count ⟨by decide, by decide, (Nat.le_of_ble_eq_true rfl)⟩ dL_law_1049 ?_
                                                        clear hb fs
                                                        refine zeqS (stk2 := [.int q47.1]) rfl ?_
                                                        refine z_aload_n (x := x2) rfl dL_law_1052 ?_
                                                        refine z_aload_n (x := b0) rfl dL_law_1053 ?_
                                                        refine z_iload_n (x := x3) rfl dL_law_1054 ?_
                                                        refine z_iconst 1 (by decide) dL_law_1055 ?_
                                                        refine z_iadd dL_law_1056 ?_
                                                        obtain ⟨v109, h156, h⟩ := zbind h
                                                        refine z_xs hX hbl h156 dL_law_1057 ?_
                                                        obtain ⟨_, hb, h⟩ := zbind h
                                                        obtain ⟨fs, hb⟩ := zob_some hb
                                                        obtain ⟨q48, h157, h⟩ := zbind h
                                                        refine z_callV (av := [.int v109]) (rest := [.int q47.1]) hC zcl_12 hb (s_X12_count hC h157) lk_L_123 im_X12_count se_X12_count cd_X12_count ⟨by decide, by decide, (Nat.le_of_ble_eq_true rfl)⟩ dL_law_1058 ?_
                                                        clear hb fs
                                                        refine zeqS (stk2 := [.int q48.1, .int q47.1]) rfl ?_
                                                        refine z_icmp_eq (tgt := 1080) dL_law_1061 (by decide) (fun c51 => ?_) (fun c51 => ?_)
                                                        · have h := zift h c51
                                                          exact s_L_law_b1080 hC hS hX hbl ih _ _ _ _ _ h
                                                        · have h := zife h c51
                                                          refine z_iconst 0 (by decide) dL_law_1064 ?_
                                                          obtain rfl := Option.some.inj h
                                                          exact z_iret ⟨.boolean, rfl, rfl⟩ dL_law_1065
                                                      · have h := zife h c50
                                                        by_cases c52 : (v1 &&& 31) = 25
                                                        · have h := zift h c52
                                                          refine z_tabIn (tgt := 1066) 25 dL_law_33 c52 (by decide) (by decide) rfl (by decide) ?_
                                                          refine z_aload_n (x := x1) rfl dL_law_1066 ?_
                                                          obtain ⟨_, hb, h⟩ := zbind h
                                                          obtain ⟨fs, hb⟩ := zob_some hb
                                                          obtain ⟨q49, h158, h⟩ := zbind h
                                                          refine z_callV (av := []) (rest := []) hC zcl_11 hb (s_X11_digest hC h158) lk_L_124 im_X11_digest se_X11_digest cd_X11_digest ⟨by decide, by decide, (Nat.le_of_ble_eq_true rfl)⟩ dL_law_1067 ?_
                                                          clear hb fs
                                                          refine zeqS (stk2 := [.long q49.1]) rfl ?_
                                                          refine z_aload_n (x := x2) rfl dL_law_1070 ?_
                                                          obtain ⟨_, hb, h⟩ := zbind h
                                                          obtain ⟨fs, hb⟩ := zob_some hb
                                                          obtain ⟨q50, h159, h⟩ := zbind h
                                                          refine z_callV (av := []) (rest := [.long q49.1]) hC zcl_12 hb (s_X12_digest hC h159) lk_L_128 im_X12_digest se_X12_digest cd_X12_digest ⟨by decide, by decide, (Nat.le_of_ble_eq_true rfl)⟩ dL_law_1071 ?_
                                                          clear hb fs
                                                          refine zeqS (stk2 := [.long q50.1, .long q49.1]) rfl ?_
                                                          refine z_lcmp dL_law_1074 ?_
                                                          refine z_if_eq (tgt := 1080) dL_law_1075 (by decide) (fun c53 => ?_) (fun c53 => ?_)
                                                          · have h := zift h c53
                                                            exact s_L_law_b1080 hC hS hX hbl ih _ _ _ _ _ h
                                                          · have h := zife h c53
                                                            refine z_iconst 0 (by decide) dL_law_1078 ?_
                                                            obtain rfl := Option.some.inj h
                                                            exact z_iret ⟨.boolean, rfl, rfl⟩ dL_law_1079
                                                        · have h := zife h c52
                                                          refine z_tabOut (tgt := 1080) 25 dL_law_33 (by decide) (by decide) (fun j hj => ?_) (by decide) ?_
                                                          · rcases (show j = 0 ∨ j = 1 ∨ j = 2 ∨ j = 3 ∨ j = 4 ∨ j = 5 ∨ j = 6 ∨ j = 7 ∨ j = 8 ∨ j = 9 ∨ j = 10 ∨ j = 11 ∨ j = 12 ∨ j = 13 ∨ j = 14 ∨ j = 15 ∨ j = 16 ∨ j = 17 ∨ j = 18 ∨ j = 19 ∨ j = 20 ∨ j = 21 ∨ j = 22 ∨ j = 23 ∨ j = 24 ∨ j = 25 by omega) with rfl | rfl | rfl | rfl | rfl | rfl | rfl | rfl | rfl | rfl | rfl | rfl | rfl | rfl | rfl | rfl | rfl | rfl | rfl | rfl | rfl | rfl | rfl | rfl | rfl | rfl
                                                            · exact c2
                                                            · exact c4
                                                            · exact c6
                                                            · exact c8
                                                            · exact c10
                                                            · exact c12
                                                            · exact c14
                                                            · exact c16
                                                            · exact c18
                                                            · exact c20
                                                            · exact c22
                                                            · exact c24
                                                            · exact c26
                                                            · exact c28
                                                            · exact c30
                                                            · exact c32
                                                            · exact c34
                                                            · exact c36
                                                            · exact c38
                                                            · exact c40
                                                            · exact c42
                                                            · exact c44
                                                            · exact c46
                                                            · exact c48
                                                            · exact c50
                                                            · exact c52
                                                          · exact s_L_law_b1080 hC hS hX hbl ih _ _ _ _ _ h
def f_L_law (sa : Nat → Nat) (sn : Nat) (xs : Nat → Int32)  (M : zMe) : Option (Int32 × zMe) :=
  zlet (zAdd M (.inr (11, [.null, .null, .null, .int 0, .long 0, .long 0, .int 0, .int 0, .int 0, .null, .null, .null, .null, .null])) 14) fun M1 =>
  (f_X11_init M.2.1 M1).bind fun q1 =>
  zlet (zAdd q1 (.inr (12, [.null, .null, .null, .null, .null, .int 0, .null, .long 0, .long 0, .int 0, .int 0, .int 0, .int 0, .null, .null, .null, .int 0, .int 0, .null, .null, .null])) 21) fun M2 =>
  (f_X12_init q1.2.1 M2).bind fun q2 =>
  f_L_law_b18 sa sn xs zfu M.2.1 q1.2.1 0 q2
set_option maxHeartbeats 4000000 in
set_option maxRecDepth 100000 in
theorem s_L_law {g : zG} (hC : zC g) {sa : Nat → Nat} (hS : zCs g sa) {sn : Nat} {xs : Nat → Int32}  {b0 : Nat} (hX : va_X b0 sn xs g.2.1 g.2.1.heap) (hbl : b0 < g.2.1.heap.size) {M : zMe} {q : (Int32 × zMe)} (h : f_L_law sa sn xs  M = some q) : zW g mL_law 0 [.ref b0, .retAddr 0, .retAddr 0, .retAddr 0] [] M (some (.int q.1)) q.2 := by
  unfold f_L_law at h
  obtain ⟨M1, hm⟩ : ∃ z, z = zAdd M (.inr (11, [.null, .null, .null, .int 0, .long 0, .long 0, .int 0, .int 0, .int 0, .null, .null, .null, .null, .null])) 14 := ⟨_, rfl⟩
  have h := zlet_use h hm
  refine z_nO hC zcl_11 (fs := [.null, .null, .null, .int 0, .long 0, .long 0, .int 0, .int 0, .int 0, .null, .null, .null, .null, .null]) cl_L_7 ins_11 ini_11 rfl df_11 hm dL_law_0 ?_
  refine z_dup rfl dL_law_3 ?_
  obtain ⟨q1, h1, h⟩ := zbind h
  refine z_callI (av := []) (rest := [.ref M.2.1]) hC (s_X11_init hC h1) lk_L_9 im_X11_init rfl rfl cd_X11_init ⟨by decide, by decide, (Nat.le_of_ble_eq_true rfl)⟩ dL_law_4 ?_
  refine zeqS (stk2 := [.ref M.2.1]) rfl ?_
  refine z_astore_n dL_law_7 (by decide) ?_
  refine zeqL (L2 := [.ref b0, .ref M.2.1, .retAddr 0, .retAddr 0]) rfl ?_
  obtain ⟨M2, hm⟩ : ∃ z, z = zAdd q1 (.inr (12, [.null, .null, .null, .null, .null, .int 0, .null, .long 0, .long 0, .int 0, .int 0, .int 0, .int 0, .null, .null, .null, .int 0, .int 0, .null, .null, .null])) 21 := ⟨_, rfl⟩
  have h := zlet_use h hm
  refine z_nO hC zcl_12 (fs := [.null, .null, .null, .null, .null, .int 0, .null, .long 0, .long 0, .int 0, .int 0, .int 0, .int 0, .null, .null, .null, .int 0, .int 0, .null, .null, .null]) cl_L_10 ins_12 ini_12 rfl df_12 hm dL_law_8 ?_
  refine z_dup rfl dL_law_11 ?_
  obtain ⟨q2, h2, h⟩ := zbind h
  refine z_callI (av := []) (rest := [.ref q1.2.1]) hC (s_X12_init hC h2) lk_L_12 im_X12_init rfl rfl cd_X12_init ⟨by decide, by decide, (Nat.le_of_ble_eq_true rfl)⟩ dL_law_12 ?_
  refine zeqS (stk2 := [.ref q1.2.1]) rfl ?_
  refine z_astore_n dL_law_15 (by decide) ?_
  refine zeqL (L2 := [.ref b0, .ref M.2.1, .ref q1.2.1, .retAddr 0]) rfl ?_
  refine z_iconst 0 (by decide) dL_law_16 ?_
  refine z_istore_n dL_law_17 (by decide) ?_
  refine zeqL (L2 := [.ref b0, .ref M.2.1, .ref q1.2.1, .int 0]) rfl ?_
  exact s_L_law_b18 hC hS hX hbl _ _ _ _ _ _ h
