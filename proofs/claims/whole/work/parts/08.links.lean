section ZX
variable {g : zG} {t : zM} {pc n : Nat} {L L2 r stk stk2 : List Value} {M M1 M2 : zMe} {rv : Option Value}
theorem zeqL (hL : L = L2) (k : zW g t pc L2 stk M rv M2) : zW g t pc L stk M rv M2 := by subst hL; exact k
theorem zeqS (hL : stk = stk2) (k : zW g t pc L stk2 M rv M2) : zW g t pc L stk M rv M2 := by subst hL; exact k
theorem z_aload_nO {n : Fin 4} {x : Option Nat} (hl : L[(n : Nat)]? = some (va_rf x)) (hd : decode t.2.1 pc = .ok (.aload_n n, 1)) (k : zW g t (pc + 1) L (va_rf x :: r) M rv M2) : zW g t pc L r M rv M2 := by
  cases x with
  | none => exact z_aload_nN hl hd k
  | some a => exact z_aload_n hl hd k
theorem z_aloadO {n : Nat} {x : Option Nat} (hl : L[n]? = some (va_rf x)) (hd : decode t.2.1 pc = .ok (.aload n, 2)) (k : zW g t (pc + 2) L (va_rf x :: r) M rv M2) : zW g t pc L r M rv M2 := by
  cases x with
  | none => exact z_aloadN hl hd k
  | some a => exact z_aload hl hd k
theorem z_astore_nO {n : Fin 4} {x : Option Nat} (hd : decode t.2.1 pc = .ok (.astore_n n, 1)) (hn : (n : Nat) < t.2.2.1) (k : zW g t (pc + 1) (zS1 L n (va_rf x)) r M rv M2) : zW g t pc L (va_rf x :: r) M rv M2 := by
  cases x with
  | none => exact z_astore_nN hd hn k
  | some a => exact z_astore_n hd hn k
theorem z_astoreO {n : Nat} {x : Option Nat} (hd : decode t.2.1 pc = .ok (.astore n, 2)) (hn : n < t.2.2.1) (k : zW g t (pc + 2) (zS1 L n (va_rf x)) r M rv M2) : zW g t pc L (va_rf x :: r) M rv M2 := by
  cases x with
  | none => exact z_astoreN hd hn k
  | some a => exact z_astore hd hn k
/-- at a there is an object of class ci -/
def zob (M : zMe) (a ci : Nat) : Option Unit := match M.1 a with
  | some (.inr (cj, _)) => if cj = ci then some () else none
  | _ => none
theorem zob_some {a ci : Nat} {u : Unit} (h : zob M a ci = some u) : ∃ fs, M.1 a = some (.inr (ci, fs)) := by
  unfold zob at h
  split at h
  next cj fs e =>
    obtain ⟨h1, -⟩ := zifs h
    subst h1
    exact ⟨fs, e⟩
  next => cases h
end ZX
theorem zcl_0 : zCl 0 RX0 TX0 11 tyX0 := ⟨rfl, by decide +kernel, tyX0_ok, nmX0⟩
theorem df_0 : ∀ j, j < 11 → defaultValue (tyX0 j) = vp_V [.null, .null, .int 0, .int 0, .int 0, .null, .null, .int 0, .int 0, .int 0, .int 0] j := by decide +kernel
theorem ins_0 : Cond.instantiable RX0 11 ∈ lw_tbl := (List.mem_of_getElem? (i := 143) (by decide +kernel))
theorem ini_0 : Cond.initialized RX0 ∈ lw_tbl := (List.mem_of_getElem? (i := 66) (by decide +kernel))
theorem zcl_1 : zCl 1 RX1 TX1 3 tyX1 := ⟨rfl, by decide +kernel, tyX1_ok, nmX1⟩
theorem df_1 : ∀ j, j < 3 → defaultValue (tyX1 j) = vp_V [.int 0, .int 0, .int 0] j := by decide +kernel
theorem ins_1 : Cond.instantiable RX1 3 ∈ lw_tbl := (List.mem_of_getElem? (i := 315) (by decide +kernel))
theorem ini_1 : Cond.initialized RX1 ∈ lw_tbl := (List.mem_of_getElem? (i := 72) (by decide +kernel))
theorem zcl_2 : zCl 2 RX2 TX2 8 tyX2 := ⟨rfl, by decide +kernel, tyX2_ok, nmX2⟩
theorem df_2 : ∀ j, j < 8 → defaultValue (tyX2 j) = vp_V [.int 0, .int 0, .int 0, .int 0, .int 0, .int 0, .int 0, .null] j := by decide +kernel
theorem ins_2 : Cond.instantiable RX2 8 ∈ lw_tbl := (List.mem_of_getElem? (i := 94) (by decide +kernel))
theorem ini_2 : Cond.initialized RX2 ∈ lw_tbl := (List.mem_of_getElem? (i := 65) (by decide +kernel))
theorem zcl_3 : zCl 3 RX3 TX3 6 tyX3 := ⟨rfl, by decide +kernel, tyX3_ok, nmX3⟩
theorem df_3 : ∀ j, j < 6 → defaultValue (tyX3 j) = vp_V [.int 0, .int 0, .int 0, .int 0, .int 0, .int 0] j := by decide +kernel
theorem ins_3 : Cond.instantiable RX3 6 ∈ lw_tbl := (List.mem_of_getElem? (i := 369) (by decide +kernel))
theorem ini_3 : Cond.initialized RX3 ∈ lw_tbl := (List.mem_of_getElem? (i := 75) (by decide +kernel))
theorem zcl_4 : zCl 4 RX4 TX4 4 tyX4 := ⟨rfl, by decide +kernel, tyX4_ok, nmX4⟩
theorem df_4 : ∀ j, j < 4 → defaultValue (tyX4 j) = vp_V [.null, .null, .null, .int 0] j := by decide +kernel
theorem ins_4 : Cond.instantiable RX4 4 ∈ lw_tbl := (List.mem_of_getElem? (i := 150) (by decide +kernel))
theorem ini_4 : Cond.initialized RX4 ∈ lw_tbl := (List.mem_of_getElem? (i := 67) (by decide +kernel))
theorem zcl_5 : zCl 5 RX5 TX5 3 tyX5 := ⟨rfl, by decide +kernel, tyX5_ok, nmX5⟩
theorem df_5 : ∀ j, j < 3 → defaultValue (tyX5 j) = vp_V [.int 0, .int 0, .int 0] j := by decide +kernel
theorem ins_5 : Cond.instantiable RX5 3 ∈ lw_tbl := (List.mem_of_getElem? (i := 348) (by decide +kernel))
theorem ini_5 : Cond.initialized RX5 ∈ lw_tbl := (List.mem_of_getElem? (i := 71) (by decide +kernel))
theorem zcl_6 : zCl 6 RX6 TX6 6 tyX6 := ⟨rfl, by decide +kernel, tyX6_ok, nmX6⟩
theorem df_6 : ∀ j, j < 6 → defaultValue (tyX6 j) = vp_V [.int 0, .int 0, .int 0, .int 0, .int 0, .int 0] j := by decide +kernel
theorem ins_6 : Cond.instantiable RX6 6 ∈ lw_tbl := (List.mem_of_getElem? (i := 393) (by decide +kernel))
theorem ini_6 : Cond.initialized RX6 ∈ lw_tbl := (List.mem_of_getElem? (i := 74) (by decide +kernel))
theorem zcl_7 : zCl 7 RX7 TX7 7 tyX7 := ⟨rfl, by decide +kernel, tyX7_ok, nmX7⟩
theorem df_7 : ∀ j, j < 7 → defaultValue (tyX7 j) = vp_V [.null, .int 0, .null, .int 0, .int 0, .int 0, .int 0] j := by decide +kernel
theorem ins_7 : Cond.instantiable RX7 7 ∈ lw_tbl := (List.mem_of_getElem? (i := 442) (by decide +kernel))
theorem ini_7 : Cond.initialized RX7 ∈ lw_tbl := (List.mem_of_getElem? (i := 76) (by decide +kernel))
theorem zcl_8 : zCl 8 RX8 TX8 3 tyX8 := ⟨rfl, by decide +kernel, tyX8_ok, nmX8⟩
theorem df_8 : ∀ j, j < 3 → defaultValue (tyX8 j) = vp_V [.null, .int 0, .long 0] j := by decide +kernel
theorem ins_8 : Cond.instantiable RX8 3 ∈ lw_tbl := (List.mem_of_getElem? (i := 171) (by decide +kernel))
theorem ini_8 : Cond.initialized RX8 ∈ lw_tbl := (List.mem_of_getElem? (i := 68) (by decide +kernel))
theorem zcl_9 : zCl 9 RX9 TX9 3 tyX9 := ⟨rfl, by decide +kernel, tyX9_ok, nmX9⟩
theorem df_9 : ∀ j, j < 3 → defaultValue (tyX9 j) = vp_V [.int 0, .int 0, .int 0] j := by decide +kernel
theorem ins_9 : Cond.instantiable RX9 3 ∈ lw_tbl := (List.mem_of_getElem? (i := 338) (by decide +kernel))
theorem ini_9 : Cond.initialized RX9 ∈ lw_tbl := (List.mem_of_getElem? (i := 73) (by decide +kernel))
theorem zcl_10 : zCl 10 RX10 TX10 2 tyX10 := ⟨rfl, by decide +kernel, tyX10_ok, nmX10⟩
theorem df_10 : ∀ j, j < 2 → defaultValue (tyX10 j) = vp_V [.null, .int 0] j := by decide +kernel
theorem ins_10 : Cond.instantiable RX10 2 ∈ lw_tbl := (List.mem_of_getElem? (i := 225) (by decide +kernel))
theorem ini_10 : Cond.initialized RX10 ∈ lw_tbl := (List.mem_of_getElem? (i := 69) (by decide +kernel))
theorem zcl_11 : zCl 11 RX11 TX11 14 tyX11 := ⟨rfl, by decide +kernel, tyX11_ok, nmX11⟩
theorem df_11 : ∀ j, j < 14 → defaultValue (tyX11 j) = vp_V [.null, .null, .null, .int 0, .long 0, .long 0, .int 0, .int 0, .int 0, .null, .null, .null, .null, .null] j := by decide +kernel
theorem ins_11 : Cond.instantiable RX11 14 ∈ lw_tbl := (List.mem_of_getElem? (i := 86) (by decide +kernel))
theorem ini_11 : Cond.initialized RX11 ∈ lw_tbl := (List.mem_of_getElem? (i := 64) (by decide +kernel))
theorem zcl_12 : zCl 12 RX12 TX12 21 tyX12 := ⟨rfl, by decide +kernel, tyX12_ok, nmX12⟩
theorem df_12 : ∀ j, j < 21 → defaultValue (tyX12 j) = vp_V [.null, .null, .null, .null, .null, .int 0, .null, .long 0, .long 0, .int 0, .int 0, .int 0, .int 0, .null, .null, .null, .int 0, .int 0, .null, .null, .null] j := by decide +kernel
theorem ins_12 : Cond.instantiable RX12 21 ∈ lw_tbl := (List.mem_of_getElem? (i := 986) (by decide +kernel))
theorem ini_12 : Cond.initialized RX12 ∈ lw_tbl := (List.mem_of_getElem? (i := 70) (by decide +kernel))
theorem im_obj : Cond.instanceMethod Lib.objectInit ∈ lw_tbl := by decide +kernel
theorem cd_obj : Cond.code Lib.objectInit ⟨#[0xb1]⟩ 1 none ∈ lw_tbl := by decide +kernel
theorem nat_copy : Cond.native arraycopyName ∈ lw_tbl := by decide +kernel
theorem st_copy : Cond.static arraycopyName ∈ lw_tbl := by decide +kernel
theorem ini_sys : Cond.initialized "java/lang/System" ∈ lw_tbl := by decide +kernel
theorem ac_int : Cond.arrayClass .int ∈ lw_tbl := by decide +kernel
theorem ac_long : Cond.arrayClass .long ∈ lw_tbl := by decide +kernel
theorem ac_byte : Cond.arrayClass .byte ∈ lw_tbl := by decide +kernel
theorem ac_boolean : Cond.arrayClass .boolean ∈ lw_tbl := by decide +kernel
theorem ao_2 : Cond.arrayOver (.object RX2) ∈ lw_tbl := by decide +kernel
theorem ao_4 : Cond.arrayOver (.object RX4) ∈ lw_tbl := by decide +kernel
theorem ao_5 : Cond.arrayOver (.object RX5) ∈ lw_tbl := by decide +kernel
theorem ca_2 : zCa "OneWhistle$Hill" [2] := by
  intro ci h
  simp only [List.mem_cons, List.not_mem_nil, or_false] at h
  rcases h with rfl
  · exact ⟨RX2, TX2, _, tyX2, zcl_2, Or.inl rfl⟩
theorem ca_4 : zCa "OneWhistle$Lane" [4] := by
  intro ci h
  simp only [List.mem_cons, List.not_mem_nil, or_false] at h
  rcases h with rfl
  · exact ⟨RX4, TX4, _, tyX4, zcl_4, Or.inl rfl⟩
theorem ca_5 : zCa "OneWhistle$Plain" [5, 1, 9, 6, 3] := by
  intro ci h
  simp only [List.mem_cons, List.not_mem_nil, or_false] at h
  rcases h with rfl | rfl | rfl | rfl | rfl
  · exact ⟨RX5, TX5, _, tyX5, zcl_5, Or.inl rfl⟩
  · exact ⟨RX1, TX1, _, tyX1, zcl_1, Or.inr (by decide +kernel)⟩
  · exact ⟨RX9, TX9, _, tyX9, zcl_9, Or.inr (by decide +kernel)⟩
  · exact ⟨RX6, TX6, _, tyX6, zcl_6, Or.inr (by decide +kernel)⟩
  · exact ⟨RX3, TX3, _, tyX3, zcl_3, Or.inr (by decide +kernel)⟩
theorem lk_X4_3 : Cond.methodLink RX4 3 Lib.objectInit ∈ lw_tbl := (List.mem_of_getElem? (i := 154) (by decide +kernel))
theorem fp_X4_9 : zFp RX4 9 [4] 0 (.array .int) "<init>" := by
  intro ci h
  simp only [List.mem_cons, List.not_mem_nil, or_false] at h
  rcases h with rfl
  · exact ⟨RX4, TX4, _, tyX4, zcl_4, by decide, ⟨"OneWhistle$Lane", (List.mem_of_getElem? (i := 155) (by decide +kernel)), Or.inl rfl⟩, rfl, Or.inr ⟨rfl, rfl, rfl⟩⟩
theorem fp_X4_15 : zFp RX4 15 [4] 1 (.array .int) "<init>" := by
  intro ci h
  simp only [List.mem_cons, List.not_mem_nil, or_false] at h
  rcases h with rfl
  · exact ⟨RX4, TX4, _, tyX4, zcl_4, by decide, ⟨"OneWhistle$Lane", (List.mem_of_getElem? (i := 156) (by decide +kernel)), Or.inl rfl⟩, rfl, Or.inr ⟨rfl, rfl, rfl⟩⟩
theorem fp_X4_18 : zFp RX4 18 [4] 2 (.array .int) "<init>" := by
  intro ci h
  simp only [List.mem_cons, List.not_mem_nil, or_false] at h
  rcases h with rfl
  · exact ⟨RX4, TX4, _, tyX4, zcl_4, by decide, ⟨"OneWhistle$Lane", (List.mem_of_getElem? (i := 157) (by decide +kernel)), Or.inl rfl⟩, rfl, Or.inr ⟨rfl, rfl, rfl⟩⟩
theorem fp_X4_21 {nm : String} : zFp RX4 21 [4] 3 (.int) nm := by
  intro ci h
  simp only [List.mem_cons, List.not_mem_nil, or_false] at h
  rcases h with rfl
  · exact ⟨RX4, TX4, _, tyX4, zcl_4, by decide, ⟨"OneWhistle$Lane", (List.mem_of_getElem? (i := 158) (by decide +kernel)), Or.inl rfl⟩, rfl, Or.inl rfl⟩
theorem lk_X8_3 : Cond.methodLink RX8 3 Lib.objectInit ∈ lw_tbl := (List.mem_of_getElem? (i := 175) (by decide +kernel))
theorem fp_X8_9 {nm : String} : zFp RX8 9 [8] 0 (.array .long) nm := by
  intro ci h
  simp only [List.mem_cons, List.not_mem_nil, or_false] at h
  rcases h with rfl
  · exact ⟨RX8, TX8, _, tyX8, zcl_8, by decide, ⟨"OneWhistle$Seen", (List.mem_of_getElem? (i := 176) (by decide +kernel)), Or.inl rfl⟩, rfl, Or.inl rfl⟩
theorem fp_X8_13 {nm : String} : zFp RX8 13 [8] 1 (.int) nm := by
  intro ci h
  simp only [List.mem_cons, List.not_mem_nil, or_false] at h
  rcases h with rfl
  · exact ⟨RX8, TX8, _, tyX8, zcl_8, by decide, ⟨"OneWhistle$Seen", (List.mem_of_getElem? (i := 177) (by decide +kernel)), Or.inl rfl⟩, rfl, Or.inl rfl⟩
theorem fp_X8_17 {nm : String} : zFp RX8 17 [8] 2 (.long) nm := by
  intro ci h
  simp only [List.mem_cons, List.not_mem_nil, or_false] at h
  rcases h with rfl
  · exact ⟨RX8, TX8, _, tyX8, zcl_8, by decide, ⟨"OneWhistle$Seen", (List.mem_of_getElem? (i := 178) (by decide +kernel)), Or.inl rfl⟩, rfl, Or.inl rfl⟩
theorem lk_X0_3 : Cond.methodLink RX0 3 Lib.objectInit ∈ lw_tbl := (List.mem_of_getElem? (i := 147) (by decide +kernel))
theorem cl_X0_9 : Cond.classLink RX0 9 RX4 ∈ lw_tbl := (List.mem_of_getElem? (i := 148) (by decide +kernel))
theorem ln_X0_11 : Cond.methodLinkNest RX0 11 yX4_init "OneWhistle" ∈ lw_tbl := (List.mem_of_getElem? (i := 151) (by decide +kernel))
theorem fp_X0_12 : zFp RX0 12 [0] 0 (.array (.object "OneWhistle$Lane")) "<init>" := by
  intro ci h
  simp only [List.mem_cons, List.not_mem_nil, or_false] at h
  rcases h with rfl
  · exact ⟨RX0, TX0, _, tyX0, zcl_0, by decide, ⟨"OneWhistle$Chase", (List.mem_of_getElem? (i := 188) (by decide +kernel)), Or.inl rfl⟩, rfl, Or.inr ⟨rfl, rfl, rfl⟩⟩
theorem cl_X0_18 : Cond.classLink RX0 18 RX8 ∈ lw_tbl := (List.mem_of_getElem? (i := 170) (by decide +kernel))
theorem ln_X0_20 : Cond.methodLinkNest RX0 20 yX8_init "OneWhistle" ∈ lw_tbl := (List.mem_of_getElem? (i := 172) (by decide +kernel))
theorem fp_X0_21 : zFp RX0 21 [0] 1 (.object "OneWhistle$Seen") "<init>" := by
  intro ci h
  simp only [List.mem_cons, List.not_mem_nil, or_false] at h
  rcases h with rfl
  · exact ⟨RX0, TX0, _, tyX0, zcl_0, by decide, ⟨"OneWhistle$Chase", (List.mem_of_getElem? (i := 189) (by decide +kernel)), Or.inl rfl⟩, rfl, Or.inr ⟨rfl, rfl, rfl⟩⟩
theorem fp_X0_25 {nm : String} : zFp RX0 25 [0] 2 (.int) nm := by
  intro ci h
  simp only [List.mem_cons, List.not_mem_nil, or_false] at h
  rcases h with rfl
  · exact ⟨RX0, TX0, _, tyX0, zcl_0, by decide, ⟨"OneWhistle$Chase", (List.mem_of_getElem? (i := 190) (by decide +kernel)), Or.inl rfl⟩, rfl, Or.inl rfl⟩
theorem fp_X0_29 {nm : String} : zFp RX0 29 [0] 3 (.int) nm := by
  intro ci h
  simp only [List.mem_cons, List.not_mem_nil, or_false] at h
  rcases h with rfl
  · exact ⟨RX0, TX0, _, tyX0, zcl_0, by decide, ⟨"OneWhistle$Chase", (List.mem_of_getElem? (i := 191) (by decide +kernel)), Or.inl rfl⟩, rfl, Or.inl rfl⟩
theorem fp_X0_32 {nm : String} : zFp RX0 32 [0] 4 (.boolean) nm := by
  intro ci h
  simp only [List.mem_cons, List.not_mem_nil, or_false] at h
  rcases h with rfl
  · exact ⟨RX0, TX0, _, tyX0, zcl_0, by decide, ⟨"OneWhistle$Chase", (List.mem_of_getElem? (i := 192) (by decide +kernel)), Or.inl rfl⟩, rfl, Or.inl rfl⟩
theorem fp_X0_36 {nm : String} : zFp RX0 36 [0] 5 (.array .long) nm := by
  intro ci h
  simp only [List.mem_cons, List.not_mem_nil, or_false] at h
  rcases h with rfl
  · exact ⟨RX0, TX0, _, tyX0, zcl_0, by decide, ⟨"OneWhistle$Chase", (List.mem_of_getElem? (i := 193) (by decide +kernel)), Or.inl rfl⟩, rfl, Or.inl rfl⟩
theorem fp_X0_40 {nm : String} : zFp RX0 40 [0] 6 (.array .long) nm := by
  intro ci h
  simp only [List.mem_cons, List.not_mem_nil, or_false] at h
  rcases h with rfl
  · exact ⟨RX0, TX0, _, tyX0, zcl_0, by decide, ⟨"OneWhistle$Chase", (List.mem_of_getElem? (i := 194) (by decide +kernel)), Or.inl rfl⟩, rfl, Or.inl rfl⟩
theorem fp_X0_43 {nm : String} : zFp RX0 43 [0] 7 (.int) nm := by
  intro ci h
  simp only [List.mem_cons, List.not_mem_nil, or_false] at h
  rcases h with rfl
  · exact ⟨RX0, TX0, _, tyX0, zcl_0, by decide, ⟨"OneWhistle$Chase", (List.mem_of_getElem? (i := 195) (by decide +kernel)), Or.inl rfl⟩, rfl, Or.inl rfl⟩
theorem fp_X0_46 {nm : String} : zFp RX0 46 [0] 8 (.int) nm := by
  intro ci h
  simp only [List.mem_cons, List.not_mem_nil, or_false] at h
  rcases h with rfl
  · exact ⟨RX0, TX0, _, tyX0, zcl_0, by decide, ⟨"OneWhistle$Chase", (List.mem_of_getElem? (i := 196) (by decide +kernel)), Or.inl rfl⟩, rfl, Or.inl rfl⟩
theorem kc_X0_49 : Cond.constant RX0 49 (1048576) ∈ lw_tbl := (List.mem_of_getElem? (i := 187) (by decide +kernel))
theorem fp_X0_50 {nm : String} : zFp RX0 50 [0] 9 (.int) nm := by
  intro ci h
  simp only [List.mem_cons, List.not_mem_nil, or_false] at h
  rcases h with rfl
  · exact ⟨RX0, TX0, _, tyX0, zcl_0, by decide, ⟨"OneWhistle$Chase", (List.mem_of_getElem? (i := 197) (by decide +kernel)), Or.inl rfl⟩, rfl, Or.inl rfl⟩
theorem fp_X0_53 {nm : String} : zFp RX0 53 [0] 10 (.int) nm := by
  intro ci h
  simp only [List.mem_cons, List.not_mem_nil, or_false] at h
  rcases h with rfl
  · exact ⟨RX0, TX0, _, tyX0, zcl_0, by decide, ⟨"OneWhistle$Chase", (List.mem_of_getElem? (i := 198) (by decide +kernel)), Or.inl rfl⟩, rfl, Or.inl rfl⟩
theorem fs_X2_30 : zFs RX2 30 [2] 6 := by
  intro ci h
  simp only [List.mem_cons, List.not_mem_nil, or_false] at h
  rcases h with rfl
  · exact ⟨RX2, TX2, _, tyX2, zcl_2, by decide, "OneWhistle$Hill", (List.mem_of_getElem? (i := 121) (by decide +kernel)), Or.inl rfl⟩
theorem fs_X2_35 : zFs RX2 35 [2] 7 := by
  intro ci h
  simp only [List.mem_cons, List.not_mem_nil, or_false] at h
  rcases h with rfl
  · exact ⟨RX2, TX2, _, tyX2, zcl_2, by decide, "OneWhistle$Hill", (List.mem_of_getElem? (i := 123) (by decide +kernel)), Or.inl rfl⟩
theorem fs_X2_9 : zFs RX2 9 [2] 0 := by
  intro ci h
  simp only [List.mem_cons, List.not_mem_nil, or_false] at h
  rcases h with rfl
  · exact ⟨RX2, TX2, _, tyX2, zcl_2, by decide, "OneWhistle$Hill", (List.mem_of_getElem? (i := 101) (by decide +kernel)), Or.inl rfl⟩
theorem fs_X5_13 : zFs RX5 13 [5, 1, 9, 6, 3] 1 := by
  intro ci h
  simp only [List.mem_cons, List.not_mem_nil, or_false] at h
  rcases h with rfl | rfl | rfl | rfl | rfl
  · exact ⟨RX5, TX5, _, tyX5, zcl_5, by decide, "OneWhistle$Plain", (List.mem_of_getElem? (i := 324) (by decide +kernel)), Or.inl rfl⟩
  · exact ⟨RX1, TX1, _, tyX1, zcl_1, by decide, "OneWhistle$Plain", (List.mem_of_getElem? (i := 324) (by decide +kernel)), Or.inl rfl⟩
  · exact ⟨RX9, TX9, _, tyX9, zcl_9, by decide, "OneWhistle$Plain", (List.mem_of_getElem? (i := 324) (by decide +kernel)), Or.inl rfl⟩
  · exact ⟨RX6, TX6, _, tyX6, zcl_6, by decide, "OneWhistle$Plain", (List.mem_of_getElem? (i := 324) (by decide +kernel)), Or.inl rfl⟩
  · exact ⟨RX3, TX3, _, tyX3, zcl_3, by decide, "OneWhistle$Plain", (List.mem_of_getElem? (i := 324) (by decide +kernel)), Or.inl rfl⟩
theorem fs_X5_16 : zFs RX5 16 [5, 1, 9, 6, 3] 2 := by
  intro ci h
  simp only [List.mem_cons, List.not_mem_nil, or_false] at h
  rcases h with rfl | rfl | rfl | rfl | rfl
  · exact ⟨RX5, TX5, _, tyX5, zcl_5, by decide, "OneWhistle$Plain", (List.mem_of_getElem? (i := 327) (by decide +kernel)), Or.inl rfl⟩
  · exact ⟨RX1, TX1, _, tyX1, zcl_1, by decide, "OneWhistle$Plain", (List.mem_of_getElem? (i := 327) (by decide +kernel)), Or.inl rfl⟩
  · exact ⟨RX9, TX9, _, tyX9, zcl_9, by decide, "OneWhistle$Plain", (List.mem_of_getElem? (i := 327) (by decide +kernel)), Or.inl rfl⟩
  · exact ⟨RX6, TX6, _, tyX6, zcl_6, by decide, "OneWhistle$Plain", (List.mem_of_getElem? (i := 327) (by decide +kernel)), Or.inl rfl⟩
  · exact ⟨RX3, TX3, _, tyX3, zcl_3, by decide, "OneWhistle$Plain", (List.mem_of_getElem? (i := 327) (by decide +kernel)), Or.inl rfl⟩
theorem fs_X6_16 : zFs RX6 16 [6, 3] 5 := by
  intro ci h
  simp only [List.mem_cons, List.not_mem_nil, or_false] at h
  rcases h with rfl | rfl
  · exact ⟨RX6, TX6, _, tyX6, zcl_6, by decide, "OneWhistle$Pup", (List.mem_of_getElem? (i := 379) (by decide +kernel)), Or.inl rfl⟩
  · exact ⟨RX3, TX3, _, tyX3, zcl_3, by decide, "OneWhistle$Pup", (List.mem_of_getElem? (i := 379) (by decide +kernel)), Or.inl rfl⟩
theorem fs_X6_19 : zFs RX6 19 [6, 3] 1 := by
  intro ci h
  simp only [List.mem_cons, List.not_mem_nil, or_false] at h
  rcases h with rfl | rfl
  · exact ⟨RX6, TX6, _, tyX6, zcl_6, by decide, "OneWhistle$Pup", (List.mem_of_getElem? (i := 325) (by decide +kernel)), Or.inr (by decide +kernel)⟩
  · exact ⟨RX3, TX3, _, tyX3, zcl_3, by decide, "OneWhistle$Pup", (List.mem_of_getElem? (i := 325) (by decide +kernel)), Or.inr (by decide +kernel)⟩
theorem fs_X6_22 : zFs RX6 22 [6, 3] 2 := by
  intro ci h
  simp only [List.mem_cons, List.not_mem_nil, or_false] at h
  rcases h with rfl | rfl
  · exact ⟨RX6, TX6, _, tyX6, zcl_6, by decide, "OneWhistle$Pup", (List.mem_of_getElem? (i := 328) (by decide +kernel)), Or.inr (by decide +kernel)⟩
  · exact ⟨RX3, TX3, _, tyX3, zcl_3, by decide, "OneWhistle$Pup", (List.mem_of_getElem? (i := 328) (by decide +kernel)), Or.inr (by decide +kernel)⟩
theorem fs_X6_7 : zFs RX6 7 [6, 3] 3 := by
  intro ci h
  simp only [List.mem_cons, List.not_mem_nil, or_false] at h
  rcases h with rfl | rfl
  · exact ⟨RX6, TX6, _, tyX6, zcl_6, by decide, "OneWhistle$Pup", (List.mem_of_getElem? (i := 377) (by decide +kernel)), Or.inl rfl⟩
  · exact ⟨RX3, TX3, _, tyX3, zcl_3, by decide, "OneWhistle$Pup", (List.mem_of_getElem? (i := 377) (by decide +kernel)), Or.inl rfl⟩
theorem fs_X6_13 : zFs RX6 13 [6, 3] 4 := by
  intro ci h
  simp only [List.mem_cons, List.not_mem_nil, or_false] at h
  rcases h with rfl | rfl
  · exact ⟨RX6, TX6, _, tyX6, zcl_6, by decide, "OneWhistle$Pup", (List.mem_of_getElem? (i := 378) (by decide +kernel)), Or.inl rfl⟩
  · exact ⟨RX3, TX3, _, tyX3, zcl_3, by decide, "OneWhistle$Pup", (List.mem_of_getElem? (i := 378) (by decide +kernel)), Or.inl rfl⟩
theorem lk_X5_23 : Cond.methodLink RX5 23 yX5_rowFor ∈ lw_tbl := (List.mem_of_getElem? (i := 607) (by decide +kernel))
theorem ln_X5_27 : Cond.methodLinkNest RX5 27 yX11_holds "OneWhistle" ∈ lw_tbl := (List.mem_of_getElem? (i := 618) (by decide +kernel))
theorem lk_X5_19 : Cond.methodLink RX5 19 yX5_byRows ∈ lw_tbl := (List.mem_of_getElem? (i := 633) (by decide +kernel))
theorem lk_X1_7 : Cond.methodLink RX1 7 ⟨"OneWhistle$Deaf", "byRows", "(IIII)I"⟩ ∈ lw_tbl := (List.mem_of_getElem? (i := 600) (by decide +kernel))
theorem lk_X9_7 : Cond.methodLink RX9 7 ⟨"OneWhistle$Stubborn", "byRows", "(IIII)I"⟩ ∈ lw_tbl := (List.mem_of_getElem? (i := 629) (by decide +kernel))
theorem lk_X3_7 : Cond.methodLink RX3 7 ⟨"OneWhistle$Keen", "byRows", "(IIII)I"⟩ ∈ lw_tbl := (List.mem_of_getElem? (i := 622) (by decide +kernel))
theorem fs_X3_13 : zFs RX3 13 [3] 5 := by
  intro ci h
  simp only [List.mem_cons, List.not_mem_nil, or_false] at h
  rcases h with rfl
  · exact ⟨RX3, TX3, _, tyX3, zcl_3, by decide, "OneWhistle$Keen", (List.mem_of_getElem? (i := 380) (by decide +kernel)), Or.inr (by decide +kernel)⟩
theorem fs_X4_21 : zFs RX4 21 [4] 3 := by
  intro ci h
  simp only [List.mem_cons, List.not_mem_nil, or_false] at h
  rcases h with rfl
  · exact ⟨RX4, TX4, _, tyX4, zcl_4, by decide, "OneWhistle$Lane", (List.mem_of_getElem? (i := 158) (by decide +kernel)), Or.inl rfl⟩
theorem fs_X4_9 : zFs RX4 9 [4] 0 := by
  intro ci h
  simp only [List.mem_cons, List.not_mem_nil, or_false] at h
  rcases h with rfl
  · exact ⟨RX4, TX4, _, tyX4, zcl_4, by decide, "OneWhistle$Lane", (List.mem_of_getElem? (i := 155) (by decide +kernel)), Or.inl rfl⟩
theorem lk_X4_25 : Cond.methodLink RX4 25 yJ9_min_7cf53 ∈ lw_tbl := (List.mem_of_getElem? (i := 682) (by decide +kernel))
theorem lk_X4_31 : Cond.methodLink RX4 31 yX4_rowOf ∈ lw_tbl := (List.mem_of_getElem? (i := 685) (by decide +kernel))
theorem lk_X4_34 : Cond.methodLink RX4 34 yX5_next ∈ lw_tbl := (List.mem_of_getElem? (i := 688) (by decide +kernel))
theorem lk_X4_40 : Cond.methodLink RX4 40 yX4_joinSets ∈ lw_tbl := (List.mem_of_getElem? (i := 689) (by decide +kernel))
theorem fs_X4_15 : zFs RX4 15 [4] 1 := by
  intro ci h
  simp only [List.mem_cons, List.not_mem_nil, or_false] at h
  rcases h with rfl
  · exact ⟨RX4, TX4, _, tyX4, zcl_4, by decide, "OneWhistle$Lane", (List.mem_of_getElem? (i := 156) (by decide +kernel)), Or.inl rfl⟩
theorem kc_X4_48 : Cond.constant RX4 48 (1048576) ∈ lw_tbl := (List.mem_of_getElem? (i := 697) (by decide +kernel))
theorem ln_X4_44 : Cond.methodLinkNest RX4 44 yX11_phaseOf "OneWhistle" ∈ lw_tbl := (List.mem_of_getElem? (i := 698) (by decide +kernel))
theorem fs_X0_25 : zFs RX0 25 [0] 2 := by
  intro ci h
  simp only [List.mem_cons, List.not_mem_nil, or_false] at h
  rcases h with rfl
  · exact ⟨RX0, TX0, _, tyX0, zcl_0, by decide, "OneWhistle$Chase", (List.mem_of_getElem? (i := 190) (by decide +kernel)), Or.inl rfl⟩
theorem fs_X0_12 : zFs RX0 12 [0] 0 := by
  intro ci h
  simp only [List.mem_cons, List.not_mem_nil, or_false] at h
  rcases h with rfl
  · exact ⟨RX0, TX0, _, tyX0, zcl_0, by decide, "OneWhistle$Chase", (List.mem_of_getElem? (i := 188) (by decide +kernel)), Or.inl rfl⟩
theorem fs_X0_77 : zFs RX0 77 [2] 0 := by
  intro ci h
  simp only [List.mem_cons, List.not_mem_nil, or_false] at h
  rcases h with rfl
  · exact ⟨RX2, TX2, _, tyX2, zcl_2, by decide, "OneWhistle$Hill", (List.mem_of_getElem? (i := 103) (by decide +kernel)), Or.inl rfl⟩
theorem lk_X0_80 : Cond.methodLink RX0 80 yX4_learn ∈ lw_tbl := (List.mem_of_getElem? (i := 678) (by decide +kernel))
theorem lk_X0_84 : Cond.methodLink RX0 84 yX4_findEnds ∈ lw_tbl := (List.mem_of_getElem? (i := 693) (by decide +kernel))
theorem fs_X0_29 : zFs RX0 29 [0] 3 := by
  intro ci h
  simp only [List.mem_cons, List.not_mem_nil, or_false] at h
  rcases h with rfl
  · exact ⟨RX0, TX0, _, tyX0, zcl_0, by decide, "OneWhistle$Chase", (List.mem_of_getElem? (i := 191) (by decide +kernel)), Or.inl rfl⟩
theorem fs_X0_32 : zFs RX0 32 [0] 4 := by
  intro ci h
  simp only [List.mem_cons, List.not_mem_nil, or_false] at h
  rcases h with rfl
  · exact ⟨RX0, TX0, _, tyX0, zcl_0, by decide, "OneWhistle$Chase", (List.mem_of_getElem? (i := 192) (by decide +kernel)), Or.inl rfl⟩
theorem lk_X0_88 : Cond.methodLink RX0 88 yX5_heedsOdd ∈ lw_tbl := (List.mem_of_getElem? (i := 701) (by decide +kernel))
theorem lk_X0_56 : Cond.methodLink RX0 56 yX2_dogAt ∈ lw_tbl := (List.mem_of_getElem? (i := 671) (by decide +kernel))
theorem ln_X0_62 : Cond.methodLinkNest RX0 62 yX11_holds "OneWhistle" ∈ lw_tbl := (List.mem_of_getElem? (i := 672) (by decide +kernel))
theorem lk_X0_66 : Cond.methodLink RX0 66 yX2_allPlaces ∈ lw_tbl := (List.mem_of_getElem? (i := 673) (by decide +kernel))
theorem fs_X0_70 : zFs RX0 70 [2] 2 := by
  intro ci h
  simp only [List.mem_cons, List.not_mem_nil, or_false] at h
  rcases h with rfl
  · exact ⟨RX2, TX2, _, tyX2, zcl_2, by decide, "OneWhistle$Hill", (List.mem_of_getElem? (i := 109) (by decide +kernel)), Or.inl rfl⟩
theorem lk_X0_73 : Cond.methodLink RX0 73 yX0_addLane ∈ lw_tbl := (List.mem_of_getElem? (i := 674) (by decide +kernel))
theorem fs_X8_17 : zFs RX8 17 [8] 2 := by
  intro ci h
  simp only [List.mem_cons, List.not_mem_nil, or_false] at h
  rcases h with rfl
  · exact ⟨RX8, TX8, _, tyX8, zcl_8, by decide, "OneWhistle$Seen", (List.mem_of_getElem? (i := 178) (by decide +kernel)), Or.inl rfl⟩
theorem kc_J6_265 : Cond.constant RJ6 265 (1431655765) ∈ lw_tbl := (List.mem_of_getElem? (i := 735) (by decide +kernel))
theorem kc_J6_266 : Cond.constant RJ6 266 (858993459) ∈ lw_tbl := (List.mem_of_getElem? (i := 736) (by decide +kernel))
theorem kc_J6_267 : Cond.constant RJ6 267 (252645135) ∈ lw_tbl := (List.mem_of_getElem? (i := 737) (by decide +kernel))
theorem lk_X11_203 : Cond.methodLink RX11 203 yJ6_bitCount_0f7a4 ∈ lw_tbl := (List.mem_of_getElem? (i := 732) (by decide +kernel))
theorem kc_X8_37 : Cond.constant RX8 37 (65535) ∈ lw_tbl := (List.mem_of_getElem? (i := 758) (by decide +kernel))
theorem fs_X8_9 : zFs RX8 9 [8] 0 := by
  intro ci h
  simp only [List.mem_cons, List.not_mem_nil, or_false] at h
  rcases h with rfl
  · exact ⟨RX8, TX8, _, tyX8, zcl_8, by decide, "OneWhistle$Seen", (List.mem_of_getElem? (i := 176) (by decide +kernel)), Or.inl rfl⟩
theorem kc_X8_38 : Cond.constant RX8 38 (40503) ∈ lw_tbl := (List.mem_of_getElem? (i := 750) (by decide +kernel))
theorem lk_X8_25 : Cond.methodLink RX8 25 yX8_isOurs ∈ lw_tbl := (List.mem_of_getElem? (i := 751) (by decide +kernel))
theorem lk_X8_39 : Cond.methodLink RX8 39 yX8_keyOf ∈ lw_tbl := (List.mem_of_getElem? (i := 755) (by decide +kernel))
theorem fs_X8_13 : zFs RX8 13 [8] 1 := by
  intro ci h
  simp only [List.mem_cons, List.not_mem_nil, or_false] at h
  rcases h with rfl
  · exact ⟨RX8, TX8, _, tyX8, zcl_8, by decide, "OneWhistle$Seen", (List.mem_of_getElem? (i := 177) (by decide +kernel)), Or.inl rfl⟩
theorem kc_X8_42 : Cond.constant RX8 42 (131072) ∈ lw_tbl := (List.mem_of_getElem? (i := 766) (by decide +kernel))
theorem lk_X8_21 : Cond.methodLink RX8 21 yX8_slotFor ∈ lw_tbl := (List.mem_of_getElem? (i := 746) (by decide +kernel))
theorem lk_X8_29 : Cond.methodLink RX8 29 yX8_breathOf ∈ lw_tbl := (List.mem_of_getElem? (i := 759) (by decide +kernel))
theorem lk_X8_34 : Cond.methodLink RX8 34 yX8_grow ∈ lw_tbl := (List.mem_of_getElem? (i := 762) (by decide +kernel))
theorem lk_J7_304 : Cond.methodLink RJ7 304 yJ9_min_7cf53 ∈ lw_tbl := (List.mem_of_getElem? (i := 782) (by decide +kernel))
theorem lk_J7_150 : Cond.methodLink RJ7 150 arraycopyName ∈ lw_tbl := (List.mem_of_getElem? (i := 783) (by decide +kernel))
theorem fs_X0_43 : zFs RX0 43 [0] 7 := by
  intro ci h
  simp only [List.mem_cons, List.not_mem_nil, or_false] at h
  rcases h with rfl
  · exact ⟨RX0, TX0, _, tyX0, zcl_0, by decide, "OneWhistle$Chase", (List.mem_of_getElem? (i := 195) (by decide +kernel)), Or.inl rfl⟩
theorem kc_X0_151 : Cond.constant RX0 151 (65536) ∈ lw_tbl := (List.mem_of_getElem? (i := 771) (by decide +kernel))
theorem fs_X0_40 : zFs RX0 40 [0] 6 := by
  intro ci h
  simp only [List.mem_cons, List.not_mem_nil, or_false] at h
  rcases h with rfl
  · exact ⟨RX0, TX0, _, tyX0, zcl_0, by decide, "OneWhistle$Chase", (List.mem_of_getElem? (i := 194) (by decide +kernel)), Or.inl rfl⟩
theorem lk_X0_152 : Cond.methodLink RX0 152 yJ7_copyOf_c38d5 ∈ lw_tbl := (List.mem_of_getElem? (i := 772) (by decide +kernel))
theorem lk_X0_138 : Cond.methodLink RX0 138 yX4_endsFrom ∈ lw_tbl := (List.mem_of_getElem? (i := 725) (by decide +kernel))
theorem ln_X0_141 : Cond.methodLinkNest RX0 141 yX11_lowestBitIndex "OneWhistle" ∈ lw_tbl := (List.mem_of_getElem? (i := 729) (by decide +kernel))
theorem fs_X0_46 : zFs RX0 46 [0] 8 := by
  intro ci h
  simp only [List.mem_cons, List.not_mem_nil, or_false] at h
  rcases h with rfl
  · exact ⟨RX0, TX0, _, tyX0, zcl_0, by decide, "OneWhistle$Chase", (List.mem_of_getElem? (i := 196) (by decide +kernel)), Or.inl rfl⟩
theorem fs_X0_50 : zFs RX0 50 [0] 9 := by
  intro ci h
  simp only [List.mem_cons, List.not_mem_nil, or_false] at h
  rcases h with rfl
  · exact ⟨RX0, TX0, _, tyX0, zcl_0, by decide, "OneWhistle$Chase", (List.mem_of_getElem? (i := 197) (by decide +kernel)), Or.inl rfl⟩
theorem fs_X0_21 : zFs RX0 21 [0] 1 := by
  intro ci h
  simp only [List.mem_cons, List.not_mem_nil, or_false] at h
  rcases h with rfl
  · exact ⟨RX0, TX0, _, tyX0, zcl_0, by decide, "OneWhistle$Chase", (List.mem_of_getElem? (i := 189) (by decide +kernel)), Or.inl rfl⟩
theorem lk_X0_121 : Cond.methodLink RX0 121 yX0_keyOf ∈ lw_tbl := (List.mem_of_getElem? (i := 738) (by decide +kernel))
theorem lk_X0_144 : Cond.methodLink RX0 144 yX8_isLess ∈ lw_tbl := (List.mem_of_getElem? (i := 742) (by decide +kernel))
theorem lk_X0_147 : Cond.methodLink RX0 147 yX0_keep ∈ lw_tbl := (List.mem_of_getElem? (i := 767) (by decide +kernel))
theorem kc_X8_33 : Cond.constant RX8 33 (1048576) ∈ lw_tbl := (List.mem_of_getElem? (i := 800) (by decide +kernel))
theorem fs_X0_36 : zFs RX0 36 [0] 5 := by
  intro ci h
  simp only [List.mem_cons, List.not_mem_nil, or_false] at h
  rcases h with rfl
  · exact ⟨RX0, TX0, _, tyX0, zcl_0, by decide, "OneWhistle$Chase", (List.mem_of_getElem? (i := 193) (by decide +kernel)), Or.inl rfl⟩
theorem lk_X0_114 : Cond.methodLink RX0 114 yX0_breathOf ∈ lw_tbl := (List.mem_of_getElem? (i := 790) (by decide +kernel))
theorem lk_X0_118 : Cond.methodLink RX0 118 yX0_packOf ∈ lw_tbl := (List.mem_of_getElem? (i := 793) (by decide +kernel))
theorem lk_X0_124 : Cond.methodLink RX0 124 yX8_leastFor ∈ lw_tbl := (List.mem_of_getElem? (i := 796) (by decide +kernel))
theorem kc_X0_134 : Cond.constant RX0 134 (1048575) ∈ lw_tbl := (List.mem_of_getElem? (i := 808) (by decide +kernel))
theorem lk_X0_135 : Cond.methodLink RX0 135 yX4_behind ∈ lw_tbl := (List.mem_of_getElem? (i := 813) (by decide +kernel))
theorem lk_X0_127 : Cond.methodLink RX0 127 yX0_tuneOf ∈ lw_tbl := (List.mem_of_getElem? (i := 805) (by decide +kernel))
theorem lk_X0_130 : Cond.methodLink RX0 130 yX0_packBehind ∈ lw_tbl := (List.mem_of_getElem? (i := 809) (by decide +kernel))
theorem lk_X0_102 : Cond.methodLink RX0 102 yX0_offer ∈ lw_tbl := (List.mem_of_getElem? (i := 721) (by decide +kernel))
theorem lk_X0_93 : Cond.methodLink RX0 93 yX8_forget ∈ lw_tbl := (List.mem_of_getElem? (i := 716) (by decide +kernel))
theorem lk_X0_96 : Cond.methodLink RX0 96 yJ9_min_7cf53 ∈ lw_tbl := (List.mem_of_getElem? (i := 720) (by decide +kernel))
theorem lk_X0_106 : Cond.methodLink RX0 106 yX0_takeLater ∈ lw_tbl := (List.mem_of_getElem? (i := 786) (by decide +kernel))
theorem lk_X0_110 : Cond.methodLink RX0 110 yX0_whistleOn ∈ lw_tbl := (List.mem_of_getElem? (i := 801) (by decide +kernel))
theorem fs_X0_53 : zFs RX0 53 [0] 10 := by
  intro ci h
  simp only [List.mem_cons, List.not_mem_nil, or_false] at h
  rcases h with rfl
  · exact ⟨RX0, TX0, _, tyX0, zcl_0, by decide, "OneWhistle$Chase", (List.mem_of_getElem? (i := 198) (by decide +kernel)), Or.inl rfl⟩
theorem lk_X5_1 : Cond.methodLink RX5 1 Lib.objectInit ∈ lw_tbl := (List.mem_of_getElem? (i := 322) (by decide +kernel))
theorem fp_X5_7 : zFp RX5 7 [5, 1, 9, 6, 3] 0 (.int) "<init>" := by
  intro ci h
  simp only [List.mem_cons, List.not_mem_nil, or_false] at h
  rcases h with rfl | rfl | rfl | rfl | rfl
  · exact ⟨RX5, TX5, _, tyX5, zcl_5, by decide, ⟨"OneWhistle$Plain", (List.mem_of_getElem? (i := 323) (by decide +kernel)), Or.inl rfl⟩, rfl, Or.inr ⟨rfl, rfl, rfl⟩⟩
  · exact ⟨RX1, TX1, _, tyX1, zcl_1, by decide, ⟨"OneWhistle$Plain", (List.mem_of_getElem? (i := 323) (by decide +kernel)), Or.inl rfl⟩, rfl, Or.inr ⟨rfl, rfl, rfl⟩⟩
  · exact ⟨RX9, TX9, _, tyX9, zcl_9, by decide, ⟨"OneWhistle$Plain", (List.mem_of_getElem? (i := 323) (by decide +kernel)), Or.inl rfl⟩, rfl, Or.inr ⟨rfl, rfl, rfl⟩⟩
  · exact ⟨RX6, TX6, _, tyX6, zcl_6, by decide, ⟨"OneWhistle$Plain", (List.mem_of_getElem? (i := 323) (by decide +kernel)), Or.inl rfl⟩, rfl, Or.inr ⟨rfl, rfl, rfl⟩⟩
  · exact ⟨RX3, TX3, _, tyX3, zcl_3, by decide, ⟨"OneWhistle$Plain", (List.mem_of_getElem? (i := 323) (by decide +kernel)), Or.inl rfl⟩, rfl, Or.inr ⟨rfl, rfl, rfl⟩⟩
theorem fp_X5_13 : zFp RX5 13 [5, 1, 9, 6, 3] 1 (.int) "<init>" := by
  intro ci h
  simp only [List.mem_cons, List.not_mem_nil, or_false] at h
  rcases h with rfl | rfl | rfl | rfl | rfl
  · exact ⟨RX5, TX5, _, tyX5, zcl_5, by decide, ⟨"OneWhistle$Plain", (List.mem_of_getElem? (i := 324) (by decide +kernel)), Or.inl rfl⟩, rfl, Or.inr ⟨rfl, rfl, rfl⟩⟩
  · exact ⟨RX1, TX1, _, tyX1, zcl_1, by decide, ⟨"OneWhistle$Plain", (List.mem_of_getElem? (i := 324) (by decide +kernel)), Or.inl rfl⟩, rfl, Or.inr ⟨rfl, rfl, rfl⟩⟩
  · exact ⟨RX9, TX9, _, tyX9, zcl_9, by decide, ⟨"OneWhistle$Plain", (List.mem_of_getElem? (i := 324) (by decide +kernel)), Or.inl rfl⟩, rfl, Or.inr ⟨rfl, rfl, rfl⟩⟩
  · exact ⟨RX6, TX6, _, tyX6, zcl_6, by decide, ⟨"OneWhistle$Plain", (List.mem_of_getElem? (i := 324) (by decide +kernel)), Or.inl rfl⟩, rfl, Or.inr ⟨rfl, rfl, rfl⟩⟩
  · exact ⟨RX3, TX3, _, tyX3, zcl_3, by decide, ⟨"OneWhistle$Plain", (List.mem_of_getElem? (i := 324) (by decide +kernel)), Or.inl rfl⟩, rfl, Or.inr ⟨rfl, rfl, rfl⟩⟩
theorem fp_X5_16 : zFp RX5 16 [5, 1, 9, 6, 3] 2 (.int) "<init>" := by
  intro ci h
  simp only [List.mem_cons, List.not_mem_nil, or_false] at h
  rcases h with rfl | rfl | rfl | rfl | rfl
  · exact ⟨RX5, TX5, _, tyX5, zcl_5, by decide, ⟨"OneWhistle$Plain", (List.mem_of_getElem? (i := 327) (by decide +kernel)), Or.inl rfl⟩, rfl, Or.inr ⟨rfl, rfl, rfl⟩⟩
  · exact ⟨RX1, TX1, _, tyX1, zcl_1, by decide, ⟨"OneWhistle$Plain", (List.mem_of_getElem? (i := 327) (by decide +kernel)), Or.inl rfl⟩, rfl, Or.inr ⟨rfl, rfl, rfl⟩⟩
  · exact ⟨RX9, TX9, _, tyX9, zcl_9, by decide, ⟨"OneWhistle$Plain", (List.mem_of_getElem? (i := 327) (by decide +kernel)), Or.inl rfl⟩, rfl, Or.inr ⟨rfl, rfl, rfl⟩⟩
  · exact ⟨RX6, TX6, _, tyX6, zcl_6, by decide, ⟨"OneWhistle$Plain", (List.mem_of_getElem? (i := 327) (by decide +kernel)), Or.inl rfl⟩, rfl, Or.inr ⟨rfl, rfl, rfl⟩⟩
  · exact ⟨RX3, TX3, _, tyX3, zcl_3, by decide, ⟨"OneWhistle$Plain", (List.mem_of_getElem? (i := 327) (by decide +kernel)), Or.inl rfl⟩, rfl, Or.inr ⟨rfl, rfl, rfl⟩⟩
theorem lk_X1_1 : Cond.methodLink RX1 1 yX5_init ∈ lw_tbl := (List.mem_of_getElem? (i := 319) (by decide +kernel))
theorem lk_X2_3 : Cond.methodLink RX2 3 Lib.objectInit ∈ lw_tbl := (List.mem_of_getElem? (i := 98) (by decide +kernel))
theorem fp_X2_9 {nm : String} : zFp RX2 9 [2] 0 (.int) nm := by
  intro ci h
  simp only [List.mem_cons, List.not_mem_nil, or_false] at h
  rcases h with rfl
  · exact ⟨RX2, TX2, _, tyX2, zcl_2, by decide, ⟨"OneWhistle$Hill", (List.mem_of_getElem? (i := 101) (by decide +kernel)), Or.inl rfl⟩, rfl, Or.inl rfl⟩
theorem fp_X2_15 {nm : String} : zFp RX2 15 [2] 1 (.int) nm := by
  intro ci h
  simp only [List.mem_cons, List.not_mem_nil, or_false] at h
  rcases h with rfl
  · exact ⟨RX2, TX2, _, tyX2, zcl_2, by decide, ⟨"OneWhistle$Hill", (List.mem_of_getElem? (i := 105) (by decide +kernel)), Or.inl rfl⟩, rfl, Or.inl rfl⟩
theorem fp_X2_18 {nm : String} : zFp RX2 18 [2] 2 (.int) nm := by
  intro ci h
  simp only [List.mem_cons, List.not_mem_nil, or_false] at h
  rcases h with rfl
  · exact ⟨RX2, TX2, _, tyX2, zcl_2, by decide, ⟨"OneWhistle$Hill", (List.mem_of_getElem? (i := 108) (by decide +kernel)), Or.inl rfl⟩, rfl, Or.inl rfl⟩
theorem fp_X2_21 {nm : String} : zFp RX2 21 [2] 3 (.int) nm := by
  intro ci h
  simp only [List.mem_cons, List.not_mem_nil, or_false] at h
  rcases h with rfl
  · exact ⟨RX2, TX2, _, tyX2, zcl_2, by decide, ⟨"OneWhistle$Hill", (List.mem_of_getElem? (i := 112) (by decide +kernel)), Or.inl rfl⟩, rfl, Or.inl rfl⟩
theorem fp_X2_24 {nm : String} : zFp RX2 24 [2] 4 (.int) nm := by
  intro ci h
  simp only [List.mem_cons, List.not_mem_nil, or_false] at h
  rcases h with rfl
  · exact ⟨RX2, TX2, _, tyX2, zcl_2, by decide, ⟨"OneWhistle$Hill", (List.mem_of_getElem? (i := 115) (by decide +kernel)), Or.inl rfl⟩, rfl, Or.inl rfl⟩
theorem fp_X2_27 {nm : String} : zFp RX2 27 [2] 5 (.int) nm := by
  intro ci h
  simp only [List.mem_cons, List.not_mem_nil, or_false] at h
  rcases h with rfl
  · exact ⟨RX2, TX2, _, tyX2, zcl_2, by decide, ⟨"OneWhistle$Hill", (List.mem_of_getElem? (i := 118) (by decide +kernel)), Or.inl rfl⟩, rfl, Or.inl rfl⟩
theorem fp_X2_30 {nm : String} : zFp RX2 30 [2] 6 (.int) nm := by
  intro ci h
  simp only [List.mem_cons, List.not_mem_nil, or_false] at h
  rcases h with rfl
  · exact ⟨RX2, TX2, _, tyX2, zcl_2, by decide, ⟨"OneWhistle$Hill", (List.mem_of_getElem? (i := 121) (by decide +kernel)), Or.inl rfl⟩, rfl, Or.inl rfl⟩
theorem cl_X2_33 : Cond.classLink RX2 33 RX5 ∈ lw_tbl := (List.mem_of_getElem? (i := 99) (by decide +kernel))
theorem fp_X2_35 : zFp RX2 35 [2] 7 (.array (.object "OneWhistle$Plain")) "<init>" := by
  intro ci h
  simp only [List.mem_cons, List.not_mem_nil, or_false] at h
  rcases h with rfl
  · exact ⟨RX2, TX2, _, tyX2, zcl_2, by decide, ⟨"OneWhistle$Hill", (List.mem_of_getElem? (i := 123) (by decide +kernel)), Or.inl rfl⟩, rfl, Or.inr ⟨rfl, rfl, rfl⟩⟩
theorem cl_X2_10 : Cond.classLink RX2 10 RX2 ∈ lw_tbl := (List.mem_of_getElem? (i := 940) (by decide +kernel))
theorem lk_X2_39 : Cond.methodLink RX2 39 yX2_init ∈ lw_tbl := (List.mem_of_getElem? (i := 941) (by decide +kernel))
theorem fs_X2_15 : zFs RX2 15 [2] 1 := by
  intro ci h
  simp only [List.mem_cons, List.not_mem_nil, or_false] at h
  rcases h with rfl
  · exact ⟨RX2, TX2, _, tyX2, zcl_2, by decide, "OneWhistle$Hill", (List.mem_of_getElem? (i := 105) (by decide +kernel)), Or.inl rfl⟩
theorem fs_X2_18 : zFs RX2 18 [2] 2 := by
  intro ci h
  simp only [List.mem_cons, List.not_mem_nil, or_false] at h
  rcases h with rfl
  · exact ⟨RX2, TX2, _, tyX2, zcl_2, by decide, "OneWhistle$Hill", (List.mem_of_getElem? (i := 108) (by decide +kernel)), Or.inl rfl⟩
theorem fs_X2_21 : zFs RX2 21 [2] 3 := by
  intro ci h
  simp only [List.mem_cons, List.not_mem_nil, or_false] at h
  rcases h with rfl
  · exact ⟨RX2, TX2, _, tyX2, zcl_2, by decide, "OneWhistle$Hill", (List.mem_of_getElem? (i := 112) (by decide +kernel)), Or.inl rfl⟩
theorem fs_X2_24 : zFs RX2 24 [2] 4 := by
  intro ci h
  simp only [List.mem_cons, List.not_mem_nil, or_false] at h
  rcases h with rfl
  · exact ⟨RX2, TX2, _, tyX2, zcl_2, by decide, "OneWhistle$Hill", (List.mem_of_getElem? (i := 115) (by decide +kernel)), Or.inl rfl⟩
theorem fs_X2_27 : zFs RX2 27 [2] 5 := by
  intro ci h
  simp only [List.mem_cons, List.not_mem_nil, or_false] at h
  rcases h with rfl
  · exact ⟨RX2, TX2, _, tyX2, zcl_2, by decide, "OneWhistle$Hill", (List.mem_of_getElem? (i := 118) (by decide +kernel)), Or.inl rfl⟩
theorem ln_X2_40 : Cond.methodLinkNest RX2 40 yX11_areBits "OneWhistle" ∈ lw_tbl := (List.mem_of_getElem? (i := 666) (by decide +kernel))
theorem lk_X6_1 : Cond.methodLink RX6 1 yX5_init ∈ lw_tbl := (List.mem_of_getElem? (i := 376) (by decide +kernel))
theorem fp_X6_7 : zFp RX6 7 [6, 3] 3 (.int) "<init>" := by
  intro ci h
  simp only [List.mem_cons, List.not_mem_nil, or_false] at h
  rcases h with rfl | rfl
  · exact ⟨RX6, TX6, _, tyX6, zcl_6, by decide, ⟨"OneWhistle$Pup", (List.mem_of_getElem? (i := 377) (by decide +kernel)), Or.inl rfl⟩, rfl, Or.inr ⟨rfl, rfl, rfl⟩⟩
  · exact ⟨RX3, TX3, _, tyX3, zcl_3, by decide, ⟨"OneWhistle$Pup", (List.mem_of_getElem? (i := 377) (by decide +kernel)), Or.inl rfl⟩, rfl, Or.inr ⟨rfl, rfl, rfl⟩⟩
theorem fp_X6_13 : zFp RX6 13 [6, 3] 4 (.int) "<init>" := by
  intro ci h
  simp only [List.mem_cons, List.not_mem_nil, or_false] at h
  rcases h with rfl | rfl
  · exact ⟨RX6, TX6, _, tyX6, zcl_6, by decide, ⟨"OneWhistle$Pup", (List.mem_of_getElem? (i := 378) (by decide +kernel)), Or.inl rfl⟩, rfl, Or.inr ⟨rfl, rfl, rfl⟩⟩
  · exact ⟨RX3, TX3, _, tyX3, zcl_3, by decide, ⟨"OneWhistle$Pup", (List.mem_of_getElem? (i := 378) (by decide +kernel)), Or.inl rfl⟩, rfl, Or.inr ⟨rfl, rfl, rfl⟩⟩
theorem fp_X6_16 : zFp RX6 16 [6, 3] 5 (.int) "<init>" := by
  intro ci h
  simp only [List.mem_cons, List.not_mem_nil, or_false] at h
  rcases h with rfl | rfl
  · exact ⟨RX6, TX6, _, tyX6, zcl_6, by decide, ⟨"OneWhistle$Pup", (List.mem_of_getElem? (i := 379) (by decide +kernel)), Or.inl rfl⟩, rfl, Or.inr ⟨rfl, rfl, rfl⟩⟩
  · exact ⟨RX3, TX3, _, tyX3, zcl_3, by decide, ⟨"OneWhistle$Pup", (List.mem_of_getElem? (i := 379) (by decide +kernel)), Or.inl rfl⟩, rfl, Or.inr ⟨rfl, rfl, rfl⟩⟩
theorem lk_X3_1 : Cond.methodLink RX3 1 yX6_init ∈ lw_tbl := (List.mem_of_getElem? (i := 373) (by decide +kernel))
theorem fs_X4_18 : zFs RX4 18 [4] 2 := by
  intro ci h
  simp only [List.mem_cons, List.not_mem_nil, or_false] at h
  rcases h with rfl
  · exact ⟨RX4, TX4, _, tyX4, zcl_4, by decide, "OneWhistle$Lane", (List.mem_of_getElem? (i := 157) (by decide +kernel)), Or.inl rfl⟩
theorem lk_X4_64 : Cond.methodLink RX4 64 yX4_behind ∈ lw_tbl := (List.mem_of_getElem? (i := 846) (by decide +kernel))
theorem ln_X4_68 : Cond.methodLinkNest RX4 68 yX11_holds "OneWhistle" ∈ lw_tbl := (List.mem_of_getElem? (i := 847) (by decide +kernel))
theorem lk_X4_49 : Cond.methodLink RX4 49 yJ6_bitCount_0f7a4 ∈ lw_tbl := (List.mem_of_getElem? (i := 838) (by decide +kernel))
theorem lk_X4_54 : Cond.methodLink RX4 54 yJ7_fill_53178 ∈ lw_tbl := (List.mem_of_getElem? (i := 839) (by decide +kernel))
theorem lk_X4_60 : Cond.methodLink RX4 60 yX4_growMeetings ∈ lw_tbl := (List.mem_of_getElem? (i := 842) (by decide +kernel))
theorem lk_X5_33 : Cond.methodLink RX5 33 yX5_next ∈ lw_tbl := (List.mem_of_getElem? (i := 653) (by decide +kernel))
theorem kl_X5_44 : Cond.constantLong RX5 44 (31) ∈ lw_tbl := (List.mem_of_getElem? (i := 975) (by decide +kernel))
theorem fs_X5_7 : zFs RX5 7 [5, 1, 9, 6, 3] 0 := by
  intro ci h
  simp only [List.mem_cons, List.not_mem_nil, or_false] at h
  rcases h with rfl | rfl | rfl | rfl | rfl
  · exact ⟨RX5, TX5, _, tyX5, zcl_5, by decide, "OneWhistle$Plain", (List.mem_of_getElem? (i := 323) (by decide +kernel)), Or.inl rfl⟩
  · exact ⟨RX1, TX1, _, tyX1, zcl_1, by decide, "OneWhistle$Plain", (List.mem_of_getElem? (i := 323) (by decide +kernel)), Or.inl rfl⟩
  · exact ⟨RX9, TX9, _, tyX9, zcl_9, by decide, "OneWhistle$Plain", (List.mem_of_getElem? (i := 323) (by decide +kernel)), Or.inl rfl⟩
  · exact ⟨RX6, TX6, _, tyX6, zcl_6, by decide, "OneWhistle$Plain", (List.mem_of_getElem? (i := 323) (by decide +kernel)), Or.inl rfl⟩
  · exact ⟨RX3, TX3, _, tyX3, zcl_3, by decide, "OneWhistle$Plain", (List.mem_of_getElem? (i := 323) (by decide +kernel)), Or.inl rfl⟩
theorem lk_X5_36 : Cond.methodLink RX5 36 yX5_withRows ∈ lw_tbl := (List.mem_of_getElem? (i := 983) (by decide +kernel))
theorem lk_X5_40 : Cond.methodLink RX5 40 yX5_withLearnt ∈ lw_tbl := (List.mem_of_getElem? (i := 984) (by decide +kernel))
theorem lk_X6_25 : Cond.methodLink RX6 25 ⟨"OneWhistle$Pup", "withRows", "(J)J"⟩ ∈ lw_tbl := (List.mem_of_getElem? (i := 968) (by decide +kernel))
theorem su_X6_29 : Cond.methodLink RX6 29 ⟨"OneWhistle$Pup", "withLearnt", "(JIII)J"⟩ ∈ lw_tbl := (List.mem_of_getElem? (i := 976) (by decide +kernel))
theorem ss_X6_29 : Cond.sameMethod "OneWhistle$Pup" "OneWhistle$Plain" "withLearnt" "(JIII)J" ∈ lw_tbl := (List.mem_of_getElem? (i := 977) (by decide +kernel))
theorem lk_X7_3 : Cond.methodLink RX7 3 Lib.objectInit ∈ lw_tbl := (List.mem_of_getElem? (i := 446) (by decide +kernel))
theorem cl_X7_9 : Cond.classLink RX7 9 RX2 ∈ lw_tbl := (List.mem_of_getElem? (i := 447) (by decide +kernel))
theorem ln_X7_11 : Cond.methodLinkNest RX7 11 yX2_init "OneWhistle" ∈ lw_tbl := (List.mem_of_getElem? (i := 448) (by decide +kernel))
theorem fp_X7_12 : zFp RX7 12 [7] 0 (.object "OneWhistle$Hill") "<init>" := by
  intro ci h
  simp only [List.mem_cons, List.not_mem_nil, or_false] at h
  rcases h with rfl
  · exact ⟨RX7, TX7, _, tyX7, zcl_7, by decide, ⟨"OneWhistle$Reader", (List.mem_of_getElem? (i := 449) (by decide +kernel)), Or.inl rfl⟩, rfl, Or.inr ⟨rfl, rfl, rfl⟩⟩
theorem fp_X7_18 {nm : String} : zFp RX7 18 [7] 1 (.int) nm := by
  intro ci h
  simp only [List.mem_cons, List.not_mem_nil, or_false] at h
  rcases h with rfl
  · exact ⟨RX7, TX7, _, tyX7, zcl_7, by decide, ⟨"OneWhistle$Reader", (List.mem_of_getElem? (i := 451) (by decide +kernel)), Or.inl rfl⟩, rfl, Or.inl rfl⟩
theorem fp_X7_22 {nm : String} : zFp RX7 22 [7] 4 (.int) nm := by
  intro ci h
  simp only [List.mem_cons, List.not_mem_nil, or_false] at h
  rcases h with rfl
  · exact ⟨RX7, TX7, _, tyX7, zcl_7, by decide, ⟨"OneWhistle$Reader", (List.mem_of_getElem? (i := 455) (by decide +kernel)), Or.inl rfl⟩, rfl, Or.inl rfl⟩
theorem fp_X7_25 {nm : String} : zFp RX7 25 [7] 5 (.int) nm := by
  intro ci h
  simp only [List.mem_cons, List.not_mem_nil, or_false] at h
  rcases h with rfl
  · exact ⟨RX7, TX7, _, tyX7, zcl_7, by decide, ⟨"OneWhistle$Reader", (List.mem_of_getElem? (i := 456) (by decide +kernel)), Or.inl rfl⟩, rfl, Or.inl rfl⟩
theorem fp_X7_28 {nm : String} : zFp RX7 28 [7] 6 (.int) nm := by
  intro ci h
  simp only [List.mem_cons, List.not_mem_nil, or_false] at h
  rcases h with rfl
  · exact ⟨RX7, TX7, _, tyX7, zcl_7, by decide, ⟨"OneWhistle$Reader", (List.mem_of_getElem? (i := 457) (by decide +kernel)), Or.inl rfl⟩, rfl, Or.inl rfl⟩
theorem fp_X7_31 : zFp RX7 31 [7] 2 (.array .byte) "<init>" := by
  intro ci h
  simp only [List.mem_cons, List.not_mem_nil, or_false] at h
  rcases h with rfl
  · exact ⟨RX7, TX7, _, tyX7, zcl_7, by decide, ⟨"OneWhistle$Reader", (List.mem_of_getElem? (i := 453) (by decide +kernel)), Or.inl rfl⟩, rfl, Or.inr ⟨rfl, rfl, rfl⟩⟩
theorem fp_X7_35 : zFp RX7 35 [7] 3 (.int) "<init>" := by
  intro ci h
  simp only [List.mem_cons, List.not_mem_nil, or_false] at h
  rcases h with rfl
  · exact ⟨RX7, TX7, _, tyX7, zcl_7, by decide, ⟨"OneWhistle$Reader", (List.mem_of_getElem? (i := 454) (by decide +kernel)), Or.inl rfl⟩, rfl, Or.inr ⟨rfl, rfl, rfl⟩⟩
theorem fs_X7_35 : zFs RX7 35 [7] 3 := by
  intro ci h
  simp only [List.mem_cons, List.not_mem_nil, or_false] at h
  rcases h with rfl
  · exact ⟨RX7, TX7, _, tyX7, zcl_7, by decide, "OneWhistle$Reader", (List.mem_of_getElem? (i := 454) (by decide +kernel)), Or.inl rfl⟩
theorem fs_X7_31 : zFs RX7 31 [7] 2 := by
  intro ci h
  simp only [List.mem_cons, List.not_mem_nil, or_false] at h
  rcases h with rfl
  · exact ⟨RX7, TX7, _, tyX7, zcl_7, by decide, "OneWhistle$Reader", (List.mem_of_getElem? (i := 453) (by decide +kernel)), Or.inl rfl⟩
theorem fs_X7_18 : zFs RX7 18 [7] 1 := by
  intro ci h
  simp only [List.mem_cons, List.not_mem_nil, or_false] at h
  rcases h with rfl
  · exact ⟨RX7, TX7, _, tyX7, zcl_7, by decide, "OneWhistle$Reader", (List.mem_of_getElem? (i := 451) (by decide +kernel)), Or.inl rfl⟩
theorem fs_X7_28 : zFs RX7 28 [7] 6 := by
  intro ci h
  simp only [List.mem_cons, List.not_mem_nil, or_false] at h
  rcases h with rfl
  · exact ⟨RX7, TX7, _, tyX7, zcl_7, by decide, "OneWhistle$Reader", (List.mem_of_getElem? (i := 457) (by decide +kernel)), Or.inl rfl⟩
theorem fs_X7_25 : zFs RX7 25 [7] 5 := by
  intro ci h
  simp only [List.mem_cons, List.not_mem_nil, or_false] at h
  rcases h with rfl
  · exact ⟨RX7, TX7, _, tyX7, zcl_7, by decide, "OneWhistle$Reader", (List.mem_of_getElem? (i := 456) (by decide +kernel)), Or.inl rfl⟩
theorem lk_X7_124 : Cond.methodLink RX7 124 yX7_byteAt ∈ lw_tbl := (List.mem_of_getElem? (i := 481) (by decide +kernel))
theorem lk_X7_139 : Cond.methodLink RX7 139 yX7_kindOf ∈ lw_tbl := (List.mem_of_getElem? (i := 485) (by decide +kernel))
theorem fs_X7_22 : zFs RX7 22 [7] 4 := by
  intro ci h
  simp only [List.mem_cons, List.not_mem_nil, or_false] at h
  rcases h with rfl
  · exact ⟨RX7, TX7, _, tyX7, zcl_7, by decide, "OneWhistle$Reader", (List.mem_of_getElem? (i := 455) (by decide +kernel)), Or.inl rfl⟩
theorem lk_X7_47 : Cond.methodLink RX7 47 yX7_fail ∈ lw_tbl := (List.mem_of_getElem? (i := 541) (by decide +kernel))
theorem lk_X7_38 : Cond.methodLink RX7 38 yX7_advance ∈ lw_tbl := (List.mem_of_getElem? (i := 477) (by decide +kernel))
theorem fs_X7_12 : zFs RX7 12 [7] 0 := by
  intro ci h
  simp only [List.mem_cons, List.not_mem_nil, or_false] at h
  rcases h with rfl
  · exact ⟨RX7, TX7, _, tyX7, zcl_7, by decide, "OneWhistle$Reader", (List.mem_of_getElem? (i := 449) (by decide +kernel)), Or.inl rfl⟩
theorem fs_X7_75 : zFs RX7 75 [2] 0 := by
  intro ci h
  simp only [List.mem_cons, List.not_mem_nil, or_false] at h
  rcases h with rfl
  · exact ⟨RX2, TX2, _, tyX2, zcl_2, by decide, "OneWhistle$Hill", (List.mem_of_getElem? (i := 104) (by decide +kernel)), Or.inl rfl⟩
theorem lk_X7_50 : Cond.methodLink RX7 50 yX7_takeNumber ∈ lw_tbl := (List.mem_of_getElem? (i := 545) (by decide +kernel))
theorem fp_X7_99 {nm : String} : zFp RX7 99 [2] 4 (.int) nm := by
  intro ci h
  simp only [List.mem_cons, List.not_mem_nil, or_false] at h
  rcases h with rfl
  · exact ⟨RX2, TX2, _, tyX2, zcl_2, by decide, ⟨"OneWhistle$Hill", (List.mem_of_getElem? (i := 116) (by decide +kernel)), Or.inl rfl⟩, rfl, Or.inl rfl⟩
theorem fp_X7_102 {nm : String} : zFp RX7 102 [2] 5 (.int) nm := by
  intro ci h
  simp only [List.mem_cons, List.not_mem_nil, or_false] at h
  rcases h with rfl
  · exact ⟨RX2, TX2, _, tyX2, zcl_2, by decide, ⟨"OneWhistle$Hill", (List.mem_of_getElem? (i := 119) (by decide +kernel)), Or.inl rfl⟩, rfl, Or.inl rfl⟩
theorem lk_X7_128 : Cond.methodLink RX7 128 yX2_isPlace ∈ lw_tbl := (List.mem_of_getElem? (i := 580) (by decide +kernel))
theorem lk_X9_1 : Cond.methodLink RX9 1 yX1_init ∈ lw_tbl := (List.mem_of_getElem? (i := 342) (by decide +kernel))
theorem cl_X11_281 : Cond.classLink RX11 281 RX1 ∈ lw_tbl := (List.mem_of_getElem? (i := 314) (by decide +kernel))
theorem lk_X11_283 : Cond.methodLink RX11 283 yX1_init ∈ lw_tbl := (List.mem_of_getElem? (i := 316) (by decide +kernel))
theorem cl_X11_286 : Cond.classLink RX11 286 RX9 ∈ lw_tbl := (List.mem_of_getElem? (i := 337) (by decide +kernel))
theorem lk_X11_288 : Cond.methodLink RX11 288 yX9_init ∈ lw_tbl := (List.mem_of_getElem? (i := 339) (by decide +kernel))
theorem cl_X11_163 : Cond.classLink RX11 163 RX5 ∈ lw_tbl := (List.mem_of_getElem? (i := 347) (by decide +kernel))
theorem lk_X11_289 : Cond.methodLink RX11 289 yX5_init ∈ lw_tbl := (List.mem_of_getElem? (i := 349) (by decide +kernel))
theorem cl_X11_290 : Cond.classLink RX11 290 RX3 ∈ lw_tbl := (List.mem_of_getElem? (i := 368) (by decide +kernel))
theorem lk_X11_292 : Cond.methodLink RX11 292 yX3_init ∈ lw_tbl := (List.mem_of_getElem? (i := 370) (by decide +kernel))
theorem cl_X11_295 : Cond.classLink RX11 295 RX6 ∈ lw_tbl := (List.mem_of_getElem? (i := 392) (by decide +kernel))
theorem lk_X11_297 : Cond.methodLink RX11 297 yX6_init ∈ lw_tbl := (List.mem_of_getElem? (i := 394) (by decide +kernel))
theorem lk_X7_105 : Cond.methodLink RX7 105 yX7_takeRow ∈ lw_tbl := (List.mem_of_getElem? (i := 576) (by decide +kernel))
theorem ln_X7_108 : Cond.methodLinkNest RX7 108 yX11_isRowsKind "OneWhistle" ∈ lw_tbl := (List.mem_of_getElem? (i := 581) (by decide +kernel))
theorem ln_X7_112 : Cond.methodLinkNest RX7 112 yX11_bred "OneWhistle" ∈ lw_tbl := (List.mem_of_getElem? (i := 582) (by decide +kernel))
theorem lk_X7_116 : Cond.methodLink RX7 116 yX2_addDog ∈ lw_tbl := (List.mem_of_getElem? (i := 583) (by decide +kernel))
theorem ln_X7_120 : Cond.methodLinkNest RX7 120 yX11_bredLearning "OneWhistle" ∈ lw_tbl := (List.mem_of_getElem? (i := 584) (by decide +kernel))
theorem lk_X7_43 : Cond.methodLink RX7 43 yX7_isWord ∈ lw_tbl := (List.mem_of_getElem? (i := 489) (by decide +kernel))
theorem fs_X7_66 : zFs RX7 66 [2] 1 := by
  intro ci h
  simp only [List.mem_cons, List.not_mem_nil, or_false] at h
  rcases h with rfl
  · exact ⟨RX2, TX2, _, tyX2, zcl_2, by decide, "OneWhistle$Hill", (List.mem_of_getElem? (i := 106) (by decide +kernel)), Or.inl rfl⟩
theorem lk_X7_69 : Cond.methodLink RX7 69 yX7_takePlaceBit ∈ lw_tbl := (List.mem_of_getElem? (i := 559) (by decide +kernel))
theorem fp_X7_66 {nm : String} : zFp RX7 66 [2] 1 (.int) nm := by
  intro ci h
  simp only [List.mem_cons, List.not_mem_nil, or_false] at h
  rcases h with rfl
  · exact ⟨RX2, TX2, _, tyX2, zcl_2, by decide, ⟨"OneWhistle$Hill", (List.mem_of_getElem? (i := 106) (by decide +kernel)), Or.inl rfl⟩, rfl, Or.inl rfl⟩
theorem fp_X7_78 {nm : String} : zFp RX7 78 [2] 2 (.int) nm := by
  intro ci h
  simp only [List.mem_cons, List.not_mem_nil, or_false] at h
  rcases h with rfl
  · exact ⟨RX2, TX2, _, tyX2, zcl_2, by decide, ⟨"OneWhistle$Hill", (List.mem_of_getElem? (i := 110) (by decide +kernel)), Or.inl rfl⟩, rfl, Or.inl rfl⟩
theorem fs_X7_82 : zFs RX7 82 [2] 3 := by
  intro ci h
  simp only [List.mem_cons, List.not_mem_nil, or_false] at h
  rcases h with rfl
  · exact ⟨RX2, TX2, _, tyX2, zcl_2, by decide, "OneWhistle$Hill", (List.mem_of_getElem? (i := 113) (by decide +kernel)), Or.inl rfl⟩
theorem fp_X7_82 {nm : String} : zFp RX7 82 [2] 3 (.int) nm := by
  intro ci h
  simp only [List.mem_cons, List.not_mem_nil, or_false] at h
  rcases h with rfl
  · exact ⟨RX2, TX2, _, tyX2, zcl_2, by decide, ⟨"OneWhistle$Hill", (List.mem_of_getElem? (i := 113) (by decide +kernel)), Or.inl rfl⟩, rfl, Or.inl rfl⟩
theorem lk_X7_87 : Cond.methodLink RX7 87 yX7_readBreath ∈ lw_tbl := (List.mem_of_getElem? (i := 566) (by decide +kernel))
theorem lk_X7_92 : Cond.methodLink RX7 92 yX2_isFull ∈ lw_tbl := (List.mem_of_getElem? (i := 571) (by decide +kernel))
theorem lk_X7_96 : Cond.methodLink RX7 96 yX7_readDog ∈ lw_tbl := (List.mem_of_getElem? (i := 572) (by decide +kernel))
theorem lk_X7_54 : Cond.methodLink RX7 54 yX7_takeMark ∈ lw_tbl := (List.mem_of_getElem? (i := 549) (by decide +kernel))
theorem lk_X7_57 : Cond.methodLink RX7 57 yX2_settle ∈ lw_tbl := (List.mem_of_getElem? (i := 553) (by decide +kernel))
theorem lk_X7_61 : Cond.methodLink RX7 61 yX7_readItem ∈ lw_tbl := (List.mem_of_getElem? (i := 554) (by decide +kernel))
theorem lk_X10_3 : Cond.methodLink RX10 3 Lib.objectInit ∈ lw_tbl := (List.mem_of_getElem? (i := 229) (by decide +kernel))
theorem fp_X10_9 : zFp RX10 9 [10] 0 (.array .int) "<init>" := by
  intro ci h
  simp only [List.mem_cons, List.not_mem_nil, or_false] at h
  rcases h with rfl
  · exact ⟨RX10, TX10, _, tyX10, zcl_10, by decide, ⟨"OneWhistle$Teller", (List.mem_of_getElem? (i := 230) (by decide +kernel)), Or.inl rfl⟩, rfl, Or.inr ⟨rfl, rfl, rfl⟩⟩
theorem fp_X10_15 {nm : String} : zFp RX10 15 [10] 1 (.int) nm := by
  intro ci h
  simp only [List.mem_cons, List.not_mem_nil, or_false] at h
  rcases h with rfl
  · exact ⟨RX10, TX10, _, tyX10, zcl_10, by decide, ⟨"OneWhistle$Teller", (List.mem_of_getElem? (i := 231) (by decide +kernel)), Or.inl rfl⟩, rfl, Or.inl rfl⟩
theorem fs_X10_9 : zFs RX10 9 [10] 0 := by
  intro ci h
  simp only [List.mem_cons, List.not_mem_nil, or_false] at h
  rcases h with rfl
  · exact ⟨RX10, TX10, _, tyX10, zcl_10, by decide, "OneWhistle$Teller", (List.mem_of_getElem? (i := 230) (by decide +kernel)), Or.inl rfl⟩
theorem lk_X10_35 : Cond.methodLink RX10 35 yX4_behind ∈ lw_tbl := (List.mem_of_getElem? (i := 874) (by decide +kernel))
theorem lk_X10_19 : Cond.methodLink RX10 19 yJ6_bitCount_0f7a4 ∈ lw_tbl := (List.mem_of_getElem? (i := 869) (by decide +kernel))
theorem fs_X10_15 : zFs RX10 15 [10] 1 := by
  intro ci h
  simp only [List.mem_cons, List.not_mem_nil, or_false] at h
  rcases h with rfl
  · exact ⟨RX10, TX10, _, tyX10, zcl_10, by decide, "OneWhistle$Teller", (List.mem_of_getElem? (i := 231) (by decide +kernel)), Or.inl rfl⟩
theorem lk_X10_41 : Cond.methodLink RX10 41 yX10_fewestFor ∈ lw_tbl := (List.mem_of_getElem? (i := 875) (by decide +kernel))
theorem lk_X10_44 : Cond.methodLink RX10 44 yJ9_max_7cf53 ∈ lw_tbl := (List.mem_of_getElem? (i := 879) (by decide +kernel))
theorem lk_X10_25 : Cond.methodLink RX10 25 yX10_neededBy ∈ lw_tbl := (List.mem_of_getElem? (i := 870) (by decide +kernel))
theorem lk_X10_29 : Cond.methodLink RX10 29 yJ9_min_7cf53 ∈ lw_tbl := (List.mem_of_getElem? (i := 882) (by decide +kernel))
theorem lk_X11_3 : Cond.methodLink RX11 3 Lib.objectInit ∈ lw_tbl := (List.mem_of_getElem? (i := 90) (by decide +kernel))
theorem cl_X11_9 : Cond.classLink RX11 9 RX2 ∈ lw_tbl := (List.mem_of_getElem? (i := 93) (by decide +kernel))
theorem ln_X11_11 : Cond.methodLinkNest RX11 11 yX2_init "OneWhistle" ∈ lw_tbl := (List.mem_of_getElem? (i := 95) (by decide +kernel))
theorem fp_X11_12 {nm : String} : zFp RX11 12 [11] 0 (.object "OneWhistle$Hill") nm := by
  intro ci h
  simp only [List.mem_cons, List.not_mem_nil, or_false] at h
  rcases h with rfl
  · exact ⟨RX11, TX11, _, tyX11, zcl_11, by decide, ⟨"OneWhistle", (List.mem_of_getElem? (i := 237) (by decide +kernel)), Or.inl rfl⟩, rfl, Or.inl rfl⟩
theorem fp_X11_16 : zFp RX11 16 [11] 1 (.array (.object "OneWhistle$Hill")) "<init>" := by
  intro ci h
  simp only [List.mem_cons, List.not_mem_nil, or_false] at h
  rcases h with rfl
  · exact ⟨RX11, TX11, _, tyX11, zcl_11, by decide, ⟨"OneWhistle", (List.mem_of_getElem? (i := 238) (by decide +kernel)), Or.inl rfl⟩, rfl, Or.inr ⟨rfl, rfl, rfl⟩⟩
theorem fp_X11_20 : zFp RX11 20 [11] 2 (.array .byte) "<init>" := by
  intro ci h
  simp only [List.mem_cons, List.not_mem_nil, or_false] at h
  rcases h with rfl
  · exact ⟨RX11, TX11, _, tyX11, zcl_11, by decide, ⟨"OneWhistle", (List.mem_of_getElem? (i := 239) (by decide +kernel)), Or.inl rfl⟩, rfl, Or.inr ⟨rfl, rfl, rfl⟩⟩
theorem fp_X11_24 {nm : String} : zFp RX11 24 [11] 3 (.int) nm := by
  intro ci h
  simp only [List.mem_cons, List.not_mem_nil, or_false] at h
  rcases h with rfl
  · exact ⟨RX11, TX11, _, tyX11, zcl_11, by decide, ⟨"OneWhistle", (List.mem_of_getElem? (i := 240) (by decide +kernel)), Or.inl rfl⟩, rfl, Or.inl rfl⟩
theorem fp_X11_28 {nm : String} : zFp RX11 28 [11] 4 (.long) nm := by
  intro ci h
  simp only [List.mem_cons, List.not_mem_nil, or_false] at h
  rcases h with rfl
  · exact ⟨RX11, TX11, _, tyX11, zcl_11, by decide, ⟨"OneWhistle", (List.mem_of_getElem? (i := 241) (by decide +kernel)), Or.inl rfl⟩, rfl, Or.inl rfl⟩
theorem fp_X11_32 {nm : String} : zFp RX11 32 [11] 5 (.long) nm := by
  intro ci h
  simp only [List.mem_cons, List.not_mem_nil, or_false] at h
  rcases h with rfl
  · exact ⟨RX11, TX11, _, tyX11, zcl_11, by decide, ⟨"OneWhistle", (List.mem_of_getElem? (i := 242) (by decide +kernel)), Or.inl rfl⟩, rfl, Or.inl rfl⟩
theorem fp_X11_35 {nm : String} : zFp RX11 35 [11] 6 (.int) nm := by
  intro ci h
  simp only [List.mem_cons, List.not_mem_nil, or_false] at h
  rcases h with rfl
  · exact ⟨RX11, TX11, _, tyX11, zcl_11, by decide, ⟨"OneWhistle", (List.mem_of_getElem? (i := 243) (by decide +kernel)), Or.inl rfl⟩, rfl, Or.inl rfl⟩
theorem fp_X11_38 {nm : String} : zFp RX11 38 [11] 7 (.int) nm := by
  intro ci h
  simp only [List.mem_cons, List.not_mem_nil, or_false] at h
  rcases h with rfl
  · exact ⟨RX11, TX11, _, tyX11, zcl_11, by decide, ⟨"OneWhistle", (List.mem_of_getElem? (i := 244) (by decide +kernel)), Or.inl rfl⟩, rfl, Or.inl rfl⟩
theorem fp_X11_41 {nm : String} : zFp RX11 41 [11] 8 (.int) nm := by
  intro ci h
  simp only [List.mem_cons, List.not_mem_nil, or_false] at h
  rcases h with rfl
  · exact ⟨RX11, TX11, _, tyX11, zcl_11, by decide, ⟨"OneWhistle", (List.mem_of_getElem? (i := 245) (by decide +kernel)), Or.inl rfl⟩, rfl, Or.inl rfl⟩
theorem cl_X11_44 : Cond.classLink RX11 44 RX0 ∈ lw_tbl := (List.mem_of_getElem? (i := 142) (by decide +kernel))
theorem ln_X11_46 : Cond.methodLinkNest RX11 46 yX0_init "OneWhistle" ∈ lw_tbl := (List.mem_of_getElem? (i := 144) (by decide +kernel))
theorem fp_X11_47 : zFp RX11 47 [11] 9 (.object "OneWhistle$Chase") "<init>" := by
  intro ci h
  simp only [List.mem_cons, List.not_mem_nil, or_false] at h
  rcases h with rfl
  · exact ⟨RX11, TX11, _, tyX11, zcl_11, by decide, ⟨"OneWhistle", (List.mem_of_getElem? (i := 246) (by decide +kernel)), Or.inl rfl⟩, rfl, Or.inr ⟨rfl, rfl, rfl⟩⟩
theorem cl_X11_51 : Cond.classLink RX11 51 RX4 ∈ lw_tbl := (List.mem_of_getElem? (i := 222) (by decide +kernel))
theorem ln_X11_53 : Cond.methodLinkNest RX11 53 yX4_init "OneWhistle" ∈ lw_tbl := (List.mem_of_getElem? (i := 223) (by decide +kernel))
theorem fp_X11_54 : zFp RX11 54 [11] 10 (.object "OneWhistle$Lane") "<init>" := by
  intro ci h
  simp only [List.mem_cons, List.not_mem_nil, or_false] at h
  rcases h with rfl
  · exact ⟨RX11, TX11, _, tyX11, zcl_11, by decide, ⟨"OneWhistle", (List.mem_of_getElem? (i := 247) (by decide +kernel)), Or.inl rfl⟩, rfl, Or.inr ⟨rfl, rfl, rfl⟩⟩
theorem cl_X11_58 : Cond.classLink RX11 58 RX10 ∈ lw_tbl := (List.mem_of_getElem? (i := 224) (by decide +kernel))
theorem ln_X11_60 : Cond.methodLinkNest RX11 60 yX10_init "OneWhistle" ∈ lw_tbl := (List.mem_of_getElem? (i := 226) (by decide +kernel))
theorem fp_X11_61 : zFp RX11 61 [11] 11 (.object "OneWhistle$Teller") "<init>" := by
  intro ci h
  simp only [List.mem_cons, List.not_mem_nil, or_false] at h
  rcases h with rfl
  · exact ⟨RX11, TX11, _, tyX11, zcl_11, by decide, ⟨"OneWhistle", (List.mem_of_getElem? (i := 248) (by decide +kernel)), Or.inl rfl⟩, rfl, Or.inr ⟨rfl, rfl, rfl⟩⟩
theorem fp_X11_65 : zFp RX11 65 [11] 12 (.array .long) "<init>" := by
  intro ci h
  simp only [List.mem_cons, List.not_mem_nil, or_false] at h
  rcases h with rfl
  · exact ⟨RX11, TX11, _, tyX11, zcl_11, by decide, ⟨"OneWhistle", (List.mem_of_getElem? (i := 249) (by decide +kernel)), Or.inl rfl⟩, rfl, Or.inr ⟨rfl, rfl, rfl⟩⟩
theorem fp_X11_69 : zFp RX11 69 [11] 13 (.array .long) "<init>" := by
  intro ci h
  simp only [List.mem_cons, List.not_mem_nil, or_false] at h
  rcases h with rfl
  · exact ⟨RX11, TX11, _, tyX11, zcl_11, by decide, ⟨"OneWhistle", (List.mem_of_getElem? (i := 250) (by decide +kernel)), Or.inl rfl⟩, rfl, Or.inr ⟨rfl, rfl, rfl⟩⟩
theorem fs_X11_35 : zFs RX11 35 [11] 6 := by
  intro ci h
  simp only [List.mem_cons, List.not_mem_nil, or_false] at h
  rcases h with rfl
  · exact ⟨RX11, TX11, _, tyX11, zcl_11, by decide, "OneWhistle", (List.mem_of_getElem? (i := 243) (by decide +kernel)), Or.inl rfl⟩
theorem lk_X11_72 : Cond.methodLink RX11 72 yX11_refusedBad ∈ lw_tbl := (List.mem_of_getElem? (i := 284) (by decide +kernel))
theorem fs_X11_12 : zFs RX11 12 [11] 0 := by
  intro ci h
  simp only [List.mem_cons, List.not_mem_nil, or_false] at h
  rcases h with rfl
  · exact ⟨RX11, TX11, _, tyX11, zcl_11, by decide, "OneWhistle", (List.mem_of_getElem? (i := 237) (by decide +kernel)), Or.inl rfl⟩
theorem fs_X11_76 : zFs RX11 76 [2] 0 := by
  intro ci h
  simp only [List.mem_cons, List.not_mem_nil, or_false] at h
  rcases h with rfl
  · exact ⟨RX2, TX2, _, tyX2, zcl_2, by decide, "OneWhistle$Hill", (List.mem_of_getElem? (i := 102) (by decide +kernel)), Or.inl rfl⟩
theorem lk_X11_79 : Cond.methodLink RX11 79 yX2_settle ∈ lw_tbl := (List.mem_of_getElem? (i := 288) (by decide +kernel))
theorem fs_X11_41 : zFs RX11 41 [11] 8 := by
  intro ci h
  simp only [List.mem_cons, List.not_mem_nil, or_false] at h
  rcases h with rfl
  · exact ⟨RX11, TX11, _, tyX11, zcl_11, by decide, "OneWhistle", (List.mem_of_getElem? (i := 245) (by decide +kernel)), Or.inl rfl⟩
theorem lk_X11_83 : Cond.methodLink RX11 83 yX11_isRowsKind ∈ lw_tbl := (List.mem_of_getElem? (i := 296) (by decide +kernel))
theorem lk_X11_87 : Cond.methodLink RX11 87 yX2_isRow ∈ lw_tbl := (List.mem_of_getElem? (i := 299) (by decide +kernel))
theorem lk_X11_90 : Cond.methodLink RX11 90 yX2_isFull ∈ lw_tbl := (List.mem_of_getElem? (i := 303) (by decide +kernel))
theorem lk_X11_94 : Cond.methodLink RX11 94 yX11_refusedFull ∈ lw_tbl := (List.mem_of_getElem? (i := 307) (by decide +kernel))
theorem lk_X11_98 : Cond.methodLink RX11 98 yX11_bred ∈ lw_tbl := (List.mem_of_getElem? (i := 311) (by decide +kernel))
theorem lk_X11_102 : Cond.methodLink RX11 102 yX2_addDog ∈ lw_tbl := (List.mem_of_getElem? (i := 354) (by decide +kernel))
theorem lk_X11_106 : Cond.methodLink RX11 106 yX11_isLearningKind ∈ lw_tbl := (List.mem_of_getElem? (i := 362) (by decide +kernel))
theorem lk_X11_109 : Cond.methodLink RX11 109 yX11_bredLearning ∈ lw_tbl := (List.mem_of_getElem? (i := 365) (by decide +kernel))
theorem fs_X11_38 : zFs RX11 38 [11] 7 := by
  intro ci h
  simp only [List.mem_cons, List.not_mem_nil, or_false] at h
  rcases h with rfl
  · exact ⟨RX11, TX11, _, tyX11, zcl_11, by decide, "OneWhistle", (List.mem_of_getElem? (i := 244) (by decide +kernel)), Or.inl rfl⟩
theorem lk_X11_113 : Cond.methodLink RX11 113 yX2_isPlace ∈ lw_tbl := (List.mem_of_getElem? (i := 406) (by decide +kernel))
theorem fs_X11_116 : zFs RX11 116 [2] 1 := by
  intro ci h
  simp only [List.mem_cons, List.not_mem_nil, or_false] at h
  rcases h with rfl
  · exact ⟨RX2, TX2, _, tyX2, zcl_2, by decide, "OneWhistle$Hill", (List.mem_of_getElem? (i := 107) (by decide +kernel)), Or.inl rfl⟩
theorem lk_X11_119 : Cond.methodLink RX11 119 yX11_holds ∈ lw_tbl := (List.mem_of_getElem? (i := 410) (by decide +kernel))
theorem lk_X11_123 : Cond.methodLink RX11 123 yX11_refusedNo ∈ lw_tbl := (List.mem_of_getElem? (i := 413) (by decide +kernel))
theorem fp_X11_116 {nm : String} : zFp RX11 116 [2] 1 (.int) nm := by
  intro ci h
  simp only [List.mem_cons, List.not_mem_nil, or_false] at h
  rcases h with rfl
  · exact ⟨RX2, TX2, _, tyX2, zcl_2, by decide, ⟨"OneWhistle$Hill", (List.mem_of_getElem? (i := 107) (by decide +kernel)), Or.inl rfl⟩, rfl, Or.inl rfl⟩
theorem lk_X11_200 : Cond.methodLink RX11 200 yX2_allPlaces ∈ lw_tbl := (List.mem_of_getElem? (i := 425) (by decide +kernel))
theorem lk_X11_126 : Cond.methodLink RX11 126 yX11_canPut ∈ lw_tbl := (List.mem_of_getElem? (i := 421) (by decide +kernel))
theorem fs_X11_129 : zFs RX11 129 [2] 2 := by
  intro ci h
  simp only [List.mem_cons, List.not_mem_nil, or_false] at h
  rcases h with rfl
  · exact ⟨RX2, TX2, _, tyX2, zcl_2, by decide, "OneWhistle$Hill", (List.mem_of_getElem? (i := 111) (by decide +kernel)), Or.inl rfl⟩
theorem fp_X11_129 {nm : String} : zFp RX11 129 [2] 2 (.int) nm := by
  intro ci h
  simp only [List.mem_cons, List.not_mem_nil, or_false] at h
  rcases h with rfl
  · exact ⟨RX2, TX2, _, tyX2, zcl_2, by decide, ⟨"OneWhistle$Hill", (List.mem_of_getElem? (i := 111) (by decide +kernel)), Or.inl rfl⟩, rfl, Or.inl rfl⟩
theorem fs_X11_132 : zFs RX11 132 [2] 3 := by
  intro ci h
  simp only [List.mem_cons, List.not_mem_nil, or_false] at h
  rcases h with rfl
  · exact ⟨RX2, TX2, _, tyX2, zcl_2, by decide, "OneWhistle$Hill", (List.mem_of_getElem? (i := 114) (by decide +kernel)), Or.inl rfl⟩
theorem fp_X11_132 {nm : String} : zFp RX11 132 [2] 3 (.int) nm := by
  intro ci h
  simp only [List.mem_cons, List.not_mem_nil, or_false] at h
  rcases h with rfl
  · exact ⟨RX2, TX2, _, tyX2, zcl_2, by decide, ⟨"OneWhistle$Hill", (List.mem_of_getElem? (i := 114) (by decide +kernel)), Or.inl rfl⟩, rfl, Or.inl rfl⟩
theorem fs_X11_135 : zFs RX11 135 [2] 4 := by
  intro ci h
  simp only [List.mem_cons, List.not_mem_nil, or_false] at h
  rcases h with rfl
  · exact ⟨RX2, TX2, _, tyX2, zcl_2, by decide, "OneWhistle$Hill", (List.mem_of_getElem? (i := 117) (by decide +kernel)), Or.inl rfl⟩
theorem fp_X11_135 {nm : String} : zFp RX11 135 [2] 4 (.int) nm := by
  intro ci h
  simp only [List.mem_cons, List.not_mem_nil, or_false] at h
  rcases h with rfl
  · exact ⟨RX2, TX2, _, tyX2, zcl_2, by decide, ⟨"OneWhistle$Hill", (List.mem_of_getElem? (i := 117) (by decide +kernel)), Or.inl rfl⟩, rfl, Or.inl rfl⟩
theorem fs_X11_138 : zFs RX11 138 [2] 5 := by
  intro ci h
  simp only [List.mem_cons, List.not_mem_nil, or_false] at h
  rcases h with rfl
  · exact ⟨RX2, TX2, _, tyX2, zcl_2, by decide, "OneWhistle$Hill", (List.mem_of_getElem? (i := 120) (by decide +kernel)), Or.inl rfl⟩
theorem fp_X11_138 {nm : String} : zFp RX11 138 [2] 5 (.int) nm := by
  intro ci h
  simp only [List.mem_cons, List.not_mem_nil, or_false] at h
  rcases h with rfl
  · exact ⟨RX2, TX2, _, tyX2, zcl_2, by decide, ⟨"OneWhistle$Hill", (List.mem_of_getElem? (i := 120) (by decide +kernel)), Or.inl rfl⟩, rfl, Or.inl rfl⟩
theorem fs_X11_24 : zFs RX11 24 [11] 3 := by
  intro ci h
  simp only [List.mem_cons, List.not_mem_nil, or_false] at h
  rcases h with rfl
  · exact ⟨RX11, TX11, _, tyX11, zcl_11, by decide, "OneWhistle", (List.mem_of_getElem? (i := 240) (by decide +kernel)), Or.inl rfl⟩
theorem fs_X11_20 : zFs RX11 20 [11] 2 := by
  intro ci h
  simp only [List.mem_cons, List.not_mem_nil, or_false] at h
  rcases h with rfl
  · exact ⟨RX11, TX11, _, tyX11, zcl_11, by decide, "OneWhistle", (List.mem_of_getElem? (i := 239) (by decide +kernel)), Or.inl rfl⟩
theorem cl_X11_141 : Cond.classLink RX11 141 RX7 ∈ lw_tbl := (List.mem_of_getElem? (i := 441) (by decide +kernel))
theorem lk_X11_143 : Cond.methodLink RX11 143 yX7_init ∈ lw_tbl := (List.mem_of_getElem? (i := 443) (by decide +kernel))
theorem lk_X11_146 : Cond.methodLink RX11 146 yX7_readHill ∈ lw_tbl := (List.mem_of_getElem? (i := 473) (by decide +kernel))
theorem fs_X11_149 : zFs RX11 149 [7] 1 := by
  intro ci h
  simp only [List.mem_cons, List.not_mem_nil, or_false] at h
  rcases h with rfl
  · exact ⟨RX7, TX7, _, tyX7, zcl_7, by decide, "OneWhistle$Reader", (List.mem_of_getElem? (i := 452) (by decide +kernel)), Or.inl rfl⟩
theorem fs_X11_152 : zFs RX11 152 [7] 0 := by
  intro ci h
  simp only [List.mem_cons, List.not_mem_nil, or_false] at h
  rcases h with rfl
  · exact ⟨RX7, TX7, _, tyX7, zcl_7, by decide, "OneWhistle$Reader", (List.mem_of_getElem? (i := 450) (by decide +kernel)), Or.inl rfl⟩
theorem fs_X11_155 : zFs RX11 155 [2] 6 := by
  intro ci h
  simp only [List.mem_cons, List.not_mem_nil, or_false] at h
  rcases h with rfl
  · exact ⟨RX2, TX2, _, tyX2, zcl_2, by decide, "OneWhistle$Hill", (List.mem_of_getElem? (i := 122) (by decide +kernel)), Or.inl rfl⟩
theorem lk_X11_158 : Cond.methodLink RX11 158 yX2_dogAt ∈ lw_tbl := (List.mem_of_getElem? (i := 589) (by decide +kernel))
theorem lk_X11_162 : Cond.methodLink RX11 162 yX5_next ∈ lw_tbl := (List.mem_of_getElem? (i := 593) (by decide +kernel))
theorem lk_X11_264 : Cond.methodLink RX11 264 yX11_areBits ∈ lw_tbl := (List.mem_of_getElem? (i := 641) (by decide +kernel))
theorem lk_X11_168 : Cond.methodLink RX11 168 yX11_isTune ∈ lw_tbl := (List.mem_of_getElem? (i := 638) (by decide +kernel))
theorem lk_X11_171 : Cond.methodLink RX11 171 yX5_behind ∈ lw_tbl := (List.mem_of_getElem? (i := 644) (by decide +kernel))
theorem lk_X11_174 : Cond.methodLink RX11 174 yX2_areDogs ∈ lw_tbl := (List.mem_of_getElem? (i := 662) (by decide +kernel))
theorem fs_X11_47 : zFs RX11 47 [11] 9 := by
  intro ci h
  simp only [List.mem_cons, List.not_mem_nil, or_false] at h
  rcases h with rfl
  · exact ⟨RX11, TX11, _, tyX11, zcl_11, by decide, "OneWhistle", (List.mem_of_getElem? (i := 246) (by decide +kernel)), Or.inl rfl⟩
theorem lk_X11_177 : Cond.methodLink RX11 177 yX0_follow ∈ lw_tbl := (List.mem_of_getElem? (i := 667) (by decide +kernel))
theorem lk_X11_181 : Cond.methodLink RX11 181 yX0_seek ∈ lw_tbl := (List.mem_of_getElem? (i := 712) (by decide +kernel))
theorem lk_X11_184 : Cond.methodLink RX11 184 yX0_shortest ∈ lw_tbl := (List.mem_of_getElem? (i := 817) (by decide +kernel))
theorem lk_X11_187 : Cond.methodLink RX11 187 yX0_leastBreathFound ∈ lw_tbl := (List.mem_of_getElem? (i := 825) (by decide +kernel))
theorem fs_X11_54 : zFs RX11 54 [11] 10 := by
  intro ci h
  simp only [List.mem_cons, List.not_mem_nil, or_false] at h
  rcases h with rfl
  · exact ⟨RX11, TX11, _, tyX11, zcl_11, by decide, "OneWhistle", (List.mem_of_getElem? (i := 247) (by decide +kernel)), Or.inl rfl⟩
theorem lk_X11_190 : Cond.methodLink RX11 190 yX4_learn ∈ lw_tbl := (List.mem_of_getElem? (i := 833) (by decide +kernel))
theorem lk_X11_194 : Cond.methodLink RX11 194 yX4_findMeetings ∈ lw_tbl := (List.mem_of_getElem? (i := 834) (by decide +kernel))
theorem lk_X11_197 : Cond.methodLink RX11 197 yX4_canMeet ∈ lw_tbl := (List.mem_of_getElem? (i := 848) (by decide +kernel))
theorem lk_X11_208 : Cond.methodLink RX11 208 yX0_addLane ∈ lw_tbl := (List.mem_of_getElem? (i := 860) (by decide +kernel))
theorem fs_X11_61 : zFs RX11 61 [11] 11 := by
  intro ci h
  simp only [List.mem_cons, List.not_mem_nil, or_false] at h
  rcases h with rfl
  · exact ⟨RX11, TX11, _, tyX11, zcl_11, by decide, "OneWhistle", (List.mem_of_getElem? (i := 248) (by decide +kernel)), Or.inl rfl⟩
theorem lk_X11_212 : Cond.methodLink RX11 212 yX10_weigh ∈ lw_tbl := (List.mem_of_getElem? (i := 865) (by decide +kernel))
theorem lk_X11_216 : Cond.methodLink RX11 216 yX10_firstWhistle ∈ lw_tbl := (List.mem_of_getElem? (i := 883) (by decide +kernel))
theorem lk_X11_220 : Cond.methodLink RX11 220 yX10_fewestFor ∈ lw_tbl := (List.mem_of_getElem? (i := 887) (by decide +kernel))
theorem lk_X11_224 : Cond.methodLink RX11 224 yJ9_max_7cf53 ∈ lw_tbl := (List.mem_of_getElem? (i := 888) (by decide +kernel))
theorem lk_X11_267 : Cond.methodLink RX11 267 yX11_soundsSo ∈ lw_tbl := (List.mem_of_getElem? (i := 900) (by decide +kernel))
theorem lk_X11_229 : Cond.methodLink RX11 229 yX11_isHeard ∈ lw_tbl := (List.mem_of_getElem? (i := 893) (by decide +kernel))
theorem lk_X11_233 : Cond.methodLink RX11 233 yX11_origins ∈ lw_tbl := (List.mem_of_getElem? (i := 896) (by decide +kernel))
theorem fs_X11_69 : zFs RX11 69 [11] 13 := by
  intro ci h
  simp only [List.mem_cons, List.not_mem_nil, or_false] at h
  rcases h with rfl
  · exact ⟨RX11, TX11, _, tyX11, zcl_11, by decide, "OneWhistle", (List.mem_of_getElem? (i := 250) (by decide +kernel)), Or.inl rfl⟩
theorem lk_X11_237 : Cond.methodLink RX11 237 yJ7_fill_d0a16 ∈ lw_tbl := (List.mem_of_getElem? (i := 912) (by decide +kernel))
theorem fs_X11_65 : zFs RX11 65 [11] 12 := by
  intro ci h
  simp only [List.mem_cons, List.not_mem_nil, or_false] at h
  rcases h with rfl
  · exact ⟨RX11, TX11, _, tyX11, zcl_11, by decide, "OneWhistle", (List.mem_of_getElem? (i := 249) (by decide +kernel)), Or.inl rfl⟩
theorem lk_X11_271 : Cond.methodLink RX11 271 arraycopyName ∈ lw_tbl := (List.mem_of_getElem? (i := 919) (by decide +kernel))
theorem lk_X11_277 : Cond.methodLink RX11 277 yX11_commonDivisor ∈ lw_tbl := (List.mem_of_getElem? (i := 925) (by decide +kernel))
theorem lk_X11_243 : Cond.methodLink RX11 243 yX11_drawOne ∈ lw_tbl := (List.mem_of_getElem? (i := 915) (by decide +kernel))
theorem kl_X11_246 : Cond.constantLong RX11 246 (10) ∈ lw_tbl := (List.mem_of_getElem? (i := 920) (by decide +kernel))
theorem lk_X11_248 : Cond.methodLink RX11 248 yX11_keepFraction ∈ lw_tbl := (List.mem_of_getElem? (i := 921) (by decide +kernel))
theorem fs_X11_28 : zFs RX11 28 [11] 4 := by
  intro ci h
  simp only [List.mem_cons, List.not_mem_nil, or_false] at h
  rcases h with rfl
  · exact ⟨RX11, TX11, _, tyX11, zcl_11, by decide, "OneWhistle", (List.mem_of_getElem? (i := 241) (by decide +kernel)), Or.inl rfl⟩
theorem fs_X11_32 : zFs RX11 32 [11] 5 := by
  intro ci h
  simp only [List.mem_cons, List.not_mem_nil, or_false] at h
  rcases h with rfl
  · exact ⟨RX11, TX11, _, tyX11, zcl_11, by decide, "OneWhistle", (List.mem_of_getElem? (i := 242) (by decide +kernel)), Or.inl rfl⟩
theorem fs_X11_16 : zFs RX11 16 [11] 1 := by
  intro ci h
  simp only [List.mem_cons, List.not_mem_nil, or_false] at h
  rcases h with rfl
  · exact ⟨RX11, TX11, _, tyX11, zcl_11, by decide, "OneWhistle", (List.mem_of_getElem? (i := 238) (by decide +kernel)), Or.inl rfl⟩
theorem lk_X11_252 : Cond.methodLink RX11 252 yX2_copy ∈ lw_tbl := (List.mem_of_getElem? (i := 936) (by decide +kernel))
theorem kl_X11_256 : Cond.constantLong RX11 256 (661) ∈ lw_tbl := (List.mem_of_getElem? (i := 958) (by decide +kernel))
theorem kl_X11_258 : Cond.constantLong RX11 258 (31) ∈ lw_tbl := (List.mem_of_getElem? (i := 959) (by decide +kernel))
theorem lk_X11_260 : Cond.methodLink RX11 260 yX5_digested ∈ lw_tbl := (List.mem_of_getElem? (i := 960) (by decide +kernel))
theorem lk_X12_1 : Cond.methodLink RX12 1 Lib.objectInit ∈ lw_tbl := (List.mem_of_getElem? (i := 990) (by decide +kernel))
theorem fp_X12_7 : zFp RX12 7 [12] 0 (.array .int) "<init>" := by
  intro ci h
  simp only [List.mem_cons, List.not_mem_nil, or_false] at h
  rcases h with rfl
  · exact ⟨RX12, TX12, _, tyX12, zcl_12, by decide, ⟨"OneWhistleModel", (List.mem_of_getElem? (i := 992) (by decide +kernel)), Or.inl rfl⟩, rfl, Or.inr ⟨rfl, rfl, rfl⟩⟩
theorem fp_X12_13 : zFp RX12 13 [12] 1 (.array .int) "<init>" := by
  intro ci h
  simp only [List.mem_cons, List.not_mem_nil, or_false] at h
  rcases h with rfl
  · exact ⟨RX12, TX12, _, tyX12, zcl_12, by decide, ⟨"OneWhistleModel", (List.mem_of_getElem? (i := 993) (by decide +kernel)), Or.inl rfl⟩, rfl, Or.inr ⟨rfl, rfl, rfl⟩⟩
theorem fp_X12_16 : zFp RX12 16 [12] 2 (.array .int) "<init>" := by
  intro ci h
  simp only [List.mem_cons, List.not_mem_nil, or_false] at h
  rcases h with rfl
  · exact ⟨RX12, TX12, _, tyX12, zcl_12, by decide, ⟨"OneWhistleModel", (List.mem_of_getElem? (i := 994) (by decide +kernel)), Or.inl rfl⟩, rfl, Or.inr ⟨rfl, rfl, rfl⟩⟩
theorem fp_X12_19 : zFp RX12 19 [12] 3 (.array .boolean) "<init>" := by
  intro ci h
  simp only [List.mem_cons, List.not_mem_nil, or_false] at h
  rcases h with rfl
  · exact ⟨RX12, TX12, _, tyX12, zcl_12, by decide, ⟨"OneWhistleModel", (List.mem_of_getElem? (i := 995) (by decide +kernel)), Or.inl rfl⟩, rfl, Or.inr ⟨rfl, rfl, rfl⟩⟩
theorem fp_X12_23 : zFp RX12 23 [12] 4 (.array .int) "<init>" := by
  intro ci h
  simp only [List.mem_cons, List.not_mem_nil, or_false] at h
  rcases h with rfl
  · exact ⟨RX12, TX12, _, tyX12, zcl_12, by decide, ⟨"OneWhistleModel", (List.mem_of_getElem? (i := 996) (by decide +kernel)), Or.inl rfl⟩, rfl, Or.inr ⟨rfl, rfl, rfl⟩⟩
theorem fp_X12_26 : zFp RX12 26 [12] 6 (.array .int) "<init>" := by
  intro ci h
  simp only [List.mem_cons, List.not_mem_nil, or_false] at h
  rcases h with rfl
  · exact ⟨RX12, TX12, _, tyX12, zcl_12, by decide, ⟨"OneWhistleModel", (List.mem_of_getElem? (i := 998) (by decide +kernel)), Or.inl rfl⟩, rfl, Or.inr ⟨rfl, rfl, rfl⟩⟩
theorem kc_X12_29 : Cond.constant RX12 29 (65536) ∈ lw_tbl := (List.mem_of_getElem? (i := 991) (by decide +kernel))
theorem fp_X12_30 : zFp RX12 30 [12] 13 (.array .int) "<init>" := by
  intro ci h
  simp only [List.mem_cons, List.not_mem_nil, or_false] at h
  rcases h with rfl
  · exact ⟨RX12, TX12, _, tyX12, zcl_12, by decide, ⟨"OneWhistleModel", (List.mem_of_getElem? (i := 1005) (by decide +kernel)), Or.inl rfl⟩, rfl, Or.inr ⟨rfl, rfl, rfl⟩⟩
theorem fp_X12_33 : zFp RX12 33 [12] 14 (.array .int) "<init>" := by
  intro ci h
  simp only [List.mem_cons, List.not_mem_nil, or_false] at h
  rcases h with rfl
  · exact ⟨RX12, TX12, _, tyX12, zcl_12, by decide, ⟨"OneWhistleModel", (List.mem_of_getElem? (i := 1006) (by decide +kernel)), Or.inl rfl⟩, rfl, Or.inr ⟨rfl, rfl, rfl⟩⟩
theorem fp_X12_36 : zFp RX12 36 [12] 15 (.array .int) "<init>" := by
  intro ci h
  simp only [List.mem_cons, List.not_mem_nil, or_false] at h
  rcases h with rfl
  · exact ⟨RX12, TX12, _, tyX12, zcl_12, by decide, ⟨"OneWhistleModel", (List.mem_of_getElem? (i := 1007) (by decide +kernel)), Or.inl rfl⟩, rfl, Or.inr ⟨rfl, rfl, rfl⟩⟩
theorem fp_X12_39 : zFp RX12 39 [12] 18 (.array .boolean) "<init>" := by
  intro ci h
  simp only [List.mem_cons, List.not_mem_nil, or_false] at h
  rcases h with rfl
  · exact ⟨RX12, TX12, _, tyX12, zcl_12, by decide, ⟨"OneWhistleModel", (List.mem_of_getElem? (i := 1010) (by decide +kernel)), Or.inl rfl⟩, rfl, Or.inr ⟨rfl, rfl, rfl⟩⟩
theorem fp_X12_42 : zFp RX12 42 [12] 19 (.array .int) "<init>" := by
  intro ci h
  simp only [List.mem_cons, List.not_mem_nil, or_false] at h
  rcases h with rfl
  · exact ⟨RX12, TX12, _, tyX12, zcl_12, by decide, ⟨"OneWhistleModel", (List.mem_of_getElem? (i := 1011) (by decide +kernel)), Or.inl rfl⟩, rfl, Or.inr ⟨rfl, rfl, rfl⟩⟩
theorem fp_X12_45 : zFp RX12 45 [12] 20 (.array .long) "<init>" := by
  intro ci h
  simp only [List.mem_cons, List.not_mem_nil, or_false] at h
  rcases h with rfl
  · exact ⟨RX12, TX12, _, tyX12, zcl_12, by decide, ⟨"OneWhistleModel", (List.mem_of_getElem? (i := 1012) (by decide +kernel)), Or.inl rfl⟩, rfl, Or.inr ⟨rfl, rfl, rfl⟩⟩
theorem fs_X12_7 : zFs RX12 7 [12] 0 := by
  intro ci h
  simp only [List.mem_cons, List.not_mem_nil, or_false] at h
  rcases h with rfl
  · exact ⟨RX12, TX12, _, tyX12, zcl_12, by decide, "OneWhistleModel", (List.mem_of_getElem? (i := 992) (by decide +kernel)), Or.inl rfl⟩
theorem fp_X12_49 {nm : String} : zFp RX12 49 [12] 8 (.long) nm := by
  intro ci h
  simp only [List.mem_cons, List.not_mem_nil, or_false] at h
  rcases h with rfl
  · exact ⟨RX12, TX12, _, tyX12, zcl_12, by decide, ⟨"OneWhistleModel", (List.mem_of_getElem? (i := 1000) (by decide +kernel)), Or.inl rfl⟩, rfl, Or.inl rfl⟩
theorem fs_X12_26 : zFs RX12 26 [12] 6 := by
  intro ci h
  simp only [List.mem_cons, List.not_mem_nil, or_false] at h
  rcases h with rfl
  · exact ⟨RX12, TX12, _, tyX12, zcl_12, by decide, "OneWhistleModel", (List.mem_of_getElem? (i := 998) (by decide +kernel)), Or.inl rfl⟩
theorem lk_X12_53 : Cond.methodLink RX12 53 yX12_refuses ∈ lw_tbl := (List.mem_of_getElem? (i := 1068) (by decide +kernel))
theorem lk_X12_57 : Cond.methodLink RX12 57 yX12_in ∈ lw_tbl := (List.mem_of_getElem? (i := 1061) (by decide +kernel))
theorem lk_X12_61 : Cond.methodLink RX12 61 yX12_bad ∈ lw_tbl := (List.mem_of_getElem? (i := 1064) (by decide +kernel))
theorem lk_X12_65 : Cond.methodLink RX12 65 yX12_isRow ∈ lw_tbl := (List.mem_of_getElem? (i := 1076) (by decide +kernel))
theorem lk_X12_69 : Cond.methodLink RX12 69 yX12_comes ∈ lw_tbl := (List.mem_of_getElem? (i := 1080) (by decide +kernel))
theorem lk_X12_73 : Cond.methodLink RX12 73 yX12_isPlace ∈ lw_tbl := (List.mem_of_getElem? (i := 1092) (by decide +kernel))
theorem fs_X12_76 : zFs RX12 76 [12] 5 := by
  intro ci h
  simp only [List.mem_cons, List.not_mem_nil, or_false] at h
  rcases h with rfl
  · exact ⟨RX12, TX12, _, tyX12, zcl_12, by decide, "OneWhistleModel", (List.mem_of_getElem? (i := 997) (by decide +kernel)), Or.inl rfl⟩
theorem fs_X12_23 : zFs RX12 23 [12] 4 := by
  intro ci h
  simp only [List.mem_cons, List.not_mem_nil, or_false] at h
  rcases h with rfl
  · exact ⟨RX12, TX12, _, tyX12, zcl_12, by decide, "OneWhistleModel", (List.mem_of_getElem? (i := 996) (by decide +kernel)), Or.inl rfl⟩
theorem kl_X12_80 : Cond.constantLong RX12 80 (255) ∈ lw_tbl := (List.mem_of_getElem? (i := 1104) (by decide +kernel))
theorem fp_X12_76 {nm : String} : zFp RX12 76 [12] 5 (.int) nm := by
  intro ci h
  simp only [List.mem_cons, List.not_mem_nil, or_false] at h
  rcases h with rfl
  · exact ⟨RX12, TX12, _, tyX12, zcl_12, by decide, ⟨"OneWhistleModel", (List.mem_of_getElem? (i := 997) (by decide +kernel)), Or.inl rfl⟩, rfl, Or.inl rfl⟩
theorem fs_X12_82 : zFs RX12 82 [12] 9 := by
  intro ci h
  simp only [List.mem_cons, List.not_mem_nil, or_false] at h
  rcases h with rfl
  · exact ⟨RX12, TX12, _, tyX12, zcl_12, by decide, "OneWhistleModel", (List.mem_of_getElem? (i := 1001) (by decide +kernel)), Or.inl rfl⟩
theorem lk_X12_85 : Cond.methodLink RX12 85 yX12_byteAt ∈ lw_tbl := (List.mem_of_getElem? (i := 1121) (by decide +kernel))
theorem fp_X12_82 {nm : String} : zFp RX12 82 [12] 9 (.int) nm := by
  intro ci h
  simp only [List.mem_cons, List.not_mem_nil, or_false] at h
  rcases h with rfl
  · exact ⟨RX12, TX12, _, tyX12, zcl_12, by decide, ⟨"OneWhistleModel", (List.mem_of_getElem? (i := 1001) (by decide +kernel)), Or.inl rfl⟩, rfl, Or.inl rfl⟩
theorem fp_X12_89 {nm : String} : zFp RX12 89 [12] 11 (.int) nm := by
  intro ci h
  simp only [List.mem_cons, List.not_mem_nil, or_false] at h
  rcases h with rfl
  · exact ⟨RX12, TX12, _, tyX12, zcl_12, by decide, ⟨"OneWhistleModel", (List.mem_of_getElem? (i := 1003) (by decide +kernel)), Or.inl rfl⟩, rfl, Or.inl rfl⟩
theorem lk_X12_92 : Cond.methodLink RX12 92 yX12_sortOf ∈ lw_tbl := (List.mem_of_getElem? (i := 1125) (by decide +kernel))
theorem fp_X12_95 {nm : String} : zFp RX12 95 [12] 10 (.int) nm := by
  intro ci h
  simp only [List.mem_cons, List.not_mem_nil, or_false] at h
  rcases h with rfl
  · exact ⟨RX12, TX12, _, tyX12, zcl_12, by decide, ⟨"OneWhistleModel", (List.mem_of_getElem? (i := 1002) (by decide +kernel)), Or.inl rfl⟩, rfl, Or.inl rfl⟩
theorem fp_X12_98 {nm : String} : zFp RX12 98 [12] 12 (.int) nm := by
  intro ci h
  simp only [List.mem_cons, List.not_mem_nil, or_false] at h
  rcases h with rfl
  · exact ⟨RX12, TX12, _, tyX12, zcl_12, by decide, ⟨"OneWhistleModel", (List.mem_of_getElem? (i := 1004) (by decide +kernel)), Or.inl rfl⟩, rfl, Or.inl rfl⟩
theorem fs_X12_98 : zFs RX12 98 [12] 12 := by
  intro ci h
  simp only [List.mem_cons, List.not_mem_nil, or_false] at h
  rcases h with rfl
  · exact ⟨RX12, TX12, _, tyX12, zcl_12, by decide, "OneWhistleModel", (List.mem_of_getElem? (i := 1004) (by decide +kernel)), Or.inl rfl⟩
theorem fs_X12_95 : zFs RX12 95 [12] 10 := by
  intro ci h
  simp only [List.mem_cons, List.not_mem_nil, or_false] at h
  rcases h with rfl
  · exact ⟨RX12, TX12, _, tyX12, zcl_12, by decide, "OneWhistleModel", (List.mem_of_getElem? (i := 1002) (by decide +kernel)), Or.inl rfl⟩
theorem kl_X12_101 : Cond.constantLong RX12 101 (256) ∈ lw_tbl := (List.mem_of_getElem? (i := 1132) (by decide +kernel))
theorem fs_X12_89 : zFs RX12 89 [12] 11 := by
  intro ci h
  simp only [List.mem_cons, List.not_mem_nil, or_false] at h
  rcases h with rfl
  · exact ⟨RX12, TX12, _, tyX12, zcl_12, by decide, "OneWhistleModel", (List.mem_of_getElem? (i := 1003) (by decide +kernel)), Or.inl rfl⟩
theorem kl_X12_103 : Cond.constantLong RX12 103 (123610792682867) ∈ lw_tbl := (List.mem_of_getElem? (i := 1133) (by decide +kernel))
theorem kl_X12_105 : Cond.constantLong RX12 105 (1936225652) ∈ lw_tbl := (List.mem_of_getElem? (i := 1134) (by decide +kernel))
theorem kl_X12_107 : Cond.constantLong RX12 107 (1735352684) ∈ lw_tbl := (List.mem_of_getElem? (i := 1135) (by decide +kernel))
theorem kl_X12_109 : Cond.constantLong RX12 109 (422541683571) ∈ lw_tbl := (List.mem_of_getElem? (i := 1136) (by decide +kernel))
theorem kl_X12_111 : Cond.constantLong RX12 111 (108243466679400) ∈ lw_tbl := (List.mem_of_getElem? (i := 1137) (by decide +kernel))
theorem kl_X12_113 : Cond.constantLong RX12 113 (6582119) ∈ lw_tbl := (List.mem_of_getElem? (i := 1138) (by decide +kernel))
theorem lk_X12_115 : Cond.methodLink RX12 115 yX12_token ∈ lw_tbl := (List.mem_of_getElem? (i := 1117) (by decide +kernel))
theorem fs_X12_13 : zFs RX12 13 [12] 1 := by
  intro ci h
  simp only [List.mem_cons, List.not_mem_nil, or_false] at h
  rcases h with rfl
  · exact ⟨RX12, TX12, _, tyX12, zcl_12, by decide, "OneWhistleModel", (List.mem_of_getElem? (i := 993) (by decide +kernel)), Or.inl rfl⟩
theorem lk_X12_118 : Cond.methodLink RX12 118 yX12_figure ∈ lw_tbl := (List.mem_of_getElem? (i := 1147) (by decide +kernel))
theorem lk_X12_121 : Cond.methodLink RX12 121 yX12_row ∈ lw_tbl := (List.mem_of_getElem? (i := 1151) (by decide +kernel))
theorem lk_X12_124 : Cond.methodLink RX12 124 yX12_readsDog ∈ lw_tbl := (List.mem_of_getElem? (i := 1143) (by decide +kernel))
theorem lk_X12_128 : Cond.methodLink RX12 128 yX12_verb ∈ lw_tbl := (List.mem_of_getElem? (i := 1128) (by decide +kernel))
theorem lk_X12_131 : Cond.methodLink RX12 131 yX12_readsItem ∈ lw_tbl := (List.mem_of_getElem? (i := 1139) (by decide +kernel))
theorem lk_X12_134 : Cond.methodLink RX12 134 yX12_reads ∈ lw_tbl := (List.mem_of_getElem? (i := 1113) (by decide +kernel))
theorem lk_X12_137 : Cond.methodLink RX12 137 yX12_step ∈ lw_tbl := (List.mem_of_getElem? (i := 1167) (by decide +kernel))
theorem lk_X12_140 : Cond.methodLink RX12 140 yX12_isDog ∈ lw_tbl := (List.mem_of_getElem? (i := 1159) (by decide +kernel))
theorem lk_X12_143 : Cond.methodLink RX12 143 yX12_go ∈ lw_tbl := (List.mem_of_getElem? (i := 1163) (by decide +kernel))
theorem lk_X12_147 : Cond.methodLink RX12 147 yX12_isTune ∈ lw_tbl := (List.mem_of_getElem? (i := 1175) (by decide +kernel))
theorem lk_X12_151 : Cond.methodLink RX12 151 yX12_ran ∈ lw_tbl := (List.mem_of_getElem? (i := 1179) (by decide +kernel))
theorem kc_X12_154 : Cond.constant RX12 154 (32768) ∈ lw_tbl := (List.mem_of_getElem? (i := 1211) (by decide +kernel))
theorem fs_X12_30 : zFs RX12 30 [12] 13 := by
  intro ci h
  simp only [List.mem_cons, List.not_mem_nil, or_false] at h
  rcases h with rfl
  · exact ⟨RX12, TX12, _, tyX12, zcl_12, by decide, "OneWhistleModel", (List.mem_of_getElem? (i := 1005) (by decide +kernel)), Or.inl rfl⟩
theorem fs_X12_33 : zFs RX12 33 [12] 14 := by
  intro ci h
  simp only [List.mem_cons, List.not_mem_nil, or_false] at h
  rcases h with rfl
  · exact ⟨RX12, TX12, _, tyX12, zcl_12, by decide, "OneWhistleModel", (List.mem_of_getElem? (i := 1006) (by decide +kernel)), Or.inl rfl⟩
theorem fs_X12_36 : zFs RX12 36 [12] 15 := by
  intro ci h
  simp only [List.mem_cons, List.not_mem_nil, or_false] at h
  rcases h with rfl
  · exact ⟨RX12, TX12, _, tyX12, zcl_12, by decide, "OneWhistleModel", (List.mem_of_getElem? (i := 1007) (by decide +kernel)), Or.inl rfl⟩
theorem lk_X12_155 : Cond.methodLink RX12 155 yX12_after ∈ lw_tbl := (List.mem_of_getElem? (i := 1216) (by decide +kernel))
theorem lk_X12_159 : Cond.methodLink RX12 159 yX12_comesTo ∈ lw_tbl := (List.mem_of_getElem? (i := 1207) (by decide +kernel))
theorem fp_X12_163 {nm : String} : zFp RX12 163 [12] 16 (.int) nm := by
  intro ci h
  simp only [List.mem_cons, List.not_mem_nil, or_false] at h
  rcases h with rfl
  · exact ⟨RX12, TX12, _, tyX12, zcl_12, by decide, ⟨"OneWhistleModel", (List.mem_of_getElem? (i := 1008) (by decide +kernel)), Or.inl rfl⟩, rfl, Or.inl rfl⟩
theorem fs_X12_163 : zFs RX12 163 [12] 16 := by
  intro ci h
  simp only [List.mem_cons, List.not_mem_nil, or_false] at h
  rcases h with rfl
  · exact ⟨RX12, TX12, _, tyX12, zcl_12, by decide, "OneWhistleModel", (List.mem_of_getElem? (i := 1008) (by decide +kernel)), Or.inl rfl⟩
theorem fs_X12_166 : zFs RX12 166 [12] 17 := by
  intro ci h
  simp only [List.mem_cons, List.not_mem_nil, or_false] at h
  rcases h with rfl
  · exact ⟨RX12, TX12, _, tyX12, zcl_12, by decide, "OneWhistleModel", (List.mem_of_getElem? (i := 1009) (by decide +kernel)), Or.inl rfl⟩
theorem fp_X12_166 {nm : String} : zFp RX12 166 [12] 17 (.int) nm := by
  intro ci h
  simp only [List.mem_cons, List.not_mem_nil, or_false] at h
  rcases h with rfl
  · exact ⟨RX12, TX12, _, tyX12, zcl_12, by decide, ⟨"OneWhistleModel", (List.mem_of_getElem? (i := 1009) (by decide +kernel)), Or.inl rfl⟩, rfl, Or.inl rfl⟩
theorem lk_X12_169 : Cond.methodLink RX12 169 yX12_layer ∈ lw_tbl := (List.mem_of_getElem? (i := 1212) (by decide +kernel))
theorem lk_X12_173 : Cond.methodLink RX12 173 yX12_empties ∈ lw_tbl := (List.mem_of_getElem? (i := 1220) (by decide +kernel))
theorem lk_X12_176 : Cond.methodLink RX12 176 yX12_all ∈ lw_tbl := (List.mem_of_getElem? (i := 1199) (by decide +kernel))
theorem lk_X12_179 : Cond.methodLink RX12 179 yX12_leads ∈ lw_tbl := (List.mem_of_getElem? (i := 1203) (by decide +kernel))
theorem lk_X12_183 : Cond.methodLink RX12 183 yX12_isSet ∈ lw_tbl := (List.mem_of_getElem? (i := 1191) (by decide +kernel))
theorem lk_X12_186 : Cond.methodLink RX12 186 yX12_tames ∈ lw_tbl := (List.mem_of_getElem? (i := 1195) (by decide +kernel))
theorem lk_X12_190 : Cond.methodLink RX12 190 yX12_tune ∈ lw_tbl := (List.mem_of_getElem? (i := 1224) (by decide +kernel))
theorem lk_X12_193 : Cond.methodLink RX12 193 yX12_bits ∈ lw_tbl := (List.mem_of_getElem? (i := 1236) (by decide +kernel))
theorem fs_X12_39 : zFs RX12 39 [12] 18 := by
  intro ci h
  simp only [List.mem_cons, List.not_mem_nil, or_false] at h
  rcases h with rfl
  · exact ⟨RX12, TX12, _, tyX12, zcl_12, by decide, "OneWhistleModel", (List.mem_of_getElem? (i := 1010) (by decide +kernel)), Or.inl rfl⟩
theorem fs_X12_42 : zFs RX12 42 [12] 19 := by
  intro ci h
  simp only [List.mem_cons, List.not_mem_nil, or_false] at h
  rcases h with rfl
  · exact ⟨RX12, TX12, _, tyX12, zcl_12, by decide, "OneWhistleModel", (List.mem_of_getElem? (i := 1011) (by decide +kernel)), Or.inl rfl⟩
theorem lk_X12_196 : Cond.methodLink RX12 196 yX12_takesBy ∈ lw_tbl := (List.mem_of_getElem? (i := 1255) (by decide +kernel))
theorem lk_X12_199 : Cond.methodLink RX12 199 yX12_allTakes ∈ lw_tbl := (List.mem_of_getElem? (i := 1251) (by decide +kernel))
theorem lk_X12_203 : Cond.methodLink RX12 203 yX12_heard ∈ lw_tbl := (List.mem_of_getElem? (i := 1267) (by decide +kernel))
theorem lk_X12_207 : Cond.methodLink RX12 207 yX12_begins ∈ lw_tbl := (List.mem_of_getElem? (i := 1263) (by decide +kernel))
theorem fs_X12_45 : zFs RX12 45 [12] 20 := by
  intro ci h
  simp only [List.mem_cons, List.not_mem_nil, or_false] at h
  rcases h with rfl
  · exact ⟨RX12, TX12, _, tyX12, zcl_12, by decide, "OneWhistleModel", (List.mem_of_getElem? (i := 1012) (by decide +kernel)), Or.inl rfl⟩
theorem kl_X12_210 : Cond.constantLong RX12 210 (10) ∈ lw_tbl := (List.mem_of_getElem? (i := 1279) (by decide +kernel))
theorem fp_X12_212 {nm : String} : zFp RX12 212 [12] 7 (.long) nm := by
  intro ci h
  simp only [List.mem_cons, List.not_mem_nil, or_false] at h
  rcases h with rfl
  · exact ⟨RX12, TX12, _, tyX12, zcl_12, by decide, ⟨"OneWhistleModel", (List.mem_of_getElem? (i := 999) (by decide +kernel)), Or.inl rfl⟩, rfl, Or.inl rfl⟩
theorem fs_X12_212 : zFs RX12 212 [12] 7 := by
  intro ci h
  simp only [List.mem_cons, List.not_mem_nil, or_false] at h
  rcases h with rfl
  · exact ⟨RX12, TX12, _, tyX12, zcl_12, by decide, "OneWhistleModel", (List.mem_of_getElem? (i := 999) (by decide +kernel)), Or.inl rfl⟩
theorem fs_X12_49 : zFs RX12 49 [12] 8 := by
  intro ci h
  simp only [List.mem_cons, List.not_mem_nil, or_false] at h
  rcases h with rfl
  · exact ⟨RX12, TX12, _, tyX12, zcl_12, by decide, "OneWhistleModel", (List.mem_of_getElem? (i := 1000) (by decide +kernel)), Or.inl rfl⟩
theorem fs_X12_16 : zFs RX12 16 [12] 2 := by
  intro ci h
  simp only [List.mem_cons, List.not_mem_nil, or_false] at h
  rcases h with rfl
  · exact ⟨RX12, TX12, _, tyX12, zcl_12, by decide, "OneWhistleModel", (List.mem_of_getElem? (i := 994) (by decide +kernel)), Or.inl rfl⟩
theorem fs_X12_19 : zFs RX12 19 [12] 3 := by
  intro ci h
  simp only [List.mem_cons, List.not_mem_nil, or_false] at h
  rcases h with rfl
  · exact ⟨RX12, TX12, _, tyX12, zcl_12, by decide, "OneWhistleModel", (List.mem_of_getElem? (i := 995) (by decide +kernel)), Or.inl rfl⟩
theorem lk_X12_215 : Cond.methodLink RX12 215 yX12_counted ∈ lw_tbl := (List.mem_of_getElem? (i := 1300) (by decide +kernel))
theorem kl_X12_218 : Cond.constantLong RX12 218 (661) ∈ lw_tbl := (List.mem_of_getElem? (i := 1308) (by decide +kernel))
theorem kl_X12_220 : Cond.constantLong RX12 220 (31) ∈ lw_tbl := (List.mem_of_getElem? (i := 1309) (by decide +kernel))
theorem cl_L_7 : Cond.classLink RL 7 RX11 ∈ lw_tbl := (List.mem_of_getElem? (i := 85) (by decide +kernel))
theorem lk_L_9 : Cond.methodLink RL 9 yX11_init ∈ lw_tbl := (List.mem_of_getElem? (i := 87) (by decide +kernel))
theorem cl_L_10 : Cond.classLink RL 10 RX12 ∈ lw_tbl := (List.mem_of_getElem? (i := 985) (by decide +kernel))
theorem lk_L_12 : Cond.methodLink RL 12 yX12_init ∈ lw_tbl := (List.mem_of_getElem? (i := 987) (by decide +kernel))
theorem lk_L_13 : Cond.methodLink RL 13 yX11_places ∈ lw_tbl := (List.mem_of_getElem? (i := 280) (by decide +kernel))
theorem lk_L_17 : Cond.methodLink RL 17 yX12_places ∈ lw_tbl := (List.mem_of_getElem? (i := 1057) (by decide +kernel))
theorem lk_L_18 : Cond.methodLink RL 18 yX11_dog ∈ lw_tbl := (List.mem_of_getElem? (i := 292) (by decide +kernel))
theorem lk_L_22 : Cond.methodLink RL 22 yX12_dog ∈ lw_tbl := (List.mem_of_getElem? (i := 1072) (by decide +kernel))
theorem lk_L_23 : Cond.methodLink RL 23 yX11_pup ∈ lw_tbl := (List.mem_of_getElem? (i := 358) (by decide +kernel))
theorem lk_L_27 : Cond.methodLink RL 27 yX12_pup ∈ lw_tbl := (List.mem_of_getElem? (i := 1084) (by decide +kernel))
theorem lk_L_28 : Cond.methodLink RL 28 yX11_shut ∈ lw_tbl := (List.mem_of_getElem? (i := 402) (by decide +kernel))
theorem lk_L_32 : Cond.methodLink RL 32 yX12_shut ∈ lw_tbl := (List.mem_of_getElem? (i := 1088) (by decide +kernel))
theorem lk_L_33 : Cond.methodLink RL 33 yX11_put ∈ lw_tbl := (List.mem_of_getElem? (i := 417) (by decide +kernel))
theorem lk_L_37 : Cond.methodLink RL 37 yX12_put ∈ lw_tbl := (List.mem_of_getElem? (i := 1096) (by decide +kernel))
theorem kl_L_38 : Cond.constantLong RL 38 (4294967295) ∈ lw_tbl := (List.mem_of_getElem? (i := 1310) (by decide +kernel))
theorem lk_L_40 : Cond.methodLink RL 40 yX11_type ∈ lw_tbl := (List.mem_of_getElem? (i := 429) (by decide +kernel))
theorem lk_L_44 : Cond.methodLink RL 44 yX12_type ∈ lw_tbl := (List.mem_of_getElem? (i := 1100) (by decide +kernel))
theorem lk_L_45 : Cond.methodLink RL 45 yX11_clear ∈ lw_tbl := (List.mem_of_getElem? (i := 433) (by decide +kernel))
theorem lk_L_49 : Cond.methodLink RL 49 yX12_clear ∈ lw_tbl := (List.mem_of_getElem? (i := 1105) (by decide +kernel))
theorem lk_L_50 : Cond.methodLink RL 50 yX11_read ∈ lw_tbl := (List.mem_of_getElem? (i := 437) (by decide +kernel))
theorem lk_L_53 : Cond.methodLink RL 53 yX12_read ∈ lw_tbl := (List.mem_of_getElem? (i := 1109) (by decide +kernel))
theorem lk_L_54 : Cond.methodLink RL 54 yX11_goes ∈ lw_tbl := (List.mem_of_getElem? (i := 585) (by decide +kernel))
theorem lk_L_58 : Cond.methodLink RL 58 yX12_goes ∈ lw_tbl := (List.mem_of_getElem? (i := 1155) (by decide +kernel))
theorem lk_L_59 : Cond.methodLink RL 59 yX11_run ∈ lw_tbl := (List.mem_of_getElem? (i := 634) (by decide +kernel))
theorem lk_L_62 : Cond.methodLink RL 62 yX12_run ∈ lw_tbl := (List.mem_of_getElem? (i := 1171) (by decide +kernel))
theorem lk_L_63 : Cond.methodLink RL 63 yX11_meets ∈ lw_tbl := (List.mem_of_getElem? (i := 654) (by decide +kernel))
theorem lk_L_66 : Cond.methodLink RL 66 yX12_meets ∈ lw_tbl := (List.mem_of_getElem? (i := 1183) (by decide +kernel))
theorem lk_L_67 : Cond.methodLink RL 67 yX11_tame ∈ lw_tbl := (List.mem_of_getElem? (i := 658) (by decide +kernel))
theorem lk_L_70 : Cond.methodLink RL 70 yX12_tame ∈ lw_tbl := (List.mem_of_getElem? (i := 1187) (by decide +kernel))
theorem lk_L_71 : Cond.methodLink RL 71 yX11_quiet ∈ lw_tbl := (List.mem_of_getElem? (i := 821) (by decide +kernel))
theorem lk_L_74 : Cond.methodLink RL 74 yX12_quiet ∈ lw_tbl := (List.mem_of_getElem? (i := 1228) (by decide +kernel))
theorem lk_L_75 : Cond.methodLink RL 75 yX11_apart ∈ lw_tbl := (List.mem_of_getElem? (i := 829) (by decide +kernel))
theorem lk_L_78 : Cond.methodLink RL 78 yX12_apart ∈ lw_tbl := (List.mem_of_getElem? (i := 1243) (by decide +kernel))
theorem lk_L_79 : Cond.methodLink RL 79 yX11_shuts ∈ lw_tbl := (List.mem_of_getElem? (i := 852) (by decide +kernel))
theorem lk_L_82 : Cond.methodLink RL 82 yX12_shuts ∈ lw_tbl := (List.mem_of_getElem? (i := 1232) (by decide +kernel))
theorem lk_L_83 : Cond.methodLink RL 83 yX11_neighbour ∈ lw_tbl := (List.mem_of_getElem? (i := 856) (by decide +kernel))
theorem lk_L_86 : Cond.methodLink RL 86 yX12_neighbour ∈ lw_tbl := (List.mem_of_getElem? (i := 1239) (by decide +kernel))
theorem lk_L_87 : Cond.methodLink RL 87 yX11_tells ∈ lw_tbl := (List.mem_of_getElem? (i := 861) (by decide +kernel))
theorem lk_L_90 : Cond.methodLink RL 90 yX12_tells ∈ lw_tbl := (List.mem_of_getElem? (i := 1247) (by decide +kernel))
theorem lk_L_91 : Cond.methodLink RL 91 yX11_which ∈ lw_tbl := (List.mem_of_getElem? (i := 889) (by decide +kernel))
theorem lk_L_94 : Cond.methodLink RL 94 yX12_which ∈ lw_tbl := (List.mem_of_getElem? (i := 1259) (by decide +kernel))
theorem lk_L_95 : Cond.methodLink RL 95 yX11_starts ∈ lw_tbl := (List.mem_of_getElem? (i := 904) (by decide +kernel))
theorem lk_L_98 : Cond.methodLink RL 98 yX12_starts ∈ lw_tbl := (List.mem_of_getElem? (i := 1271) (by decide +kernel))
theorem lk_L_99 : Cond.methodLink RL 99 yX11_drawn ∈ lw_tbl := (List.mem_of_getElem? (i := 908) (by decide +kernel))
theorem lk_L_102 : Cond.methodLink RL 102 yX12_drawn ∈ lw_tbl := (List.mem_of_getElem? (i := 1275) (by decide +kernel))
theorem lk_L_103 : Cond.methodLink RL 103 yX11_part ∈ lw_tbl := (List.mem_of_getElem? (i := 928) (by decide +kernel))
theorem lk_L_107 : Cond.methodLink RL 107 yX12_part ∈ lw_tbl := (List.mem_of_getElem? (i := 1280) (by decide +kernel))
theorem lk_L_108 : Cond.methodLink RL 108 yX11_image ∈ lw_tbl := (List.mem_of_getElem? (i := 932) (by decide +kernel))
theorem lk_L_111 : Cond.methodLink RL 111 yX12_image ∈ lw_tbl := (List.mem_of_getElem? (i := 1284) (by decide +kernel))
theorem lk_L_112 : Cond.methodLink RL 112 yX11_from ∈ lw_tbl := (List.mem_of_getElem? (i := 942) (by decide +kernel))
theorem lk_L_115 : Cond.methodLink RL 115 yX12_from ∈ lw_tbl := (List.mem_of_getElem? (i := 1288) (by decide +kernel))
theorem lk_L_116 : Cond.methodLink RL 116 yX11_status ∈ lw_tbl := (List.mem_of_getElem? (i := 946) (by decide +kernel))
theorem lk_L_119 : Cond.methodLink RL 119 yX12_status ∈ lw_tbl := (List.mem_of_getElem? (i := 1292) (by decide +kernel))
theorem lk_L_120 : Cond.methodLink RL 120 yX11_count ∈ lw_tbl := (List.mem_of_getElem? (i := 950) (by decide +kernel))
theorem lk_L_123 : Cond.methodLink RL 123 yX12_count ∈ lw_tbl := (List.mem_of_getElem? (i := 1296) (by decide +kernel))
theorem lk_L_124 : Cond.methodLink RL 124 yX11_digest ∈ lw_tbl := (List.mem_of_getElem? (i := 954) (by decide +kernel))
theorem lk_L_128 : Cond.methodLink RL 128 yX12_digest ∈ lw_tbl := (List.mem_of_getElem? (i := 1304) (by decide +kernel))
abbrev mX4_init : zM := (RX4, cX4_init, 1, none, "<init>", 1, 20)
theorem cd_X4_init : zCd yX4_init mX4_init 0 := ⟨List.mem_of_getElem? (i := 153) (by decide +kernel), (List.mem_of_getElem? (i := 67) (by decide +kernel)), ⟨by decide +kernel, by decide +kernel⟩, by decide +kernel⟩
theorem im_X4_init : Cond.instanceMethod yX4_init ∈ lw_tbl := (List.mem_of_getElem? (i := 152) (by decide +kernel))
abbrev mX8_init : zM := (RX8, cX8_init, 1, none, "<init>", 1, 20)
theorem cd_X8_init : zCd yX8_init mX8_init 0 := ⟨List.mem_of_getElem? (i := 174) (by decide +kernel), (List.mem_of_getElem? (i := 68) (by decide +kernel)), ⟨by decide +kernel, by decide +kernel⟩, by decide +kernel⟩
theorem im_X8_init : Cond.instanceMethod yX8_init ∈ lw_tbl := (List.mem_of_getElem? (i := 173) (by decide +kernel))
abbrev mX0_init : zM := (RX0, cX0_init, 1, none, "<init>", 2, 40)
theorem cd_X0_init : zCd yX0_init mX0_init 0 := ⟨List.mem_of_getElem? (i := 146) (by decide +kernel), (List.mem_of_getElem? (i := 66) (by decide +kernel)), ⟨by decide +kernel, by decide +kernel⟩, by decide +kernel⟩
theorem im_X0_init : Cond.instanceMethod yX0_init ∈ lw_tbl := (List.mem_of_getElem? (i := 145) (by decide +kernel))
abbrev mX2_dogAt : zM := (RX2, cX2_dogAt, 2, (some (.object "OneWhistle$Plain")), "dogAt", 1, 20)
theorem cd_X2_dogAt : zCd yX2_dogAt mX2_dogAt 1 := ⟨List.mem_of_getElem? (i := 592) (by decide +kernel), (List.mem_of_getElem? (i := 65) (by decide +kernel)), ⟨by decide +kernel, by decide +kernel⟩, by decide +kernel⟩
theorem im_X2_dogAt : Cond.instanceMethod yX2_dogAt ∈ lw_tbl := (List.mem_of_getElem? (i := 590) (by decide +kernel))
theorem se_X2_dogAt : Cond.selects RX2 yX2_dogAt yX2_dogAt ∈ lw_tbl := (List.mem_of_getElem? (i := 591) (by decide +kernel))
abbrev mX11_holds : zM := (RX11, cX11_holds, 2, (some .boolean), "holds", 1, 20)
theorem cd_X11_holds : zCd yX11_holds mX11_holds 2 := ⟨List.mem_of_getElem? (i := 412) (by decide +kernel), (List.mem_of_getElem? (i := 64) (by decide +kernel)), ⟨by decide +kernel, by decide +kernel⟩, by decide +kernel⟩
theorem st_X11_holds : Cond.static yX11_holds ∈ lw_tbl := (List.mem_of_getElem? (i := 411) (by decide +kernel))
abbrev mX2_allPlaces : zM := (RX2, cX2_allPlaces, 1, (some .int), "allPlaces", 1, 20)
theorem cd_X2_allPlaces : zCd yX2_allPlaces mX2_allPlaces 0 := ⟨List.mem_of_getElem? (i := 428) (by decide +kernel), (List.mem_of_getElem? (i := 65) (by decide +kernel)), ⟨by decide +kernel, by decide +kernel⟩, by decide +kernel⟩
theorem im_X2_allPlaces : Cond.instanceMethod yX2_allPlaces ∈ lw_tbl := (List.mem_of_getElem? (i := 426) (by decide +kernel))
theorem se_X2_allPlaces : Cond.selects RX2 yX2_allPlaces yX2_allPlaces ∈ lw_tbl := (List.mem_of_getElem? (i := 427) (by decide +kernel))
abbrev mX4_rowOf : zM := (RX4, cX4_rowOf, 2, (some .int), "rowOf", 1, 20)
theorem cd_X4_rowOf : zCd yX4_rowOf mX4_rowOf 2 := ⟨List.mem_of_getElem? (i := 687) (by decide +kernel), (List.mem_of_getElem? (i := 67) (by decide +kernel)), ⟨by decide +kernel, by decide +kernel⟩, by decide +kernel⟩
theorem st_X4_rowOf : Cond.static yX4_rowOf ∈ lw_tbl := (List.mem_of_getElem? (i := 686) (by decide +kernel))
abbrev mX5_rowFor : zM := (RX5, cX5_rowFor, 3, (some .int), "rowFor", 1, 20)
theorem cd_X5_rowFor : zCd yX5_rowFor mX5_rowFor 2 := ⟨List.mem_of_getElem? (i := 617) (by decide +kernel), (List.mem_of_getElem? (i := 71) (by decide +kernel)), ⟨by decide +kernel, by decide +kernel⟩, by decide +kernel⟩
theorem im_X5_rowFor : Cond.instanceMethod yX5_rowFor ∈ lw_tbl := (List.mem_of_getElem? (i := 608) (by decide +kernel))
theorem se_X5_rowFor : Cond.selects RX5 yX5_rowFor yX5_rowFor ∈ lw_tbl := (List.mem_of_getElem? (i := 609) (by decide +kernel))
abbrev mX6_rowFor : zM := (RX6, cX6_rowFor, 3, (some .int), "rowFor", 1, 20)
theorem cd_X6_rowFor : zCd yX6_rowFor mX6_rowFor 2 := ⟨List.mem_of_getElem? (i := 614) (by decide +kernel), (List.mem_of_getElem? (i := 74) (by decide +kernel)), ⟨by decide +kernel, by decide +kernel⟩, by decide +kernel⟩
theorem im_X6_rowFor : Cond.instanceMethod yX6_rowFor ∈ lw_tbl := (List.mem_of_getElem? (i := 613) (by decide +kernel))
abbrev mX5_byRows : zM := (RX5, cX5_byRows, 6, (some .int), "byRows", 2, 42)
theorem cd_X5_byRows : zCd yX5_byRows mX5_byRows 4 := ⟨List.mem_of_getElem? (i := 606) (by decide +kernel), (List.mem_of_getElem? (i := 71) (by decide +kernel)), ⟨by decide +kernel, by decide +kernel⟩, by decide +kernel⟩
theorem im_X5_byRows : Cond.instanceMethod yX5_byRows ∈ lw_tbl := (List.mem_of_getElem? (i := 605) (by decide +kernel))
theorem se_X5_byRows : Cond.selects RX5 yX5_byRows yX5_byRows ∈ lw_tbl := (List.mem_of_getElem? (i := 1314) (by decide +kernel))
abbrev mX5_next : zM := (RX5, cX5_next, 5, (some .int), "next", 3, 67)
theorem cd_X5_next : zCd yX5_next mX5_next 4 := ⟨List.mem_of_getElem? (i := 632) (by decide +kernel), (List.mem_of_getElem? (i := 71) (by decide +kernel)), ⟨by decide +kernel, by decide +kernel⟩, by decide +kernel⟩
theorem im_X5_next : Cond.instanceMethod yX5_next ∈ lw_tbl := (List.mem_of_getElem? (i := 594) (by decide +kernel))
theorem se_X5_next : Cond.selects RX5 yX5_next yX5_next ∈ lw_tbl := (List.mem_of_getElem? (i := 595) (by decide +kernel))
abbrev mX1_next : zM := (RX1, cX1_next, 5, (some .int), "next", 3, 67)
theorem cd_X1_next : zCd yX1_next mX1_next 4 := ⟨List.mem_of_getElem? (i := 599) (by decide +kernel), (List.mem_of_getElem? (i := 72) (by decide +kernel)), ⟨by decide +kernel, by decide +kernel⟩, by decide +kernel⟩
theorem im_X1_next : Cond.instanceMethod yX1_next ∈ lw_tbl := (List.mem_of_getElem? (i := 598) (by decide +kernel))
abbrev mX9_next : zM := (RX9, cX9_next, 5, (some .int), "next", 3, 67)
theorem cd_X9_next : zCd yX9_next mX9_next 4 := ⟨List.mem_of_getElem? (i := 628) (by decide +kernel), (List.mem_of_getElem? (i := 73) (by decide +kernel)), ⟨by decide +kernel, by decide +kernel⟩, by decide +kernel⟩
theorem im_X9_next : Cond.instanceMethod yX9_next ∈ lw_tbl := (List.mem_of_getElem? (i := 627) (by decide +kernel))
abbrev mX3_next : zM := (RX3, cX3_next, 6, (some .int), "next", 3, 67)
theorem cd_X3_next : zCd yX3_next mX3_next 4 := ⟨List.mem_of_getElem? (i := 621) (by decide +kernel), (List.mem_of_getElem? (i := 75) (by decide +kernel)), ⟨by decide +kernel, by decide +kernel⟩, by decide +kernel⟩
theorem im_X3_next : Cond.instanceMethod yX3_next ∈ lw_tbl := (List.mem_of_getElem? (i := 620) (by decide +kernel))
abbrev mX4_joinSets : zM := (RX4, cX4_joinSets, 4, none, "joinSets", 1, 20)
theorem cd_X4_joinSets : zCd yX4_joinSets mX4_joinSets 1 := ⟨List.mem_of_getElem? (i := 692) (by decide +kernel), (List.mem_of_getElem? (i := 67) (by decide +kernel)), ⟨by decide +kernel, by decide +kernel⟩, by decide +kernel⟩
theorem im_X4_joinSets : Cond.instanceMethod yX4_joinSets ∈ lw_tbl := (List.mem_of_getElem? (i := 691) (by decide +kernel))
theorem se_X4_joinSets : Cond.selects RX4 yX4_joinSets yX4_joinSets ∈ lw_tbl := (List.mem_of_getElem? (i := 15) (by decide +kernel))
abbrev mX4_learn : zM := (RX4, cX4_learn, 8, none, "learn", 4, 92)
theorem cd_X4_learn : zCd yX4_learn mX4_learn 3 := ⟨List.mem_of_getElem? (i := 681) (by decide +kernel), (List.mem_of_getElem? (i := 67) (by decide +kernel)), ⟨by decide +kernel, by decide +kernel⟩, by decide +kernel⟩
theorem im_X4_learn : Cond.instanceMethod yX4_learn ∈ lw_tbl := (List.mem_of_getElem? (i := 679) (by decide +kernel))
theorem se_X4_learn : Cond.selects RX4 yX4_learn yX4_learn ∈ lw_tbl := (List.mem_of_getElem? (i := 680) (by decide +kernel))
abbrev mX11_phaseOf : zM := (RX11, cX11_phaseOf, 1, (some .int), "phaseOf", 1, 20)
theorem cd_X11_phaseOf : zCd yX11_phaseOf mX11_phaseOf 1 := ⟨List.mem_of_getElem? (i := 700) (by decide +kernel), (List.mem_of_getElem? (i := 64) (by decide +kernel)), ⟨by decide +kernel, by decide +kernel⟩, by decide +kernel⟩
theorem st_X11_phaseOf : Cond.static yX11_phaseOf ∈ lw_tbl := (List.mem_of_getElem? (i := 699) (by decide +kernel))
abbrev mX4_findEnds : zM := (RX4, cX4_findEnds, 10, none, "findEnds", 2, 41)
theorem cd_X4_findEnds : zCd yX4_findEnds mX4_findEnds 1 := ⟨List.mem_of_getElem? (i := 696) (by decide +kernel), (List.mem_of_getElem? (i := 67) (by decide +kernel)), ⟨by decide +kernel, by decide +kernel⟩, by decide +kernel⟩
theorem im_X4_findEnds : Cond.instanceMethod yX4_findEnds ∈ lw_tbl := (List.mem_of_getElem? (i := 694) (by decide +kernel))
theorem se_X4_findEnds : Cond.selects RX4 yX4_findEnds yX4_findEnds ∈ lw_tbl := (List.mem_of_getElem? (i := 695) (by decide +kernel))
abbrev mX5_heedsOdd : zM := (RX5, cX5_heedsOdd, 1, (some .boolean), "heedsOdd", 1, 20)
theorem cd_X5_heedsOdd : zCd yX5_heedsOdd mX5_heedsOdd 0 := ⟨List.mem_of_getElem? (i := 711) (by decide +kernel), (List.mem_of_getElem? (i := 71) (by decide +kernel)), ⟨by decide +kernel, by decide +kernel⟩, by decide +kernel⟩
theorem im_X5_heedsOdd : Cond.instanceMethod yX5_heedsOdd ∈ lw_tbl := (List.mem_of_getElem? (i := 702) (by decide +kernel))
theorem se_X5_heedsOdd : Cond.selects RX5 yX5_heedsOdd yX5_heedsOdd ∈ lw_tbl := (List.mem_of_getElem? (i := 703) (by decide +kernel))
abbrev mX1_heedsOdd : zM := (RX1, cX1_heedsOdd, 1, (some .boolean), "heedsOdd", 1, 20)
theorem cd_X1_heedsOdd : zCd yX1_heedsOdd mX1_heedsOdd 0 := ⟨List.mem_of_getElem? (i := 707) (by decide +kernel), (List.mem_of_getElem? (i := 72) (by decide +kernel)), ⟨by decide +kernel, by decide +kernel⟩, by decide +kernel⟩
theorem im_X1_heedsOdd : Cond.instanceMethod yX1_heedsOdd ∈ lw_tbl := (List.mem_of_getElem? (i := 706) (by decide +kernel))
abbrev mX0_addLane : zM := (RX0, cX0_addLane, 7, none, "addLane", 5, 119)
theorem cd_X0_addLane : zCd yX0_addLane mX0_addLane 5 := ⟨List.mem_of_getElem? (i := 677) (by decide +kernel), (List.mem_of_getElem? (i := 66) (by decide +kernel)), ⟨by decide +kernel, by decide +kernel⟩, by decide +kernel⟩
theorem im_X0_addLane : Cond.instanceMethod yX0_addLane ∈ lw_tbl := (List.mem_of_getElem? (i := 675) (by decide +kernel))
theorem se_X0_addLane : Cond.selects RX0 yX0_addLane yX0_addLane ∈ lw_tbl := (List.mem_of_getElem? (i := 676) (by decide +kernel))
abbrev mX0_follow : zM := (RX0, cX0_follow, 6, none, "follow", 6, 145)
theorem cd_X0_follow : zCd yX0_follow mX0_follow 3 := ⟨List.mem_of_getElem? (i := 670) (by decide +kernel), (List.mem_of_getElem? (i := 66) (by decide +kernel)), ⟨by decide +kernel, by decide +kernel⟩, by decide +kernel⟩
theorem im_X0_follow : Cond.instanceMethod yX0_follow ∈ lw_tbl := (List.mem_of_getElem? (i := 668) (by decide +kernel))
theorem se_X0_follow : Cond.selects RX0 yX0_follow yX0_follow ∈ lw_tbl := (List.mem_of_getElem? (i := 669) (by decide +kernel))
abbrev mX8_forget : zM := (RX8, cX8_forget, 1, none, "forget", 1, 20)
theorem cd_X8_forget : zCd yX8_forget mX8_forget 0 := ⟨List.mem_of_getElem? (i := 719) (by decide +kernel), (List.mem_of_getElem? (i := 68) (by decide +kernel)), ⟨by decide +kernel, by decide +kernel⟩, by decide +kernel⟩
theorem im_X8_forget : Cond.instanceMethod yX8_forget ∈ lw_tbl := (List.mem_of_getElem? (i := 717) (by decide +kernel))
theorem se_X8_forget : Cond.selects RX8 yX8_forget yX8_forget ∈ lw_tbl := (List.mem_of_getElem? (i := 718) (by decide +kernel))
abbrev mX4_endsFrom : zM := (RX4, cX4_endsFrom, 4, (some .int), "endsFrom", 1, 20)
theorem cd_X4_endsFrom : zCd yX4_endsFrom mX4_endsFrom 2 := ⟨List.mem_of_getElem? (i := 728) (by decide +kernel), (List.mem_of_getElem? (i := 67) (by decide +kernel)), ⟨by decide +kernel, by decide +kernel⟩, by decide +kernel⟩
theorem im_X4_endsFrom : Cond.instanceMethod yX4_endsFrom ∈ lw_tbl := (List.mem_of_getElem? (i := 726) (by decide +kernel))
theorem se_X4_endsFrom : Cond.selects RX4 yX4_endsFrom yX4_endsFrom ∈ lw_tbl := (List.mem_of_getElem? (i := 727) (by decide +kernel))
abbrev mJ6_bitCount_0f7a4 : zM := (RJ6, cJ6_bitCount_0f7a4, 1, (some .int), "bitCount", 1, 20)
theorem cd_J6_bitCount_0f7a4 : zCd yJ6_bitCount_0f7a4 mJ6_bitCount_0f7a4 1 := ⟨List.mem_of_getElem? (i := 734) (by decide +kernel), (List.mem_of_getElem? (i := 82) (by decide +kernel)), ⟨by decide +kernel, by decide +kernel⟩, by decide +kernel⟩
theorem st_J6_bitCount_0f7a4 : Cond.static yJ6_bitCount_0f7a4 ∈ lw_tbl := (List.mem_of_getElem? (i := 733) (by decide +kernel))
abbrev mX11_lowestBitIndex : zM := (RX11, cX11_lowestBitIndex, 1, (some .int), "lowestBitIndex", 2, 40)
theorem cd_X11_lowestBitIndex : zCd yX11_lowestBitIndex mX11_lowestBitIndex 1 := ⟨List.mem_of_getElem? (i := 731) (by decide +kernel), (List.mem_of_getElem? (i := 64) (by decide +kernel)), ⟨by decide +kernel, by decide +kernel⟩, by decide +kernel⟩
theorem st_X11_lowestBitIndex : Cond.static yX11_lowestBitIndex ∈ lw_tbl := (List.mem_of_getElem? (i := 730) (by decide +kernel))
abbrev mX0_keyOf : zM := (RX0, cX0_keyOf, 3, (some .int), "keyOf", 1, 20)
theorem cd_X0_keyOf : zCd yX0_keyOf mX0_keyOf 2 := ⟨List.mem_of_getElem? (i := 741) (by decide +kernel), (List.mem_of_getElem? (i := 66) (by decide +kernel)), ⟨by decide +kernel, by decide +kernel⟩, by decide +kernel⟩
theorem im_X0_keyOf : Cond.instanceMethod yX0_keyOf ∈ lw_tbl := (List.mem_of_getElem? (i := 740) (by decide +kernel))
theorem se_X0_keyOf : Cond.selects RX0 yX0_keyOf yX0_keyOf ∈ lw_tbl := (List.mem_of_getElem? (i := 17) (by decide +kernel))
abbrev mX8_isOurs : zM := (RX8, cX8_isOurs, 3, (some .boolean), "isOurs", 1, 20)
theorem cd_X8_isOurs : zCd yX8_isOurs mX8_isOurs 1 := ⟨List.mem_of_getElem? (i := 754) (by decide +kernel), (List.mem_of_getElem? (i := 68) (by decide +kernel)), ⟨by decide +kernel, by decide +kernel⟩, by decide +kernel⟩
theorem im_X8_isOurs : Cond.instanceMethod yX8_isOurs ∈ lw_tbl := (List.mem_of_getElem? (i := 753) (by decide +kernel))
theorem se_X8_isOurs : Cond.selects RX8 yX8_isOurs yX8_isOurs ∈ lw_tbl := (List.mem_of_getElem? (i := 19) (by decide +kernel))
abbrev mX8_keyOf : zM := (RX8, cX8_keyOf, 2, (some .int), "keyOf", 1, 20)
theorem cd_X8_keyOf : zCd yX8_keyOf mX8_keyOf 1 := ⟨List.mem_of_getElem? (i := 757) (by decide +kernel), (List.mem_of_getElem? (i := 68) (by decide +kernel)), ⟨by decide +kernel, by decide +kernel⟩, by decide +kernel⟩
theorem st_X8_keyOf : Cond.static yX8_keyOf ∈ lw_tbl := (List.mem_of_getElem? (i := 756) (by decide +kernel))
abbrev mX8_slotFor : zM := (RX8, cX8_slotFor, 5, (some .int), "slotFor", 2, 42)
theorem cd_X8_slotFor : zCd yX8_slotFor mX8_slotFor 1 := ⟨List.mem_of_getElem? (i := 749) (by decide +kernel), (List.mem_of_getElem? (i := 68) (by decide +kernel)), ⟨by decide +kernel, by decide +kernel⟩, by decide +kernel⟩
theorem im_X8_slotFor : Cond.instanceMethod yX8_slotFor ∈ lw_tbl := (List.mem_of_getElem? (i := 748) (by decide +kernel))
theorem se_X8_slotFor : Cond.selects RX8 yX8_slotFor yX8_slotFor ∈ lw_tbl := (List.mem_of_getElem? (i := 18) (by decide +kernel))
abbrev mX8_breathOf : zM := (RX8, cX8_breathOf, 2, (some .int), "breathOf", 1, 20)
theorem cd_X8_breathOf : zCd yX8_breathOf mX8_breathOf 1 := ⟨List.mem_of_getElem? (i := 761) (by decide +kernel), (List.mem_of_getElem? (i := 68) (by decide +kernel)), ⟨by decide +kernel, by decide +kernel⟩, by decide +kernel⟩
theorem st_X8_breathOf : Cond.static yX8_breathOf ∈ lw_tbl := (List.mem_of_getElem? (i := 760) (by decide +kernel))
abbrev mX8_grow : zM := (RX8, cX8_grow, 3, none, "grow", 3, 66)
theorem cd_X8_grow : zCd yX8_grow mX8_grow 0 := ⟨List.mem_of_getElem? (i := 765) (by decide +kernel), (List.mem_of_getElem? (i := 68) (by decide +kernel)), ⟨by decide +kernel, by decide +kernel⟩, by decide +kernel⟩
theorem im_X8_grow : Cond.instanceMethod yX8_grow ∈ lw_tbl := (List.mem_of_getElem? (i := 764) (by decide +kernel))
theorem se_X8_grow : Cond.selects RX8 yX8_grow yX8_grow ∈ lw_tbl := (List.mem_of_getElem? (i := 20) (by decide +kernel))
abbrev mX8_isLess : zM := (RX8, cX8_isLess, 5, (some .boolean), "isLess", 4, 88)
theorem cd_X8_isLess : zCd yX8_isLess mX8_isLess 2 := ⟨List.mem_of_getElem? (i := 745) (by decide +kernel), (List.mem_of_getElem? (i := 68) (by decide +kernel)), ⟨by decide +kernel, by decide +kernel⟩, by decide +kernel⟩
theorem im_X8_isLess : Cond.instanceMethod yX8_isLess ∈ lw_tbl := (List.mem_of_getElem? (i := 743) (by decide +kernel))
theorem se_X8_isLess : Cond.selects RX8 yX8_isLess yX8_isLess ∈ lw_tbl := (List.mem_of_getElem? (i := 744) (by decide +kernel))
abbrev mJ7_copyOf_c38d5 : zM := (RJ7, cJ7_copyOf_c38d5, 3, (some (.array .long)), "copyOf", 1, 64)
theorem cd_J7_copyOf_c38d5 : zCd yJ7_copyOf_c38d5 mJ7_copyOf_c38d5 2 := ⟨List.mem_of_getElem? (i := 774) (by decide +kernel), (List.mem_of_getElem? (i := 83) (by decide +kernel)), ⟨by decide +kernel, by decide +kernel⟩, by decide +kernel⟩
theorem st_J7_copyOf_c38d5 : Cond.static yJ7_copyOf_c38d5 ∈ lw_tbl := (List.mem_of_getElem? (i := 773) (by decide +kernel))
abbrev mX0_keep : zM := (RX0, cX0_keep, 4, none, "keep", 2, 86)
theorem cd_X0_keep : zCd yX0_keep mX0_keep 3 := ⟨List.mem_of_getElem? (i := 770) (by decide +kernel), (List.mem_of_getElem? (i := 66) (by decide +kernel)), ⟨by decide +kernel, by decide +kernel⟩, by decide +kernel⟩
theorem im_X0_keep : Cond.instanceMethod yX0_keep ∈ lw_tbl := (List.mem_of_getElem? (i := 769) (by decide +kernel))
theorem se_X0_keep : Cond.selects RX0 yX0_keep yX0_keep ∈ lw_tbl := (List.mem_of_getElem? (i := 21) (by decide +kernel))
abbrev mX0_offer : zM := (RX0, cX0_offer, 7, none, "offer", 5, 112)
theorem cd_X0_offer : zCd yX0_offer mX0_offer 4 := ⟨List.mem_of_getElem? (i := 724) (by decide +kernel), (List.mem_of_getElem? (i := 66) (by decide +kernel)), ⟨by decide +kernel, by decide +kernel⟩, by decide +kernel⟩
theorem im_X0_offer : Cond.instanceMethod yX0_offer ∈ lw_tbl := (List.mem_of_getElem? (i := 723) (by decide +kernel))
theorem se_X0_offer : Cond.selects RX0 yX0_offer yX0_offer ∈ lw_tbl := (List.mem_of_getElem? (i := 16) (by decide +kernel))
abbrev mX0_breathOf : zM := (RX0, cX0_breathOf, 2, (some .int), "breathOf", 1, 20)
theorem cd_X0_breathOf : zCd yX0_breathOf mX0_breathOf 1 := ⟨List.mem_of_getElem? (i := 792) (by decide +kernel), (List.mem_of_getElem? (i := 66) (by decide +kernel)), ⟨by decide +kernel, by decide +kernel⟩, by decide +kernel⟩
theorem st_X0_breathOf : Cond.static yX0_breathOf ∈ lw_tbl := (List.mem_of_getElem? (i := 791) (by decide +kernel))
abbrev mX0_packOf : zM := (RX0, cX0_packOf, 2, (some .int), "packOf", 1, 20)
theorem cd_X0_packOf : zCd yX0_packOf mX0_packOf 1 := ⟨List.mem_of_getElem? (i := 795) (by decide +kernel), (List.mem_of_getElem? (i := 66) (by decide +kernel)), ⟨by decide +kernel, by decide +kernel⟩, by decide +kernel⟩
theorem st_X0_packOf : Cond.static yX0_packOf ∈ lw_tbl := (List.mem_of_getElem? (i := 794) (by decide +kernel))
abbrev mX8_leastFor : zM := (RX8, cX8_leastFor, 4, (some .int), "leastFor", 3, 66)
theorem cd_X8_leastFor : zCd yX8_leastFor mX8_leastFor 1 := ⟨List.mem_of_getElem? (i := 799) (by decide +kernel), (List.mem_of_getElem? (i := 68) (by decide +kernel)), ⟨by decide +kernel, by decide +kernel⟩, by decide +kernel⟩
theorem im_X8_leastFor : Cond.instanceMethod yX8_leastFor ∈ lw_tbl := (List.mem_of_getElem? (i := 797) (by decide +kernel))
theorem se_X8_leastFor : Cond.selects RX8 yX8_leastFor yX8_leastFor ∈ lw_tbl := (List.mem_of_getElem? (i := 798) (by decide +kernel))
abbrev mX0_takeLater : zM := (RX0, cX0_takeLater, 7, (some .int), "takeLater", 4, 89)
theorem cd_X0_takeLater : zCd yX0_takeLater mX0_takeLater 1 := ⟨List.mem_of_getElem? (i := 789) (by decide +kernel), (List.mem_of_getElem? (i := 66) (by decide +kernel)), ⟨by decide +kernel, by decide +kernel⟩, by decide +kernel⟩
theorem im_X0_takeLater : Cond.instanceMethod yX0_takeLater ∈ lw_tbl := (List.mem_of_getElem? (i := 788) (by decide +kernel))
theorem se_X0_takeLater : Cond.selects RX0 yX0_takeLater yX0_takeLater ∈ lw_tbl := (List.mem_of_getElem? (i := 22) (by decide +kernel))
abbrev mX0_tuneOf : zM := (RX0, cX0_tuneOf, 2, (some .int), "tuneOf", 1, 20)
theorem cd_X0_tuneOf : zCd yX0_tuneOf mX0_tuneOf 1 := ⟨List.mem_of_getElem? (i := 807) (by decide +kernel), (List.mem_of_getElem? (i := 66) (by decide +kernel)), ⟨by decide +kernel, by decide +kernel⟩, by decide +kernel⟩
theorem st_X0_tuneOf : Cond.static yX0_tuneOf ∈ lw_tbl := (List.mem_of_getElem? (i := 806) (by decide +kernel))
abbrev mX4_behind : zM := (RX4, cX4_behind, 5, (some .int), "behind", 2, 41)
theorem cd_X4_behind : zCd yX4_behind mX4_behind 3 := ⟨List.mem_of_getElem? (i := 816) (by decide +kernel), (List.mem_of_getElem? (i := 67) (by decide +kernel)), ⟨by decide +kernel, by decide +kernel⟩, by decide +kernel⟩
theorem im_X4_behind : Cond.instanceMethod yX4_behind ∈ lw_tbl := (List.mem_of_getElem? (i := 814) (by decide +kernel))
theorem se_X4_behind : Cond.selects RX4 yX4_behind yX4_behind ∈ lw_tbl := (List.mem_of_getElem? (i := 815) (by decide +kernel))
abbrev mX0_packBehind : zM := (RX0, cX0_packBehind, 7, (some .int), "packBehind", 3, 65)
theorem cd_X0_packBehind : zCd yX0_packBehind mX0_packBehind 3 := ⟨List.mem_of_getElem? (i := 812) (by decide +kernel), (List.mem_of_getElem? (i := 66) (by decide +kernel)), ⟨by decide +kernel, by decide +kernel⟩, by decide +kernel⟩
theorem im_X0_packBehind : Cond.instanceMethod yX0_packBehind ∈ lw_tbl := (List.mem_of_getElem? (i := 811) (by decide +kernel))
theorem se_X0_packBehind : Cond.selects RX0 yX0_packBehind yX0_packBehind ∈ lw_tbl := (List.mem_of_getElem? (i := 24) (by decide +kernel))
abbrev mX0_whistleOn : zM := (RX0, cX0_whistleOn, 9, none, "whistleOn", 6, 138)
theorem cd_X0_whistleOn : zCd yX0_whistleOn mX0_whistleOn 4 := ⟨List.mem_of_getElem? (i := 804) (by decide +kernel), (List.mem_of_getElem? (i := 66) (by decide +kernel)), ⟨by decide +kernel, by decide +kernel⟩, by decide +kernel⟩
theorem im_X0_whistleOn : Cond.instanceMethod yX0_whistleOn ∈ lw_tbl := (List.mem_of_getElem? (i := 803) (by decide +kernel))
theorem se_X0_whistleOn : Cond.selects RX0 yX0_whistleOn yX0_whistleOn ∈ lw_tbl := (List.mem_of_getElem? (i := 23) (by decide +kernel))
abbrev mX0_seek : zM := (RX0, cX0_seek, 6, (some .boolean), "seek", 7, 166)
theorem cd_X0_seek : zCd yX0_seek mX0_seek 2 := ⟨List.mem_of_getElem? (i := 715) (by decide +kernel), (List.mem_of_getElem? (i := 66) (by decide +kernel)), ⟨by decide +kernel, by decide +kernel⟩, by decide +kernel⟩
theorem im_X0_seek : Cond.instanceMethod yX0_seek ∈ lw_tbl := (List.mem_of_getElem? (i := 713) (by decide +kernel))
theorem se_X0_seek : Cond.selects RX0 yX0_seek yX0_seek ∈ lw_tbl := (List.mem_of_getElem? (i := 714) (by decide +kernel))
abbrev mX0_leastBreathFound : zM := (RX0, cX0_leastBreathFound, 1, (some .int), "leastBreathFound", 1, 20)
theorem cd_X0_leastBreathFound : zCd yX0_leastBreathFound mX0_leastBreathFound 0 := ⟨List.mem_of_getElem? (i := 828) (by decide +kernel), (List.mem_of_getElem? (i := 66) (by decide +kernel)), ⟨by decide +kernel, by decide +kernel⟩, by decide +kernel⟩
theorem im_X0_leastBreathFound : Cond.instanceMethod yX0_leastBreathFound ∈ lw_tbl := (List.mem_of_getElem? (i := 826) (by decide +kernel))
theorem se_X0_leastBreathFound : Cond.selects RX0 yX0_leastBreathFound yX0_leastBreathFound ∈ lw_tbl := (List.mem_of_getElem? (i := 827) (by decide +kernel))
abbrev mX0_shortest : zM := (RX0, cX0_shortest, 2, (some .int), "shortest", 1, 20)
theorem cd_X0_shortest : zCd yX0_shortest mX0_shortest 1 := ⟨List.mem_of_getElem? (i := 820) (by decide +kernel), (List.mem_of_getElem? (i := 66) (by decide +kernel)), ⟨by decide +kernel, by decide +kernel⟩, by decide +kernel⟩
theorem im_X0_shortest : Cond.instanceMethod yX0_shortest ∈ lw_tbl := (List.mem_of_getElem? (i := 818) (by decide +kernel))
theorem se_X0_shortest : Cond.selects RX0 yX0_shortest yX0_shortest ∈ lw_tbl := (List.mem_of_getElem? (i := 819) (by decide +kernel))
abbrev mX5_init : zM := (RX5, cX5_init, 4, none, "<init>", 1, 20)
theorem cd_X5_init : zCd yX5_init mX5_init 3 := ⟨List.mem_of_getElem? (i := 321) (by decide +kernel), (List.mem_of_getElem? (i := 71) (by decide +kernel)), ⟨by decide +kernel, by decide +kernel⟩, by decide +kernel⟩
theorem im_X5_init : Cond.instanceMethod yX5_init ∈ lw_tbl := (List.mem_of_getElem? (i := 320) (by decide +kernel))
abbrev mX1_init : zM := (RX1, cX1_init, 4, none, "<init>", 2, 43)
theorem cd_X1_init : zCd yX1_init mX1_init 3 := ⟨List.mem_of_getElem? (i := 318) (by decide +kernel), (List.mem_of_getElem? (i := 72) (by decide +kernel)), ⟨by decide +kernel, by decide +kernel⟩, by decide +kernel⟩
theorem im_X1_init : Cond.instanceMethod yX1_init ∈ lw_tbl := (List.mem_of_getElem? (i := 317) (by decide +kernel))
abbrev mX2_init : zM := (RX2, cX2_init, 1, none, "<init>", 1, 20)
theorem cd_X2_init : zCd yX2_init mX2_init 0 := ⟨List.mem_of_getElem? (i := 97) (by decide +kernel), (List.mem_of_getElem? (i := 65) (by decide +kernel)), ⟨by decide +kernel, by decide +kernel⟩, by decide +kernel⟩
theorem im_X2_init : Cond.instanceMethod yX2_init ∈ lw_tbl := (List.mem_of_getElem? (i := 96) (by decide +kernel))
abbrev mX2_copy : zM := (RX2, cX2_copy, 3, (some (.object "OneWhistle$Hill")), "copy", 2, 40)
theorem cd_X2_copy : zCd yX2_copy mX2_copy 0 := ⟨List.mem_of_getElem? (i := 939) (by decide +kernel), (List.mem_of_getElem? (i := 65) (by decide +kernel)), ⟨by decide +kernel, by decide +kernel⟩, by decide +kernel⟩
theorem im_X2_copy : Cond.instanceMethod yX2_copy ∈ lw_tbl := (List.mem_of_getElem? (i := 937) (by decide +kernel))
theorem se_X2_copy : Cond.selects RX2 yX2_copy yX2_copy ∈ lw_tbl := (List.mem_of_getElem? (i := 938) (by decide +kernel))
abbrev mX2_settle : zM := (RX2, cX2_settle, 2, none, "settle", 1, 20)
theorem cd_X2_settle : zCd yX2_settle mX2_settle 1 := ⟨List.mem_of_getElem? (i := 291) (by decide +kernel), (List.mem_of_getElem? (i := 65) (by decide +kernel)), ⟨by decide +kernel, by decide +kernel⟩, by decide +kernel⟩
theorem im_X2_settle : Cond.instanceMethod yX2_settle ∈ lw_tbl := (List.mem_of_getElem? (i := 289) (by decide +kernel))
theorem se_X2_settle : Cond.selects RX2 yX2_settle yX2_settle ∈ lw_tbl := (List.mem_of_getElem? (i := 290) (by decide +kernel))
abbrev mX2_isPlace : zM := (RX2, cX2_isPlace, 2, (some .boolean), "isPlace", 1, 20)
theorem cd_X2_isPlace : zCd yX2_isPlace mX2_isPlace 1 := ⟨List.mem_of_getElem? (i := 409) (by decide +kernel), (List.mem_of_getElem? (i := 65) (by decide +kernel)), ⟨by decide +kernel, by decide +kernel⟩, by decide +kernel⟩
theorem im_X2_isPlace : Cond.instanceMethod yX2_isPlace ∈ lw_tbl := (List.mem_of_getElem? (i := 407) (by decide +kernel))
theorem se_X2_isPlace : Cond.selects RX2 yX2_isPlace yX2_isPlace ∈ lw_tbl := (List.mem_of_getElem? (i := 408) (by decide +kernel))
abbrev mX2_isRow : zM := (RX2, cX2_isRow, 3, (some .boolean), "isRow", 1, 20)
theorem cd_X2_isRow : zCd yX2_isRow mX2_isRow 1 := ⟨List.mem_of_getElem? (i := 302) (by decide +kernel), (List.mem_of_getElem? (i := 65) (by decide +kernel)), ⟨by decide +kernel, by decide +kernel⟩, by decide +kernel⟩
theorem im_X2_isRow : Cond.instanceMethod yX2_isRow ∈ lw_tbl := (List.mem_of_getElem? (i := 300) (by decide +kernel))
theorem se_X2_isRow : Cond.selects RX2 yX2_isRow yX2_isRow ∈ lw_tbl := (List.mem_of_getElem? (i := 301) (by decide +kernel))
abbrev mX2_isFull : zM := (RX2, cX2_isFull, 1, (some .boolean), "isFull", 1, 20)
theorem cd_X2_isFull : zCd yX2_isFull mX2_isFull 0 := ⟨List.mem_of_getElem? (i := 306) (by decide +kernel), (List.mem_of_getElem? (i := 65) (by decide +kernel)), ⟨by decide +kernel, by decide +kernel⟩, by decide +kernel⟩
theorem im_X2_isFull : Cond.instanceMethod yX2_isFull ∈ lw_tbl := (List.mem_of_getElem? (i := 304) (by decide +kernel))
theorem se_X2_isFull : Cond.selects RX2 yX2_isFull yX2_isFull ∈ lw_tbl := (List.mem_of_getElem? (i := 305) (by decide +kernel))
abbrev mX2_addDog : zM := (RX2, cX2_addDog, 2, (some .int), "addDog", 1, 20)
theorem cd_X2_addDog : zCd yX2_addDog mX2_addDog 1 := ⟨List.mem_of_getElem? (i := 357) (by decide +kernel), (List.mem_of_getElem? (i := 65) (by decide +kernel)), ⟨by decide +kernel, by decide +kernel⟩, by decide +kernel⟩
theorem im_X2_addDog : Cond.instanceMethod yX2_addDog ∈ lw_tbl := (List.mem_of_getElem? (i := 355) (by decide +kernel))
theorem se_X2_addDog : Cond.selects RX2 yX2_addDog yX2_addDog ∈ lw_tbl := (List.mem_of_getElem? (i := 356) (by decide +kernel))
abbrev mX11_areBits : zM := (RX11, cX11_areBits, 2, (some .boolean), "areBits", 1, 20)
theorem cd_X11_areBits : zCd yX11_areBits mX11_areBits 2 := ⟨List.mem_of_getElem? (i := 643) (by decide +kernel), (List.mem_of_getElem? (i := 64) (by decide +kernel)), ⟨by decide +kernel, by decide +kernel⟩, by decide +kernel⟩
theorem st_X11_areBits : Cond.static yX11_areBits ∈ lw_tbl := (List.mem_of_getElem? (i := 642) (by decide +kernel))
abbrev mX2_areDogs : zM := (RX2, cX2_areDogs, 2, (some .boolean), "areDogs", 2, 41)
theorem cd_X2_areDogs : zCd yX2_areDogs mX2_areDogs 1 := ⟨List.mem_of_getElem? (i := 665) (by decide +kernel), (List.mem_of_getElem? (i := 65) (by decide +kernel)), ⟨by decide +kernel, by decide +kernel⟩, by decide +kernel⟩
theorem im_X2_areDogs : Cond.instanceMethod yX2_areDogs ∈ lw_tbl := (List.mem_of_getElem? (i := 663) (by decide +kernel))
theorem se_X2_areDogs : Cond.selects RX2 yX2_areDogs yX2_areDogs ∈ lw_tbl := (List.mem_of_getElem? (i := 664) (by decide +kernel))
abbrev mX6_init : zM := (RX6, cX6_init, 7, none, "<init>", 2, 43)
theorem cd_X6_init : zCd yX6_init mX6_init 6 := ⟨List.mem_of_getElem? (i := 375) (by decide +kernel), (List.mem_of_getElem? (i := 74) (by decide +kernel)), ⟨by decide +kernel, by decide +kernel⟩, by decide +kernel⟩
theorem im_X6_init : Cond.instanceMethod yX6_init ∈ lw_tbl := (List.mem_of_getElem? (i := 374) (by decide +kernel))
abbrev mX3_init : zM := (RX3, cX3_init, 7, none, "<init>", 3, 69)
theorem cd_X3_init : zCd yX3_init mX3_init 6 := ⟨List.mem_of_getElem? (i := 372) (by decide +kernel), (List.mem_of_getElem? (i := 75) (by decide +kernel)), ⟨by decide +kernel, by decide +kernel⟩, by decide +kernel⟩
theorem im_X3_init : Cond.instanceMethod yX3_init ∈ lw_tbl := (List.mem_of_getElem? (i := 371) (by decide +kernel))
abbrev mJ7_fill_53178 : zM := (RJ7, cJ7_fill_53178, 4, none, "fill", 1, 20)
theorem cd_J7_fill_53178 : zCd yJ7_fill_53178 mJ7_fill_53178 2 := ⟨List.mem_of_getElem? (i := 841) (by decide +kernel), (List.mem_of_getElem? (i := 83) (by decide +kernel)), ⟨by decide +kernel, by decide +kernel⟩, by decide +kernel⟩
theorem st_J7_fill_53178 : Cond.static yJ7_fill_53178 ∈ lw_tbl := (List.mem_of_getElem? (i := 840) (by decide +kernel))
abbrev mX4_growMeetings : zM := (RX4, cX4_growMeetings, 6, (some .boolean), "growMeetings", 3, 65)
theorem cd_X4_growMeetings : zCd yX4_growMeetings mX4_growMeetings 0 := ⟨List.mem_of_getElem? (i := 845) (by decide +kernel), (List.mem_of_getElem? (i := 67) (by decide +kernel)), ⟨by decide +kernel, by decide +kernel⟩, by decide +kernel⟩
theorem im_X4_growMeetings : Cond.instanceMethod yX4_growMeetings ∈ lw_tbl := (List.mem_of_getElem? (i := 844) (by decide +kernel))
theorem se_X4_growMeetings : Cond.selects RX4 yX4_growMeetings yX4_growMeetings ∈ lw_tbl := (List.mem_of_getElem? (i := 25) (by decide +kernel))
abbrev mX4_findMeetings : zM := (RX4, cX4_findMeetings, 4, none, "findMeetings", 4, 90)
theorem cd_X4_findMeetings : zCd yX4_findMeetings mX4_findMeetings 0 := ⟨List.mem_of_getElem? (i := 837) (by decide +kernel), (List.mem_of_getElem? (i := 67) (by decide +kernel)), ⟨by decide +kernel, by decide +kernel⟩, by decide +kernel⟩
theorem im_X4_findMeetings : Cond.instanceMethod yX4_findMeetings ∈ lw_tbl := (List.mem_of_getElem? (i := 835) (by decide +kernel))
theorem se_X4_findMeetings : Cond.selects RX4 yX4_findMeetings yX4_findMeetings ∈ lw_tbl := (List.mem_of_getElem? (i := 836) (by decide +kernel))
abbrev mX4_canMeet : zM := (RX4, cX4_canMeet, 3, (some .boolean), "canMeet", 2, 41)
theorem cd_X4_canMeet : zCd yX4_canMeet mX4_canMeet 2 := ⟨List.mem_of_getElem? (i := 851) (by decide +kernel), (List.mem_of_getElem? (i := 67) (by decide +kernel)), ⟨by decide +kernel, by decide +kernel⟩, by decide +kernel⟩
theorem im_X4_canMeet : Cond.instanceMethod yX4_canMeet ∈ lw_tbl := (List.mem_of_getElem? (i := 849) (by decide +kernel))
theorem se_X4_canMeet : Cond.selects RX4 yX4_canMeet yX4_canMeet ∈ lw_tbl := (List.mem_of_getElem? (i := 850) (by decide +kernel))
abbrev mX5_behind : zM := (RX5, cX5_behind, 7, (some .int), "behind", 4, 92)
theorem cd_X5_behind : zCd yX5_behind mX5_behind 4 := ⟨List.mem_of_getElem? (i := 652) (by decide +kernel), (List.mem_of_getElem? (i := 71) (by decide +kernel)), ⟨by decide +kernel, by decide +kernel⟩, by decide +kernel⟩
theorem im_X5_behind : Cond.instanceMethod yX5_behind ∈ lw_tbl := (List.mem_of_getElem? (i := 645) (by decide +kernel))
theorem se_X5_behind : Cond.selects RX5 yX5_behind yX5_behind ∈ lw_tbl := (List.mem_of_getElem? (i := 646) (by decide +kernel))
abbrev mX5_withRows : zM := (RX5, cX5_withRows, 5, (some .long), "withRows", 1, 20)
theorem cd_X5_withRows : zCd yX5_withRows mX5_withRows 1 := ⟨List.mem_of_getElem? (i := 974) (by decide +kernel), (List.mem_of_getElem? (i := 71) (by decide +kernel)), ⟨by decide +kernel, by decide +kernel⟩, by decide +kernel⟩
theorem im_X5_withRows : Cond.instanceMethod yX5_withRows ∈ lw_tbl := (List.mem_of_getElem? (i := 973) (by decide +kernel))
theorem se_X5_withRows : Cond.selects RX5 yX5_withRows yX5_withRows ∈ lw_tbl := (List.mem_of_getElem? (i := 1320) (by decide +kernel))
abbrev mX5_withLearnt : zM := (RX5, cX5_withLearnt, 7, (some .long), "withLearnt", 1, 20)
theorem cd_X5_withLearnt : zCd yX5_withLearnt mX5_withLearnt 4 := ⟨List.mem_of_getElem? (i := 979) (by decide +kernel), (List.mem_of_getElem? (i := 71) (by decide +kernel)), ⟨by decide +kernel, by decide +kernel⟩, by decide +kernel⟩
theorem st_X5_withLearnt : Cond.static yX5_withLearnt ∈ lw_tbl := (List.mem_of_getElem? (i := 978) (by decide +kernel))
abbrev mX5_digested : zM := (RX5, cX5_digested, 3, (some .long), "digested", 2, 46)
theorem cd_X5_digested : zCd yX5_digested mX5_digested 1 := ⟨List.mem_of_getElem? (i := 982) (by decide +kernel), (List.mem_of_getElem? (i := 71) (by decide +kernel)), ⟨by decide +kernel, by decide +kernel⟩, by decide +kernel⟩
theorem im_X5_digested : Cond.instanceMethod yX5_digested ∈ lw_tbl := (List.mem_of_getElem? (i := 961) (by decide +kernel))
theorem se_X5_digested : Cond.selects RX5 yX5_digested yX5_digested ∈ lw_tbl := (List.mem_of_getElem? (i := 962) (by decide +kernel))
abbrev mX6_digested : zM := (RX6, cX6_digested, 3, (some .long), "digested", 2, 46)
theorem cd_X6_digested : zCd yX6_digested mX6_digested 1 := ⟨List.mem_of_getElem? (i := 967) (by decide +kernel), (List.mem_of_getElem? (i := 74) (by decide +kernel)), ⟨by decide +kernel, by decide +kernel⟩, by decide +kernel⟩
theorem im_X6_digested : Cond.instanceMethod yX6_digested ∈ lw_tbl := (List.mem_of_getElem? (i := 966) (by decide +kernel))
abbrev mX7_init : zM := (RX7, cX7_init, 3, none, "<init>", 2, 40)
theorem cd_X7_init : zCd yX7_init mX7_init 2 := ⟨List.mem_of_getElem? (i := 445) (by decide +kernel), (List.mem_of_getElem? (i := 76) (by decide +kernel)), ⟨by decide +kernel, by decide +kernel⟩, by decide +kernel⟩
theorem im_X7_init : Cond.instanceMethod yX7_init ∈ lw_tbl := (List.mem_of_getElem? (i := 444) (by decide +kernel))
abbrev mX7_byteAt : zM := (RX7, cX7_byteAt, 2, (some .int), "byteAt", 1, 20)
theorem cd_X7_byteAt : zCd yX7_byteAt mX7_byteAt 1 := ⟨List.mem_of_getElem? (i := 484) (by decide +kernel), (List.mem_of_getElem? (i := 76) (by decide +kernel)), ⟨by decide +kernel, by decide +kernel⟩, by decide +kernel⟩
theorem im_X7_byteAt : Cond.instanceMethod yX7_byteAt ∈ lw_tbl := (List.mem_of_getElem? (i := 483) (by decide +kernel))
theorem se_X7_byteAt : Cond.selects RX7 yX7_byteAt yX7_byteAt ∈ lw_tbl := (List.mem_of_getElem? (i := 5) (by decide +kernel))
abbrev mX7_kindOf : zM := (RX7, cX7_kindOf, 1, (some .int), "kindOf", 1, 20)
theorem cd_X7_kindOf : zCd yX7_kindOf mX7_kindOf 1 := ⟨List.mem_of_getElem? (i := 487) (by decide +kernel), (List.mem_of_getElem? (i := 76) (by decide +kernel)), ⟨by decide +kernel, by decide +kernel⟩, by decide +kernel⟩
theorem st_X7_kindOf : Cond.static yX7_kindOf ∈ lw_tbl := (List.mem_of_getElem? (i := 486) (by decide +kernel))
abbrev mX7_advance : zM := (RX7, cX7_advance, 1, none, "advance", 2, 41)
theorem cd_X7_advance : zCd yX7_advance mX7_advance 0 := ⟨List.mem_of_getElem? (i := 480) (by decide +kernel), (List.mem_of_getElem? (i := 76) (by decide +kernel)), ⟨by decide +kernel, by decide +kernel⟩, by decide +kernel⟩
theorem im_X7_advance : Cond.instanceMethod yX7_advance ∈ lw_tbl := (List.mem_of_getElem? (i := 479) (by decide +kernel))
theorem se_X7_advance : Cond.selects RX7 yX7_advance yX7_advance ∈ lw_tbl := (List.mem_of_getElem? (i := 4) (by decide +kernel))
abbrev mX7_isWord : zM := (RX7, cX7_isWord, 3, (some .boolean), "isWord", 4, 85)
theorem cd_X7_isWord : zCd yX7_isWord mX7_isWord 1 := ⟨List.mem_of_getElem? (i := 492) (by decide +kernel), (List.mem_of_getElem? (i := 76) (by decide +kernel)), ⟨by decide +kernel, by decide +kernel⟩, by decide +kernel⟩
theorem im_X7_isWord : Cond.instanceMethod yX7_isWord ∈ lw_tbl := (List.mem_of_getElem? (i := 491) (by decide +kernel))
theorem se_X7_isWord : Cond.selects RX7 yX7_isWord yX7_isWord ∈ lw_tbl := (List.mem_of_getElem? (i := 6) (by decide +kernel))
abbrev mX7_fail : zM := (RX7, cX7_fail, 1, none, "fail", 1, 20)
theorem cd_X7_fail : zCd yX7_fail mX7_fail 0 := ⟨List.mem_of_getElem? (i := 544) (by decide +kernel), (List.mem_of_getElem? (i := 76) (by decide +kernel)), ⟨by decide +kernel, by decide +kernel⟩, by decide +kernel⟩
theorem im_X7_fail : Cond.instanceMethod yX7_fail ∈ lw_tbl := (List.mem_of_getElem? (i := 543) (by decide +kernel))
theorem se_X7_fail : Cond.selects RX7 yX7_fail yX7_fail ∈ lw_tbl := (List.mem_of_getElem? (i := 7) (by decide +kernel))
abbrev mX7_takeNumber : zM := (RX7, cX7_takeNumber, 4, (some .int), "takeNumber", 3, 61)
theorem cd_X7_takeNumber : zCd yX7_takeNumber mX7_takeNumber 2 := ⟨List.mem_of_getElem? (i := 548) (by decide +kernel), (List.mem_of_getElem? (i := 76) (by decide +kernel)), ⟨by decide +kernel, by decide +kernel⟩, by decide +kernel⟩
theorem im_X7_takeNumber : Cond.instanceMethod yX7_takeNumber ∈ lw_tbl := (List.mem_of_getElem? (i := 547) (by decide +kernel))
theorem se_X7_takeNumber : Cond.selects RX7 yX7_takeNumber yX7_takeNumber ∈ lw_tbl := (List.mem_of_getElem? (i := 8) (by decide +kernel))
abbrev mX7_takeMark : zM := (RX7, cX7_takeMark, 1, none, "takeMark", 3, 61)
theorem cd_X7_takeMark : zCd yX7_takeMark mX7_takeMark 0 := ⟨List.mem_of_getElem? (i := 552) (by decide +kernel), (List.mem_of_getElem? (i := 76) (by decide +kernel)), ⟨by decide +kernel, by decide +kernel⟩, by decide +kernel⟩
theorem im_X7_takeMark : Cond.instanceMethod yX7_takeMark ∈ lw_tbl := (List.mem_of_getElem? (i := 551) (by decide +kernel))
theorem se_X7_takeMark : Cond.selects RX7 yX7_takeMark yX7_takeMark ∈ lw_tbl := (List.mem_of_getElem? (i := 9) (by decide +kernel))
abbrev mX7_takePlaceBit : zM := (RX7, cX7_takePlaceBit, 1, (some .int), "takePlaceBit", 4, 84)
theorem cd_X7_takePlaceBit : zCd yX7_takePlaceBit mX7_takePlaceBit 0 := ⟨List.mem_of_getElem? (i := 562) (by decide +kernel), (List.mem_of_getElem? (i := 76) (by decide +kernel)), ⟨by decide +kernel, by decide +kernel⟩, by decide +kernel⟩
theorem im_X7_takePlaceBit : Cond.instanceMethod yX7_takePlaceBit ∈ lw_tbl := (List.mem_of_getElem? (i := 561) (by decide +kernel))
theorem se_X7_takePlaceBit : Cond.selects RX7 yX7_takePlaceBit yX7_takePlaceBit ∈ lw_tbl := (List.mem_of_getElem? (i := 11) (by decide +kernel))
abbrev mX7_readBreath : zM := (RX7, cX7_readBreath, 3, none, "readBreath", 4, 84)
theorem cd_X7_readBreath : zCd yX7_readBreath mX7_readBreath 0 := ⟨List.mem_of_getElem? (i := 569) (by decide +kernel), (List.mem_of_getElem? (i := 76) (by decide +kernel)), ⟨by decide +kernel, by decide +kernel⟩, by decide +kernel⟩
theorem im_X7_readBreath : Cond.instanceMethod yX7_readBreath ∈ lw_tbl := (List.mem_of_getElem? (i := 568) (by decide +kernel))
theorem se_X7_readBreath : Cond.selects RX7 yX7_readBreath yX7_readBreath ∈ lw_tbl := (List.mem_of_getElem? (i := 12) (by decide +kernel))
abbrev mX7_takeRow : zM := (RX7, cX7_takeRow, 4, (some .int), "takeRow", 3, 61)
theorem cd_X7_takeRow : zCd yX7_takeRow mX7_takeRow 0 := ⟨List.mem_of_getElem? (i := 579) (by decide +kernel), (List.mem_of_getElem? (i := 76) (by decide +kernel)), ⟨by decide +kernel, by decide +kernel⟩, by decide +kernel⟩
theorem im_X7_takeRow : Cond.instanceMethod yX7_takeRow ∈ lw_tbl := (List.mem_of_getElem? (i := 578) (by decide +kernel))
theorem se_X7_takeRow : Cond.selects RX7 yX7_takeRow yX7_takeRow ∈ lw_tbl := (List.mem_of_getElem? (i := 14) (by decide +kernel))
abbrev mX11_isRowsKind : zM := (RX11, cX11_isRowsKind, 1, (some .boolean), "isRowsKind", 1, 20)
theorem cd_X11_isRowsKind : zCd yX11_isRowsKind mX11_isRowsKind 1 := ⟨List.mem_of_getElem? (i := 298) (by decide +kernel), (List.mem_of_getElem? (i := 64) (by decide +kernel)), ⟨by decide +kernel, by decide +kernel⟩, by decide +kernel⟩
theorem st_X11_isRowsKind : Cond.static yX11_isRowsKind ∈ lw_tbl := (List.mem_of_getElem? (i := 297) (by decide +kernel))
abbrev mX9_init : zM := (RX9, cX9_init, 4, none, "<init>", 3, 66)
theorem cd_X9_init : zCd yX9_init mX9_init 3 := ⟨List.mem_of_getElem? (i := 341) (by decide +kernel), (List.mem_of_getElem? (i := 73) (by decide +kernel)), ⟨by decide +kernel, by decide +kernel⟩, by decide +kernel⟩
theorem im_X9_init : Cond.instanceMethod yX9_init ∈ lw_tbl := (List.mem_of_getElem? (i := 340) (by decide +kernel))
abbrev mX11_bred : zM := (RX11, cX11_bred, 3, (some (.object "OneWhistle$Plain")), "bred", 4, 89)
theorem cd_X11_bred : zCd yX11_bred mX11_bred 3 := ⟨List.mem_of_getElem? (i := 313) (by decide +kernel), (List.mem_of_getElem? (i := 64) (by decide +kernel)), ⟨by decide +kernel, by decide +kernel⟩, by decide +kernel⟩
theorem st_X11_bred : Cond.static yX11_bred ∈ lw_tbl := (List.mem_of_getElem? (i := 312) (by decide +kernel))
abbrev mX11_bredLearning : zM := (RX11, cX11_bredLearning, 6, (some (.object "OneWhistle$Plain")), "bredLearning", 4, 95)
theorem cd_X11_bredLearning : zCd yX11_bredLearning mX11_bredLearning 6 := ⟨List.mem_of_getElem? (i := 367) (by decide +kernel), (List.mem_of_getElem? (i := 64) (by decide +kernel)), ⟨by decide +kernel, by decide +kernel⟩, by decide +kernel⟩
theorem st_X11_bredLearning : Cond.static yX11_bredLearning ∈ lw_tbl := (List.mem_of_getElem? (i := 366) (by decide +kernel))
abbrev mX7_readDog : zM := (RX7, cX7_readDog, 7, none, "readDog", 5, 120)
theorem cd_X7_readDog : zCd yX7_readDog mX7_readDog 0 := ⟨List.mem_of_getElem? (i := 575) (by decide +kernel), (List.mem_of_getElem? (i := 76) (by decide +kernel)), ⟨by decide +kernel, by decide +kernel⟩, by decide +kernel⟩
theorem im_X7_readDog : Cond.instanceMethod yX7_readDog ∈ lw_tbl := (List.mem_of_getElem? (i := 574) (by decide +kernel))
theorem se_X7_readDog : Cond.selects RX7 yX7_readDog yX7_readDog ∈ lw_tbl := (List.mem_of_getElem? (i := 13) (by decide +kernel))
abbrev mX7_readItem : zM := (RX7, cX7_readItem, 1, none, "readItem", 6, 146)
theorem cd_X7_readItem : zCd yX7_readItem mX7_readItem 0 := ⟨List.mem_of_getElem? (i := 557) (by decide +kernel), (List.mem_of_getElem? (i := 76) (by decide +kernel)), ⟨by decide +kernel, by decide +kernel⟩, by decide +kernel⟩
theorem im_X7_readItem : Cond.instanceMethod yX7_readItem ∈ lw_tbl := (List.mem_of_getElem? (i := 556) (by decide +kernel))
theorem se_X7_readItem : Cond.selects RX7 yX7_readItem yX7_readItem ∈ lw_tbl := (List.mem_of_getElem? (i := 10) (by decide +kernel))
abbrev mX7_readHill : zM := (RX7, cX7_readHill, 3, none, "readHill", 7, 166)
theorem cd_X7_readHill : zCd yX7_readHill mX7_readHill 0 := ⟨List.mem_of_getElem? (i := 476) (by decide +kernel), (List.mem_of_getElem? (i := 76) (by decide +kernel)), ⟨by decide +kernel, by decide +kernel⟩, by decide +kernel⟩
theorem im_X7_readHill : Cond.instanceMethod yX7_readHill ∈ lw_tbl := (List.mem_of_getElem? (i := 474) (by decide +kernel))
theorem se_X7_readHill : Cond.selects RX7 yX7_readHill yX7_readHill ∈ lw_tbl := (List.mem_of_getElem? (i := 475) (by decide +kernel))
abbrev mX10_init : zM := (RX10, cX10_init, 1, none, "<init>", 1, 20)
theorem cd_X10_init : zCd yX10_init mX10_init 0 := ⟨List.mem_of_getElem? (i := 228) (by decide +kernel), (List.mem_of_getElem? (i := 69) (by decide +kernel)), ⟨by decide +kernel, by decide +kernel⟩, by decide +kernel⟩
theorem im_X10_init : Cond.instanceMethod yX10_init ∈ lw_tbl := (List.mem_of_getElem? (i := 227) (by decide +kernel))
abbrev mX10_fewestFor : zM := (RX10, cX10_fewestFor, 4, (some .int), "fewestFor", 1, 20)
theorem cd_X10_fewestFor : zCd yX10_fewestFor mX10_fewestFor 2 := ⟨List.mem_of_getElem? (i := 878) (by decide +kernel), (List.mem_of_getElem? (i := 69) (by decide +kernel)), ⟨by decide +kernel, by decide +kernel⟩, by decide +kernel⟩
theorem im_X10_fewestFor : Cond.instanceMethod yX10_fewestFor ∈ lw_tbl := (List.mem_of_getElem? (i := 876) (by decide +kernel))
theorem se_X10_fewestFor : Cond.selects RX10 yX10_fewestFor yX10_fewestFor ∈ lw_tbl := (List.mem_of_getElem? (i := 877) (by decide +kernel))
abbrev mX10_neededBy : zM := (RX10, cX10_neededBy, 7, (some .int), "neededBy", 3, 65)
theorem cd_X10_neededBy : zCd yX10_neededBy mX10_neededBy 4 := ⟨List.mem_of_getElem? (i := 873) (by decide +kernel), (List.mem_of_getElem? (i := 69) (by decide +kernel)), ⟨by decide +kernel, by decide +kernel⟩, by decide +kernel⟩
theorem im_X10_neededBy : Cond.instanceMethod yX10_neededBy ∈ lw_tbl := (List.mem_of_getElem? (i := 872) (by decide +kernel))
theorem se_X10_neededBy : Cond.selects RX10 yX10_neededBy yX10_neededBy ∈ lw_tbl := (List.mem_of_getElem? (i := 26) (by decide +kernel))
abbrev mX10_weigh : zM := (RX10, cX10_weigh, 7, none, "weigh", 4, 91)
theorem cd_X10_weigh : zCd yX10_weigh mX10_weigh 3 := ⟨List.mem_of_getElem? (i := 868) (by decide +kernel), (List.mem_of_getElem? (i := 69) (by decide +kernel)), ⟨by decide +kernel, by decide +kernel⟩, by decide +kernel⟩
theorem im_X10_weigh : Cond.instanceMethod yX10_weigh ∈ lw_tbl := (List.mem_of_getElem? (i := 866) (by decide +kernel))
theorem se_X10_weigh : Cond.selects RX10 yX10_weigh yX10_weigh ∈ lw_tbl := (List.mem_of_getElem? (i := 867) (by decide +kernel))
abbrev mX10_firstWhistle : zM := (RX10, cX10_firstWhistle, 3, (some .int), "firstWhistle", 4, 91)
theorem cd_X10_firstWhistle : zCd yX10_firstWhistle mX10_firstWhistle 2 := ⟨List.mem_of_getElem? (i := 886) (by decide +kernel), (List.mem_of_getElem? (i := 69) (by decide +kernel)), ⟨by decide +kernel, by decide +kernel⟩, by decide +kernel⟩
theorem im_X10_firstWhistle : Cond.instanceMethod yX10_firstWhistle ∈ lw_tbl := (List.mem_of_getElem? (i := 884) (by decide +kernel))
theorem se_X10_firstWhistle : Cond.selects RX10 yX10_firstWhistle yX10_firstWhistle ∈ lw_tbl := (List.mem_of_getElem? (i := 885) (by decide +kernel))
abbrev mX11_init : zM := (RX11, cX11_init, 1, none, "<init>", 3, 60)
theorem cd_X11_init : zCd yX11_init mX11_init 0 := ⟨List.mem_of_getElem? (i := 89) (by decide +kernel), (List.mem_of_getElem? (i := 64) (by decide +kernel)), ⟨by decide +kernel, by decide +kernel⟩, by decide +kernel⟩
theorem im_X11_init : Cond.instanceMethod yX11_init ∈ lw_tbl := (List.mem_of_getElem? (i := 88) (by decide +kernel))
abbrev mX11_refusedBad : zM := (RX11, cX11_refusedBad, 2, (some .int), "refusedBad", 1, 20)
theorem cd_X11_refusedBad : zCd yX11_refusedBad mX11_refusedBad 1 := ⟨List.mem_of_getElem? (i := 287) (by decide +kernel), (List.mem_of_getElem? (i := 64) (by decide +kernel)), ⟨by decide +kernel, by decide +kernel⟩, by decide +kernel⟩
theorem im_X11_refusedBad : Cond.instanceMethod yX11_refusedBad ∈ lw_tbl := (List.mem_of_getElem? (i := 286) (by decide +kernel))
theorem se_X11_refusedBad : Cond.selects RX11 yX11_refusedBad yX11_refusedBad ∈ lw_tbl := (List.mem_of_getElem? (i := 0) (by decide +kernel))
abbrev mX11_places : zM := (RX11, cX11_places, 3, (some .int), "places", 2, 41)
theorem cd_X11_places : zCd yX11_places mX11_places 1 := ⟨List.mem_of_getElem? (i := 283) (by decide +kernel), (List.mem_of_getElem? (i := 64) (by decide +kernel)), ⟨by decide +kernel, by decide +kernel⟩, by decide +kernel⟩
theorem im_X11_places : Cond.instanceMethod yX11_places ∈ lw_tbl := (List.mem_of_getElem? (i := 281) (by decide +kernel))
theorem se_X11_places : Cond.selects RX11 yX11_places yX11_places ∈ lw_tbl := (List.mem_of_getElem? (i := 282) (by decide +kernel))
abbrev mX11_refusedFull : zM := (RX11, cX11_refusedFull, 1, (some .int), "refusedFull", 1, 20)
theorem cd_X11_refusedFull : zCd yX11_refusedFull mX11_refusedFull 0 := ⟨List.mem_of_getElem? (i := 310) (by decide +kernel), (List.mem_of_getElem? (i := 64) (by decide +kernel)), ⟨by decide +kernel, by decide +kernel⟩, by decide +kernel⟩
theorem im_X11_refusedFull : Cond.instanceMethod yX11_refusedFull ∈ lw_tbl := (List.mem_of_getElem? (i := 309) (by decide +kernel))
theorem se_X11_refusedFull : Cond.selects RX11 yX11_refusedFull yX11_refusedFull ∈ lw_tbl := (List.mem_of_getElem? (i := 1) (by decide +kernel))
abbrev mX11_dog : zM := (RX11, cX11_dog, 4, (some .int), "dog", 5, 111)
theorem cd_X11_dog : zCd yX11_dog mX11_dog 3 := ⟨List.mem_of_getElem? (i := 295) (by decide +kernel), (List.mem_of_getElem? (i := 64) (by decide +kernel)), ⟨by decide +kernel, by decide +kernel⟩, by decide +kernel⟩
theorem im_X11_dog : Cond.instanceMethod yX11_dog ∈ lw_tbl := (List.mem_of_getElem? (i := 293) (by decide +kernel))
theorem se_X11_dog : Cond.selects RX11 yX11_dog yX11_dog ∈ lw_tbl := (List.mem_of_getElem? (i := 294) (by decide +kernel))
abbrev mX11_isLearningKind : zM := (RX11, cX11_isLearningKind, 1, (some .boolean), "isLearningKind", 1, 20)
theorem cd_X11_isLearningKind : zCd yX11_isLearningKind mX11_isLearningKind 1 := ⟨List.mem_of_getElem? (i := 364) (by decide +kernel), (List.mem_of_getElem? (i := 64) (by decide +kernel)), ⟨by decide +kernel, by decide +kernel⟩, by decide +kernel⟩
theorem st_X11_isLearningKind : Cond.static yX11_isLearningKind ∈ lw_tbl := (List.mem_of_getElem? (i := 363) (by decide +kernel))
abbrev mX11_pup : zM := (RX11, cX11_pup, 7, (some .int), "pup", 5, 120)
theorem cd_X11_pup : zCd yX11_pup mX11_pup 6 := ⟨List.mem_of_getElem? (i := 361) (by decide +kernel), (List.mem_of_getElem? (i := 64) (by decide +kernel)), ⟨by decide +kernel, by decide +kernel⟩, by decide +kernel⟩
theorem im_X11_pup : Cond.instanceMethod yX11_pup ∈ lw_tbl := (List.mem_of_getElem? (i := 359) (by decide +kernel))
theorem se_X11_pup : Cond.selects RX11 yX11_pup yX11_pup ∈ lw_tbl := (List.mem_of_getElem? (i := 360) (by decide +kernel))
abbrev mX11_refusedNo : zM := (RX11, cX11_refusedNo, 1, (some .int), "refusedNo", 1, 20)
theorem cd_X11_refusedNo : zCd yX11_refusedNo mX11_refusedNo 0 := ⟨List.mem_of_getElem? (i := 416) (by decide +kernel), (List.mem_of_getElem? (i := 64) (by decide +kernel)), ⟨by decide +kernel, by decide +kernel⟩, by decide +kernel⟩
theorem im_X11_refusedNo : Cond.instanceMethod yX11_refusedNo ∈ lw_tbl := (List.mem_of_getElem? (i := 415) (by decide +kernel))
theorem se_X11_refusedNo : Cond.selects RX11 yX11_refusedNo yX11_refusedNo ∈ lw_tbl := (List.mem_of_getElem? (i := 2) (by decide +kernel))
abbrev mX11_shut : zM := (RX11, cX11_shut, 3, (some .int), "shut", 2, 41)
theorem cd_X11_shut : zCd yX11_shut mX11_shut 2 := ⟨List.mem_of_getElem? (i := 405) (by decide +kernel), (List.mem_of_getElem? (i := 64) (by decide +kernel)), ⟨by decide +kernel, by decide +kernel⟩, by decide +kernel⟩
theorem im_X11_shut : Cond.instanceMethod yX11_shut ∈ lw_tbl := (List.mem_of_getElem? (i := 403) (by decide +kernel))
theorem se_X11_shut : Cond.selects RX11 yX11_shut yX11_shut ∈ lw_tbl := (List.mem_of_getElem? (i := 404) (by decide +kernel))
abbrev mX11_canPut : zM := (RX11, cX11_canPut, 3, (some .boolean), "canPut", 2, 41)
theorem cd_X11_canPut : zCd yX11_canPut mX11_canPut 2 := ⟨List.mem_of_getElem? (i := 424) (by decide +kernel), (List.mem_of_getElem? (i := 64) (by decide +kernel)), ⟨by decide +kernel, by decide +kernel⟩, by decide +kernel⟩
theorem im_X11_canPut : Cond.instanceMethod yX11_canPut ∈ lw_tbl := (List.mem_of_getElem? (i := 423) (by decide +kernel))
theorem se_X11_canPut : Cond.selects RX11 yX11_canPut yX11_canPut ∈ lw_tbl := (List.mem_of_getElem? (i := 3) (by decide +kernel))
abbrev mX11_put : zM := (RX11, cX11_put, 4, (some .int), "put", 3, 63)
theorem cd_X11_put : zCd yX11_put mX11_put 2 := ⟨List.mem_of_getElem? (i := 420) (by decide +kernel), (List.mem_of_getElem? (i := 64) (by decide +kernel)), ⟨by decide +kernel, by decide +kernel⟩, by decide +kernel⟩
theorem im_X11_put : Cond.instanceMethod yX11_put ∈ lw_tbl := (List.mem_of_getElem? (i := 418) (by decide +kernel))
theorem se_X11_put : Cond.selects RX11 yX11_put yX11_put ∈ lw_tbl := (List.mem_of_getElem? (i := 419) (by decide +kernel))
abbrev mX11_type : zM := (RX11, cX11_type, 5, (some .int), "type", 2, 41)
theorem cd_X11_type : zCd yX11_type mX11_type 2 := ⟨List.mem_of_getElem? (i := 432) (by decide +kernel), (List.mem_of_getElem? (i := 64) (by decide +kernel)), ⟨by decide +kernel, by decide +kernel⟩, by decide +kernel⟩
theorem im_X11_type : Cond.instanceMethod yX11_type ∈ lw_tbl := (List.mem_of_getElem? (i := 430) (by decide +kernel))
theorem se_X11_type : Cond.selects RX11 yX11_type yX11_type ∈ lw_tbl := (List.mem_of_getElem? (i := 431) (by decide +kernel))
abbrev mX11_clear : zM := (RX11, cX11_clear, 2, (some .int), "clear", 1, 20)
theorem cd_X11_clear : zCd yX11_clear mX11_clear 0 := ⟨List.mem_of_getElem? (i := 436) (by decide +kernel), (List.mem_of_getElem? (i := 64) (by decide +kernel)), ⟨by decide +kernel, by decide +kernel⟩, by decide +kernel⟩
theorem im_X11_clear : Cond.instanceMethod yX11_clear ∈ lw_tbl := (List.mem_of_getElem? (i := 434) (by decide +kernel))
theorem se_X11_clear : Cond.selects RX11 yX11_clear yX11_clear ∈ lw_tbl := (List.mem_of_getElem? (i := 435) (by decide +kernel))
abbrev mX11_read : zM := (RX11, cX11_read, 2, (some .int), "read", 8, 188)
theorem cd_X11_read : zCd yX11_read mX11_read 0 := ⟨List.mem_of_getElem? (i := 440) (by decide +kernel), (List.mem_of_getElem? (i := 64) (by decide +kernel)), ⟨by decide +kernel, by decide +kernel⟩, by decide +kernel⟩
theorem im_X11_read : Cond.instanceMethod yX11_read ∈ lw_tbl := (List.mem_of_getElem? (i := 438) (by decide +kernel))
theorem se_X11_read : Cond.selects RX11 yX11_read yX11_read ∈ lw_tbl := (List.mem_of_getElem? (i := 439) (by decide +kernel))
abbrev mX11_goes : zM := (RX11, cX11_goes, 6, (some .int), "goes", 4, 92)
theorem cd_X11_goes : zCd yX11_goes mX11_goes 4 := ⟨List.mem_of_getElem? (i := 588) (by decide +kernel), (List.mem_of_getElem? (i := 64) (by decide +kernel)), ⟨by decide +kernel, by decide +kernel⟩, by decide +kernel⟩
theorem im_X11_goes : Cond.instanceMethod yX11_goes ∈ lw_tbl := (List.mem_of_getElem? (i := 586) (by decide +kernel))
theorem se_X11_goes : Cond.selects RX11 yX11_goes yX11_goes ∈ lw_tbl := (List.mem_of_getElem? (i := 587) (by decide +kernel))
abbrev mX11_isTune : zM := (RX11, cX11_isTune, 2, (some .boolean), "isTune", 2, 41)
theorem cd_X11_isTune : zCd yX11_isTune mX11_isTune 2 := ⟨List.mem_of_getElem? (i := 640) (by decide +kernel), (List.mem_of_getElem? (i := 64) (by decide +kernel)), ⟨by decide +kernel, by decide +kernel⟩, by decide +kernel⟩
theorem st_X11_isTune : Cond.static yX11_isTune ∈ lw_tbl := (List.mem_of_getElem? (i := 639) (by decide +kernel))
abbrev mX11_run : zM := (RX11, cX11_run, 6, (some .int), "run", 5, 118)
theorem cd_X11_run : zCd yX11_run mX11_run 4 := ⟨List.mem_of_getElem? (i := 637) (by decide +kernel), (List.mem_of_getElem? (i := 64) (by decide +kernel)), ⟨by decide +kernel, by decide +kernel⟩, by decide +kernel⟩
theorem im_X11_run : Cond.instanceMethod yX11_run ∈ lw_tbl := (List.mem_of_getElem? (i := 635) (by decide +kernel))
theorem se_X11_run : Cond.selects RX11 yX11_run yX11_run ∈ lw_tbl := (List.mem_of_getElem? (i := 636) (by decide +kernel))
abbrev mX11_meets : zM := (RX11, cX11_meets, 7, (some .int), "meets", 5, 118)
theorem cd_X11_meets : zCd yX11_meets mX11_meets 3 := ⟨List.mem_of_getElem? (i := 657) (by decide +kernel), (List.mem_of_getElem? (i := 64) (by decide +kernel)), ⟨by decide +kernel, by decide +kernel⟩, by decide +kernel⟩
theorem im_X11_meets : Cond.instanceMethod yX11_meets ∈ lw_tbl := (List.mem_of_getElem? (i := 655) (by decide +kernel))
theorem se_X11_meets : Cond.selects RX11 yX11_meets yX11_meets ∈ lw_tbl := (List.mem_of_getElem? (i := 656) (by decide +kernel))
abbrev mX11_tame : zM := (RX11, cX11_tame, 3, (some .int), "tame", 8, 191)
theorem cd_X11_tame : zCd yX11_tame mX11_tame 2 := ⟨List.mem_of_getElem? (i := 661) (by decide +kernel), (List.mem_of_getElem? (i := 64) (by decide +kernel)), ⟨by decide +kernel, by decide +kernel⟩, by decide +kernel⟩
theorem im_X11_tame : Cond.instanceMethod yX11_tame ∈ lw_tbl := (List.mem_of_getElem? (i := 659) (by decide +kernel))
theorem se_X11_tame : Cond.selects RX11 yX11_tame yX11_tame ∈ lw_tbl := (List.mem_of_getElem? (i := 660) (by decide +kernel))
abbrev mX11_quiet : zM := (RX11, cX11_quiet, 2, (some .int), "quiet", 8, 191)
theorem cd_X11_quiet : zCd yX11_quiet mX11_quiet 1 := ⟨List.mem_of_getElem? (i := 824) (by decide +kernel), (List.mem_of_getElem? (i := 64) (by decide +kernel)), ⟨by decide +kernel, by decide +kernel⟩, by decide +kernel⟩
theorem im_X11_quiet : Cond.instanceMethod yX11_quiet ∈ lw_tbl := (List.mem_of_getElem? (i := 822) (by decide +kernel))
theorem se_X11_quiet : Cond.selects RX11 yX11_quiet yX11_quiet ∈ lw_tbl := (List.mem_of_getElem? (i := 823) (by decide +kernel))
abbrev mX11_apart : zM := (RX11, cX11_apart, 5, (some .int), "apart", 5, 119)
theorem cd_X11_apart : zCd yX11_apart mX11_apart 1 := ⟨List.mem_of_getElem? (i := 832) (by decide +kernel), (List.mem_of_getElem? (i := 64) (by decide +kernel)), ⟨by decide +kernel, by decide +kernel⟩, by decide +kernel⟩
theorem im_X11_apart : Cond.instanceMethod yX11_apart ∈ lw_tbl := (List.mem_of_getElem? (i := 830) (by decide +kernel))
theorem se_X11_apart : Cond.selects RX11 yX11_apart yX11_apart ∈ lw_tbl := (List.mem_of_getElem? (i := 831) (by decide +kernel))
abbrev mX11_shuts : zM := (RX11, cX11_shuts, 5, (some .int), "shuts", 8, 191)
theorem cd_X11_shuts : zCd yX11_shuts mX11_shuts 1 := ⟨List.mem_of_getElem? (i := 855) (by decide +kernel), (List.mem_of_getElem? (i := 64) (by decide +kernel)), ⟨by decide +kernel, by decide +kernel⟩, by decide +kernel⟩
theorem im_X11_shuts : Cond.instanceMethod yX11_shuts ∈ lw_tbl := (List.mem_of_getElem? (i := 853) (by decide +kernel))
theorem se_X11_shuts : Cond.selects RX11 yX11_shuts yX11_shuts ∈ lw_tbl := (List.mem_of_getElem? (i := 854) (by decide +kernel))
abbrev mX11_neighbour : zM := (RX11, cX11_neighbour, 6, (some .int), "neighbour", 8, 191)
theorem cd_X11_neighbour : zCd yX11_neighbour mX11_neighbour 4 := ⟨List.mem_of_getElem? (i := 859) (by decide +kernel), (List.mem_of_getElem? (i := 64) (by decide +kernel)), ⟨by decide +kernel, by decide +kernel⟩, by decide +kernel⟩
theorem im_X11_neighbour : Cond.instanceMethod yX11_neighbour ∈ lw_tbl := (List.mem_of_getElem? (i := 857) (by decide +kernel))
theorem se_X11_neighbour : Cond.selects RX11 yX11_neighbour yX11_neighbour ∈ lw_tbl := (List.mem_of_getElem? (i := 858) (by decide +kernel))
abbrev mX11_tells : zM := (RX11, cX11_tells, 8, (some .int), "tells", 5, 119)
theorem cd_X11_tells : zCd yX11_tells mX11_tells 3 := ⟨List.mem_of_getElem? (i := 864) (by decide +kernel), (List.mem_of_getElem? (i := 64) (by decide +kernel)), ⟨by decide +kernel, by decide +kernel⟩, by decide +kernel⟩
theorem im_X11_tells : Cond.instanceMethod yX11_tells ∈ lw_tbl := (List.mem_of_getElem? (i := 862) (by decide +kernel))
theorem se_X11_tells : Cond.selects RX11 yX11_tells yX11_tells ∈ lw_tbl := (List.mem_of_getElem? (i := 863) (by decide +kernel))
abbrev mX11_isHeard : zM := (RX11, cX11_isHeard, 3, (some .boolean), "isHeard", 2, 41)
theorem cd_X11_isHeard : zCd yX11_isHeard mX11_isHeard 3 := ⟨List.mem_of_getElem? (i := 895) (by decide +kernel), (List.mem_of_getElem? (i := 64) (by decide +kernel)), ⟨by decide +kernel, by decide +kernel⟩, by decide +kernel⟩
theorem st_X11_isHeard : Cond.static yX11_isHeard ∈ lw_tbl := (List.mem_of_getElem? (i := 894) (by decide +kernel))
abbrev mX11_soundsSo : zM := (RX11, cX11_soundsSo, 8, (some .boolean), "soundsSo", 4, 92)
theorem cd_X11_soundsSo : zCd yX11_soundsSo mX11_soundsSo 5 := ⟨List.mem_of_getElem? (i := 903) (by decide +kernel), (List.mem_of_getElem? (i := 64) (by decide +kernel)), ⟨by decide +kernel, by decide +kernel⟩, by decide +kernel⟩
theorem im_X11_soundsSo : Cond.instanceMethod yX11_soundsSo ∈ lw_tbl := (List.mem_of_getElem? (i := 902) (by decide +kernel))
theorem se_X11_soundsSo : Cond.selects RX11 yX11_soundsSo yX11_soundsSo ∈ lw_tbl := (List.mem_of_getElem? (i := 28) (by decide +kernel))
abbrev mX11_origins : zM := (RX11, cX11_origins, 7, (some .int), "origins", 5, 119)
theorem cd_X11_origins : zCd yX11_origins mX11_origins 4 := ⟨List.mem_of_getElem? (i := 899) (by decide +kernel), (List.mem_of_getElem? (i := 64) (by decide +kernel)), ⟨by decide +kernel, by decide +kernel⟩, by decide +kernel⟩
theorem im_X11_origins : Cond.instanceMethod yX11_origins ∈ lw_tbl := (List.mem_of_getElem? (i := 898) (by decide +kernel))
theorem se_X11_origins : Cond.selects RX11 yX11_origins yX11_origins ∈ lw_tbl := (List.mem_of_getElem? (i := 27) (by decide +kernel))
abbrev mX11_which : zM := (RX11, cX11_which, 7, (some .int), "which", 6, 145)
theorem cd_X11_which : zCd yX11_which mX11_which 3 := ⟨List.mem_of_getElem? (i := 892) (by decide +kernel), (List.mem_of_getElem? (i := 64) (by decide +kernel)), ⟨by decide +kernel, by decide +kernel⟩, by decide +kernel⟩
theorem im_X11_which : Cond.instanceMethod yX11_which ∈ lw_tbl := (List.mem_of_getElem? (i := 890) (by decide +kernel))
theorem se_X11_which : Cond.selects RX11 yX11_which yX11_which ∈ lw_tbl := (List.mem_of_getElem? (i := 891) (by decide +kernel))
abbrev mX11_starts : zM := (RX11, cX11_starts, 6, (some .int), "starts", 6, 145)
theorem cd_X11_starts : zCd yX11_starts mX11_starts 4 := ⟨List.mem_of_getElem? (i := 907) (by decide +kernel), (List.mem_of_getElem? (i := 64) (by decide +kernel)), ⟨by decide +kernel, by decide +kernel⟩, by decide +kernel⟩
theorem im_X11_starts : Cond.instanceMethod yX11_starts ∈ lw_tbl := (List.mem_of_getElem? (i := 905) (by decide +kernel))
theorem se_X11_starts : Cond.selects RX11 yX11_starts yX11_starts ∈ lw_tbl := (List.mem_of_getElem? (i := 906) (by decide +kernel))
abbrev mJ7_fill_d0a16 : zM := (RJ7, cJ7_fill_d0a16, 5, none, "fill", 1, 20)
theorem cd_J7_fill_d0a16 : zCd yJ7_fill_d0a16 mJ7_fill_d0a16 2 := ⟨List.mem_of_getElem? (i := 914) (by decide +kernel), (List.mem_of_getElem? (i := 83) (by decide +kernel)), ⟨by decide +kernel, by decide +kernel⟩, by decide +kernel⟩
theorem st_J7_fill_d0a16 : Cond.static yJ7_fill_d0a16 ∈ lw_tbl := (List.mem_of_getElem? (i := 913) (by decide +kernel))
abbrev mX11_drawOne : zM := (RX11, cX11_drawOne, 7, none, "drawOne", 4, 92)
theorem cd_X11_drawOne : zCd yX11_drawOne mX11_drawOne 3 := ⟨List.mem_of_getElem? (i := 918) (by decide +kernel), (List.mem_of_getElem? (i := 64) (by decide +kernel)), ⟨by decide +kernel, by decide +kernel⟩, by decide +kernel⟩
theorem im_X11_drawOne : Cond.instanceMethod yX11_drawOne ∈ lw_tbl := (List.mem_of_getElem? (i := 917) (by decide +kernel))
theorem se_X11_drawOne : Cond.selects RX11 yX11_drawOne yX11_drawOne ∈ lw_tbl := (List.mem_of_getElem? (i := 29) (by decide +kernel))
abbrev mX11_commonDivisor : zM := (RX11, cX11_commonDivisor, 11, (some .long), "commonDivisor", 1, 20)
theorem cd_X11_commonDivisor : zCd yX11_commonDivisor mX11_commonDivisor 2 := ⟨List.mem_of_getElem? (i := 927) (by decide +kernel), (List.mem_of_getElem? (i := 64) (by decide +kernel)), ⟨by decide +kernel, by decide +kernel⟩, by decide +kernel⟩
theorem st_X11_commonDivisor : Cond.static yX11_commonDivisor ∈ lw_tbl := (List.mem_of_getElem? (i := 926) (by decide +kernel))
abbrev mX11_keepFraction : zM := (RX11, cX11_keepFraction, 7, none, "keepFraction", 2, 50)
theorem cd_X11_keepFraction : zCd yX11_keepFraction mX11_keepFraction 2 := ⟨List.mem_of_getElem? (i := 924) (by decide +kernel), (List.mem_of_getElem? (i := 64) (by decide +kernel)), ⟨by decide +kernel, by decide +kernel⟩, by decide +kernel⟩
theorem im_X11_keepFraction : Cond.instanceMethod yX11_keepFraction ∈ lw_tbl := (List.mem_of_getElem? (i := 923) (by decide +kernel))
theorem se_X11_keepFraction : Cond.selects RX11 yX11_keepFraction yX11_keepFraction ∈ lw_tbl := (List.mem_of_getElem? (i := 30) (by decide +kernel))
abbrev mX11_drawn : zM := (RX11, cX11_drawn, 8, (some .int), "drawn", 5, 118)
theorem cd_X11_drawn : zCd yX11_drawn mX11_drawn 3 := ⟨List.mem_of_getElem? (i := 911) (by decide +kernel), (List.mem_of_getElem? (i := 64) (by decide +kernel)), ⟨by decide +kernel, by decide +kernel⟩, by decide +kernel⟩
theorem im_X11_drawn : Cond.instanceMethod yX11_drawn ∈ lw_tbl := (List.mem_of_getElem? (i := 909) (by decide +kernel))
theorem se_X11_drawn : Cond.selects RX11 yX11_drawn yX11_drawn ∈ lw_tbl := (List.mem_of_getElem? (i := 910) (by decide +kernel))
abbrev mX11_part : zM := (RX11, cX11_part, 2, (some .long), "part", 2, 41)
theorem cd_X11_part : zCd yX11_part mX11_part 1 := ⟨List.mem_of_getElem? (i := 931) (by decide +kernel), (List.mem_of_getElem? (i := 64) (by decide +kernel)), ⟨by decide +kernel, by decide +kernel⟩, by decide +kernel⟩
theorem im_X11_part : Cond.instanceMethod yX11_part ∈ lw_tbl := (List.mem_of_getElem? (i := 929) (by decide +kernel))
theorem se_X11_part : Cond.selects RX11 yX11_part yX11_part ∈ lw_tbl := (List.mem_of_getElem? (i := 930) (by decide +kernel))
abbrev mX11_image : zM := (RX11, cX11_image, 2, (some .int), "image", 3, 62)
theorem cd_X11_image : zCd yX11_image mX11_image 1 := ⟨List.mem_of_getElem? (i := 935) (by decide +kernel), (List.mem_of_getElem? (i := 64) (by decide +kernel)), ⟨by decide +kernel, by decide +kernel⟩, by decide +kernel⟩
theorem im_X11_image : Cond.instanceMethod yX11_image ∈ lw_tbl := (List.mem_of_getElem? (i := 933) (by decide +kernel))
theorem se_X11_image : Cond.selects RX11 yX11_image yX11_image ∈ lw_tbl := (List.mem_of_getElem? (i := 934) (by decide +kernel))
abbrev mX11_from : zM := (RX11, cX11_from, 3, (some .int), "from", 3, 62)
theorem cd_X11_from : zCd yX11_from mX11_from 1 := ⟨List.mem_of_getElem? (i := 945) (by decide +kernel), (List.mem_of_getElem? (i := 64) (by decide +kernel)), ⟨by decide +kernel, by decide +kernel⟩, by decide +kernel⟩
theorem im_X11_from : Cond.instanceMethod yX11_from ∈ lw_tbl := (List.mem_of_getElem? (i := 943) (by decide +kernel))
theorem se_X11_from : Cond.selects RX11 yX11_from yX11_from ∈ lw_tbl := (List.mem_of_getElem? (i := 944) (by decide +kernel))
abbrev mX11_status : zM := (RX11, cX11_status, 2, (some .int), "status", 2, 41)
theorem cd_X11_status : zCd yX11_status mX11_status 1 := ⟨List.mem_of_getElem? (i := 949) (by decide +kernel), (List.mem_of_getElem? (i := 64) (by decide +kernel)), ⟨by decide +kernel, by decide +kernel⟩, by decide +kernel⟩
theorem im_X11_status : Cond.instanceMethod yX11_status ∈ lw_tbl := (List.mem_of_getElem? (i := 947) (by decide +kernel))
theorem se_X11_status : Cond.selects RX11 yX11_status yX11_status ∈ lw_tbl := (List.mem_of_getElem? (i := 948) (by decide +kernel))
abbrev mX11_count : zM := (RX11, cX11_count, 2, (some .int), "count", 2, 41)
theorem cd_X11_count : zCd yX11_count mX11_count 1 := ⟨List.mem_of_getElem? (i := 953) (by decide +kernel), (List.mem_of_getElem? (i := 64) (by decide +kernel)), ⟨by decide +kernel, by decide +kernel⟩, by decide +kernel⟩
theorem im_X11_count : Cond.instanceMethod yX11_count ∈ lw_tbl := (List.mem_of_getElem? (i := 951) (by decide +kernel))
theorem se_X11_count : Cond.selects RX11 yX11_count yX11_count ∈ lw_tbl := (List.mem_of_getElem? (i := 952) (by decide +kernel))
abbrev mX11_digest : zM := (RX11, cX11_digest, 5, (some .long), "digest", 3, 68)
theorem cd_X11_digest : zCd yX11_digest mX11_digest 0 := ⟨List.mem_of_getElem? (i := 957) (by decide +kernel), (List.mem_of_getElem? (i := 64) (by decide +kernel)), ⟨by decide +kernel, by decide +kernel⟩, by decide +kernel⟩
theorem im_X11_digest : Cond.instanceMethod yX11_digest ∈ lw_tbl := (List.mem_of_getElem? (i := 955) (by decide +kernel))
theorem se_X11_digest : Cond.selects RX11 yX11_digest yX11_digest ∈ lw_tbl := (List.mem_of_getElem? (i := 956) (by decide +kernel))
abbrev mX12_init : zM := (RX12, cX12_init, 1, none, "<init>", 1, 20)
theorem cd_X12_init : zCd yX12_init mX12_init 0 := ⟨List.mem_of_getElem? (i := 989) (by decide +kernel), (List.mem_of_getElem? (i := 70) (by decide +kernel)), ⟨by decide +kernel, by decide +kernel⟩, by decide +kernel⟩
theorem im_X12_init : Cond.instanceMethod yX12_init ∈ lw_tbl := (List.mem_of_getElem? (i := 988) (by decide +kernel))
abbrev mX12_in : zM := (RX12, cX12_in, 3, (some .boolean), "in", 1, 20)
theorem cd_X12_in : zCd yX12_in mX12_in 3 := ⟨List.mem_of_getElem? (i := 1063) (by decide +kernel), (List.mem_of_getElem? (i := 70) (by decide +kernel)), ⟨by decide +kernel, by decide +kernel⟩, by decide +kernel⟩
theorem st_X12_in : Cond.static yX12_in ∈ lw_tbl := (List.mem_of_getElem? (i := 1062) (by decide +kernel))
abbrev mX12_refuses : zM := (RX12, cX12_refuses, 3, (some .int), "refuses", 1, 20)
theorem cd_X12_refuses : zCd yX12_refuses mX12_refuses 2 := ⟨List.mem_of_getElem? (i := 1071) (by decide +kernel), (List.mem_of_getElem? (i := 70) (by decide +kernel)), ⟨by decide +kernel, by decide +kernel⟩, by decide +kernel⟩
theorem im_X12_refuses : Cond.instanceMethod yX12_refuses ∈ lw_tbl := (List.mem_of_getElem? (i := 1070) (by decide +kernel))
theorem se_X12_refuses : Cond.selects RX12 yX12_refuses yX12_refuses ∈ lw_tbl := (List.mem_of_getElem? (i := 32) (by decide +kernel))
abbrev mX12_bad : zM := (RX12, cX12_bad, 1, (some .int), "bad", 2, 42)
theorem cd_X12_bad : zCd yX12_bad mX12_bad 0 := ⟨List.mem_of_getElem? (i := 1067) (by decide +kernel), (List.mem_of_getElem? (i := 70) (by decide +kernel)), ⟨by decide +kernel, by decide +kernel⟩, by decide +kernel⟩
theorem im_X12_bad : Cond.instanceMethod yX12_bad ∈ lw_tbl := (List.mem_of_getElem? (i := 1066) (by decide +kernel))
theorem se_X12_bad : Cond.selects RX12 yX12_bad yX12_bad ∈ lw_tbl := (List.mem_of_getElem? (i := 31) (by decide +kernel))
abbrev mX12_isPlace : zM := (RX12, cX12_isPlace, 2, (some .boolean), "isPlace", 2, 42)
theorem cd_X12_isPlace : zCd yX12_isPlace mX12_isPlace 1 := ⟨List.mem_of_getElem? (i := 1095) (by decide +kernel), (List.mem_of_getElem? (i := 70) (by decide +kernel)), ⟨by decide +kernel, by decide +kernel⟩, by decide +kernel⟩
theorem im_X12_isPlace : Cond.instanceMethod yX12_isPlace ∈ lw_tbl := (List.mem_of_getElem? (i := 1094) (by decide +kernel))
theorem se_X12_isPlace : Cond.selects RX12 yX12_isPlace yX12_isPlace ∈ lw_tbl := (List.mem_of_getElem? (i := 35) (by decide +kernel))
abbrev mX12_isDog : zM := (RX12, cX12_isDog, 2, (some .boolean), "isDog", 2, 42)
theorem cd_X12_isDog : zCd yX12_isDog mX12_isDog 1 := ⟨List.mem_of_getElem? (i := 1162) (by decide +kernel), (List.mem_of_getElem? (i := 70) (by decide +kernel)), ⟨by decide +kernel, by decide +kernel⟩, by decide +kernel⟩
theorem im_X12_isDog : Cond.instanceMethod yX12_isDog ∈ lw_tbl := (List.mem_of_getElem? (i := 1161) (by decide +kernel))
theorem se_X12_isDog : Cond.selects RX12 yX12_isDog yX12_isDog ∈ lw_tbl := (List.mem_of_getElem? (i := 44) (by decide +kernel))
abbrev mX12_isSet : zM := (RX12, cX12_isSet, 2, (some .boolean), "isSet", 2, 42)
theorem cd_X12_isSet : zCd yX12_isSet mX12_isSet 1 := ⟨List.mem_of_getElem? (i := 1194) (by decide +kernel), (List.mem_of_getElem? (i := 70) (by decide +kernel)), ⟨by decide +kernel, by decide +kernel⟩, by decide +kernel⟩
theorem im_X12_isSet : Cond.instanceMethod yX12_isSet ∈ lw_tbl := (List.mem_of_getElem? (i := 1193) (by decide +kernel))
theorem se_X12_isSet : Cond.selects RX12 yX12_isSet yX12_isSet ∈ lw_tbl := (List.mem_of_getElem? (i := 49) (by decide +kernel))
abbrev mX12_isTune : zM := (RX12, cX12_isTune, 3, (some .boolean), "isTune", 2, 42)
theorem cd_X12_isTune : zCd yX12_isTune mX12_isTune 2 := ⟨List.mem_of_getElem? (i := 1178) (by decide +kernel), (List.mem_of_getElem? (i := 70) (by decide +kernel)), ⟨by decide +kernel, by decide +kernel⟩, by decide +kernel⟩
theorem im_X12_isTune : Cond.instanceMethod yX12_isTune ∈ lw_tbl := (List.mem_of_getElem? (i := 1177) (by decide +kernel))
theorem se_X12_isTune : Cond.selects RX12 yX12_isTune yX12_isTune ∈ lw_tbl := (List.mem_of_getElem? (i := 47) (by decide +kernel))
abbrev mX12_places : zM := (RX12, cX12_places, 6, (some .int), "places", 3, 62)
theorem cd_X12_places : zCd yX12_places mX12_places 1 := ⟨List.mem_of_getElem? (i := 1060) (by decide +kernel), (List.mem_of_getElem? (i := 70) (by decide +kernel)), ⟨by decide +kernel, by decide +kernel⟩, by decide +kernel⟩
theorem im_X12_places : Cond.instanceMethod yX12_places ∈ lw_tbl := (List.mem_of_getElem? (i := 1058) (by decide +kernel))
theorem se_X12_places : Cond.selects RX12 yX12_places yX12_places ∈ lw_tbl := (List.mem_of_getElem? (i := 1059) (by decide +kernel))
abbrev mX12_isRow : zM := (RX12, cX12_isRow, 5, (some .boolean), "isRow", 1, 20)
theorem cd_X12_isRow : zCd yX12_isRow mX12_isRow 1 := ⟨List.mem_of_getElem? (i := 1079) (by decide +kernel), (List.mem_of_getElem? (i := 70) (by decide +kernel)), ⟨by decide +kernel, by decide +kernel⟩, by decide +kernel⟩
theorem im_X12_isRow : Cond.instanceMethod yX12_isRow ∈ lw_tbl := (List.mem_of_getElem? (i := 1078) (by decide +kernel))
theorem se_X12_isRow : Cond.selects RX12 yX12_isRow yX12_isRow ∈ lw_tbl := (List.mem_of_getElem? (i := 33) (by decide +kernel))
abbrev mX12_comes : zM := (RX12, cX12_comes, 8, (some .int), "comes", 2, 42)
theorem cd_X12_comes : zCd yX12_comes mX12_comes 6 := ⟨List.mem_of_getElem? (i := 1083) (by decide +kernel), (List.mem_of_getElem? (i := 70) (by decide +kernel)), ⟨by decide +kernel, by decide +kernel⟩, by decide +kernel⟩
theorem im_X12_comes : Cond.instanceMethod yX12_comes ∈ lw_tbl := (List.mem_of_getElem? (i := 1082) (by decide +kernel))
theorem se_X12_comes : Cond.selects RX12 yX12_comes yX12_comes ∈ lw_tbl := (List.mem_of_getElem? (i := 34) (by decide +kernel))
abbrev mX12_dog : zM := (RX12, cX12_dog, 4, (some .int), "dog", 3, 69)
theorem cd_X12_dog : zCd yX12_dog mX12_dog 3 := ⟨List.mem_of_getElem? (i := 1075) (by decide +kernel), (List.mem_of_getElem? (i := 70) (by decide +kernel)), ⟨by decide +kernel, by decide +kernel⟩, by decide +kernel⟩
theorem im_X12_dog : Cond.instanceMethod yX12_dog ∈ lw_tbl := (List.mem_of_getElem? (i := 1073) (by decide +kernel))
theorem se_X12_dog : Cond.selects RX12 yX12_dog yX12_dog ∈ lw_tbl := (List.mem_of_getElem? (i := 1074) (by decide +kernel))
abbrev mX12_pup : zM := (RX12, cX12_pup, 7, (some .int), "pup", 3, 69)
theorem cd_X12_pup : zCd yX12_pup mX12_pup 6 := ⟨List.mem_of_getElem? (i := 1087) (by decide +kernel), (List.mem_of_getElem? (i := 70) (by decide +kernel)), ⟨by decide +kernel, by decide +kernel⟩, by decide +kernel⟩
theorem im_X12_pup : Cond.instanceMethod yX12_pup ∈ lw_tbl := (List.mem_of_getElem? (i := 1085) (by decide +kernel))
theorem se_X12_pup : Cond.selects RX12 yX12_pup yX12_pup ∈ lw_tbl := (List.mem_of_getElem? (i := 1086) (by decide +kernel))
abbrev mX12_shut : zM := (RX12, cX12_shut, 4, (some .int), "shut", 3, 63)
theorem cd_X12_shut : zCd yX12_shut mX12_shut 2 := ⟨List.mem_of_getElem? (i := 1091) (by decide +kernel), (List.mem_of_getElem? (i := 70) (by decide +kernel)), ⟨by decide +kernel, by decide +kernel⟩, by decide +kernel⟩
theorem im_X12_shut : Cond.instanceMethod yX12_shut ∈ lw_tbl := (List.mem_of_getElem? (i := 1089) (by decide +kernel))
theorem se_X12_shut : Cond.selects RX12 yX12_shut yX12_shut ∈ lw_tbl := (List.mem_of_getElem? (i := 1090) (by decide +kernel))
abbrev mX12_put : zM := (RX12, cX12_put, 6, (some .int), "put", 3, 63)
theorem cd_X12_put : zCd yX12_put mX12_put 2 := ⟨List.mem_of_getElem? (i := 1099) (by decide +kernel), (List.mem_of_getElem? (i := 70) (by decide +kernel)), ⟨by decide +kernel, by decide +kernel⟩, by decide +kernel⟩
theorem im_X12_put : Cond.instanceMethod yX12_put ∈ lw_tbl := (List.mem_of_getElem? (i := 1097) (by decide +kernel))
theorem se_X12_put : Cond.selects RX12 yX12_put yX12_put ∈ lw_tbl := (List.mem_of_getElem? (i := 1098) (by decide +kernel))
abbrev mX12_type : zM := (RX12, cX12_type, 5, (some .int), "type", 3, 62)
theorem cd_X12_type : zCd yX12_type mX12_type 2 := ⟨List.mem_of_getElem? (i := 1103) (by decide +kernel), (List.mem_of_getElem? (i := 70) (by decide +kernel)), ⟨by decide +kernel, by decide +kernel⟩, by decide +kernel⟩
theorem im_X12_type : Cond.instanceMethod yX12_type ∈ lw_tbl := (List.mem_of_getElem? (i := 1101) (by decide +kernel))
theorem se_X12_type : Cond.selects RX12 yX12_type yX12_type ∈ lw_tbl := (List.mem_of_getElem? (i := 1102) (by decide +kernel))
abbrev mX12_clear : zM := (RX12, cX12_clear, 2, (some .int), "clear", 1, 20)
theorem cd_X12_clear : zCd yX12_clear mX12_clear 0 := ⟨List.mem_of_getElem? (i := 1108) (by decide +kernel), (List.mem_of_getElem? (i := 70) (by decide +kernel)), ⟨by decide +kernel, by decide +kernel⟩, by decide +kernel⟩
theorem im_X12_clear : Cond.instanceMethod yX12_clear ∈ lw_tbl := (List.mem_of_getElem? (i := 1106) (by decide +kernel))
theorem se_X12_clear : Cond.selects RX12 yX12_clear yX12_clear ∈ lw_tbl := (List.mem_of_getElem? (i := 1107) (by decide +kernel))
abbrev mX12_byteAt : zM := (RX12, cX12_byteAt, 2, (some .int), "byteAt", 1, 20)
theorem cd_X12_byteAt : zCd yX12_byteAt mX12_byteAt 1 := ⟨List.mem_of_getElem? (i := 1124) (by decide +kernel), (List.mem_of_getElem? (i := 70) (by decide +kernel)), ⟨by decide +kernel, by decide +kernel⟩, by decide +kernel⟩
theorem im_X12_byteAt : Cond.instanceMethod yX12_byteAt ∈ lw_tbl := (List.mem_of_getElem? (i := 1123) (by decide +kernel))
theorem se_X12_byteAt : Cond.selects RX12 yX12_byteAt yX12_byteAt ∈ lw_tbl := (List.mem_of_getElem? (i := 38) (by decide +kernel))
abbrev mX12_sortOf : zM := (RX12, cX12_sortOf, 1, (some .int), "sortOf", 2, 42)
theorem cd_X12_sortOf : zCd yX12_sortOf mX12_sortOf 1 := ⟨List.mem_of_getElem? (i := 1127) (by decide +kernel), (List.mem_of_getElem? (i := 70) (by decide +kernel)), ⟨by decide +kernel, by decide +kernel⟩, by decide +kernel⟩
theorem st_X12_sortOf : Cond.static yX12_sortOf ∈ lw_tbl := (List.mem_of_getElem? (i := 1126) (by decide +kernel))
abbrev mX12_token : zM := (RX12, cX12_token, 1, none, "token", 3, 62)
theorem cd_X12_token : zCd yX12_token mX12_token 0 := ⟨List.mem_of_getElem? (i := 1120) (by decide +kernel), (List.mem_of_getElem? (i := 70) (by decide +kernel)), ⟨by decide +kernel, by decide +kernel⟩, by decide +kernel⟩
theorem im_X12_token : Cond.instanceMethod yX12_token ∈ lw_tbl := (List.mem_of_getElem? (i := 1119) (by decide +kernel))
theorem se_X12_token : Cond.selects RX12 yX12_token yX12_token ∈ lw_tbl := (List.mem_of_getElem? (i := 37) (by decide +kernel))
abbrev mX12_verb : zM := (RX12, cX12_verb, 4, (some .int), "verb", 2, 41)
theorem cd_X12_verb : zCd yX12_verb mX12_verb 0 := ⟨List.mem_of_getElem? (i := 1131) (by decide +kernel), (List.mem_of_getElem? (i := 70) (by decide +kernel)), ⟨by decide +kernel, by decide +kernel⟩, by decide +kernel⟩
theorem im_X12_verb : Cond.instanceMethod yX12_verb ∈ lw_tbl := (List.mem_of_getElem? (i := 1130) (by decide +kernel))
theorem se_X12_verb : Cond.selects RX12 yX12_verb yX12_verb ∈ lw_tbl := (List.mem_of_getElem? (i := 39) (by decide +kernel))
abbrev mX12_figure : zM := (RX12, cX12_figure, 4, (some .int), "figure", 4, 82)
theorem cd_X12_figure : zCd yX12_figure mX12_figure 2 := ⟨List.mem_of_getElem? (i := 1150) (by decide +kernel), (List.mem_of_getElem? (i := 70) (by decide +kernel)), ⟨by decide +kernel, by decide +kernel⟩, by decide +kernel⟩
theorem im_X12_figure : Cond.instanceMethod yX12_figure ∈ lw_tbl := (List.mem_of_getElem? (i := 1149) (by decide +kernel))
theorem se_X12_figure : Cond.selects RX12 yX12_figure yX12_figure ∈ lw_tbl := (List.mem_of_getElem? (i := 42) (by decide +kernel))
abbrev mX12_row : zM := (RX12, cX12_row, 5, (some .int), "row", 4, 82)
theorem cd_X12_row : zCd yX12_row mX12_row 0 := ⟨List.mem_of_getElem? (i := 1154) (by decide +kernel), (List.mem_of_getElem? (i := 70) (by decide +kernel)), ⟨by decide +kernel, by decide +kernel⟩, by decide +kernel⟩
theorem im_X12_row : Cond.instanceMethod yX12_row ∈ lw_tbl := (List.mem_of_getElem? (i := 1153) (by decide +kernel))
theorem se_X12_row : Cond.selects RX12 yX12_row yX12_row ∈ lw_tbl := (List.mem_of_getElem? (i := 43) (by decide +kernel))
abbrev mX12_readsDog : zM := (RX12, cX12_readsDog, 6, (some .boolean), "readsDog", 5, 106)
theorem cd_X12_readsDog : zCd yX12_readsDog mX12_readsDog 0 := ⟨List.mem_of_getElem? (i := 1146) (by decide +kernel), (List.mem_of_getElem? (i := 70) (by decide +kernel)), ⟨by decide +kernel, by decide +kernel⟩, by decide +kernel⟩
theorem im_X12_readsDog : Cond.instanceMethod yX12_readsDog ∈ lw_tbl := (List.mem_of_getElem? (i := 1145) (by decide +kernel))
theorem se_X12_readsDog : Cond.selects RX12 yX12_readsDog yX12_readsDog ∈ lw_tbl := (List.mem_of_getElem? (i := 41) (by decide +kernel))
abbrev mX12_readsItem : zM := (RX12, cX12_readsItem, 4, (some .boolean), "readsItem", 6, 131)
theorem cd_X12_readsItem : zCd yX12_readsItem mX12_readsItem 1 := ⟨List.mem_of_getElem? (i := 1142) (by decide +kernel), (List.mem_of_getElem? (i := 70) (by decide +kernel)), ⟨by decide +kernel, by decide +kernel⟩, by decide +kernel⟩
theorem im_X12_readsItem : Cond.instanceMethod yX12_readsItem ∈ lw_tbl := (List.mem_of_getElem? (i := 1141) (by decide +kernel))
theorem se_X12_readsItem : Cond.selects RX12 yX12_readsItem yX12_readsItem ∈ lw_tbl := (List.mem_of_getElem? (i := 40) (by decide +kernel))
abbrev mX12_reads : zM := (RX12, cX12_reads, 3, (some .boolean), "reads", 7, 154)
theorem cd_X12_reads : zCd yX12_reads mX12_reads 0 := ⟨List.mem_of_getElem? (i := 1116) (by decide +kernel), (List.mem_of_getElem? (i := 70) (by decide +kernel)), ⟨by decide +kernel, by decide +kernel⟩, by decide +kernel⟩
theorem im_X12_reads : Cond.instanceMethod yX12_reads ∈ lw_tbl := (List.mem_of_getElem? (i := 1115) (by decide +kernel))
theorem se_X12_reads : Cond.selects RX12 yX12_reads yX12_reads ∈ lw_tbl := (List.mem_of_getElem? (i := 36) (by decide +kernel))
abbrev mX12_read : zM := (RX12, cX12_read, 2, (some .int), "read", 8, 176)
theorem cd_X12_read : zCd yX12_read mX12_read 0 := ⟨List.mem_of_getElem? (i := 1112) (by decide +kernel), (List.mem_of_getElem? (i := 70) (by decide +kernel)), ⟨by decide +kernel, by decide +kernel⟩, by decide +kernel⟩
theorem im_X12_read : Cond.instanceMethod yX12_read ∈ lw_tbl := (List.mem_of_getElem? (i := 1110) (by decide +kernel))
theorem se_X12_read : Cond.selects RX12 yX12_read yX12_read ∈ lw_tbl := (List.mem_of_getElem? (i := 1111) (by decide +kernel))
abbrev mX12_step : zM := (RX12, cX12_step, 4, (some .int), "step", 1, 20)
theorem cd_X12_step : zCd yX12_step mX12_step 2 := ⟨List.mem_of_getElem? (i := 1170) (by decide +kernel), (List.mem_of_getElem? (i := 70) (by decide +kernel)), ⟨by decide +kernel, by decide +kernel⟩, by decide +kernel⟩
theorem im_X12_step : Cond.instanceMethod yX12_step ∈ lw_tbl := (List.mem_of_getElem? (i := 1169) (by decide +kernel))
theorem se_X12_step : Cond.selects RX12 yX12_step yX12_step ∈ lw_tbl := (List.mem_of_getElem? (i := 46) (by decide +kernel))
abbrev mX12_go : zM := (RX12, cX12_go, 10, (some .int), "go", 2, 43)
theorem cd_X12_go : zCd yX12_go mX12_go 4 := ⟨List.mem_of_getElem? (i := 1166) (by decide +kernel), (List.mem_of_getElem? (i := 70) (by decide +kernel)), ⟨by decide +kernel, by decide +kernel⟩, by decide +kernel⟩
theorem im_X12_go : Cond.instanceMethod yX12_go ∈ lw_tbl := (List.mem_of_getElem? (i := 1165) (by decide +kernel))
theorem se_X12_go : Cond.selects RX12 yX12_go yX12_go ∈ lw_tbl := (List.mem_of_getElem? (i := 45) (by decide +kernel))
abbrev mX12_goes : zM := (RX12, cX12_goes, 5, (some .int), "goes", 3, 72)
theorem cd_X12_goes : zCd yX12_goes mX12_goes 4 := ⟨List.mem_of_getElem? (i := 1158) (by decide +kernel), (List.mem_of_getElem? (i := 70) (by decide +kernel)), ⟨by decide +kernel, by decide +kernel⟩, by decide +kernel⟩
theorem im_X12_goes : Cond.instanceMethod yX12_goes ∈ lw_tbl := (List.mem_of_getElem? (i := 1156) (by decide +kernel))
theorem se_X12_goes : Cond.selects RX12 yX12_goes yX12_goes ∈ lw_tbl := (List.mem_of_getElem? (i := 1157) (by decide +kernel))
abbrev mX12_ran : zM := (RX12, cX12_ran, 7, (some .int), "ran", 3, 72)
theorem cd_X12_ran : zCd yX12_ran mX12_ran 4 := ⟨List.mem_of_getElem? (i := 1182) (by decide +kernel), (List.mem_of_getElem? (i := 70) (by decide +kernel)), ⟨by decide +kernel, by decide +kernel⟩, by decide +kernel⟩
theorem im_X12_ran : Cond.instanceMethod yX12_ran ∈ lw_tbl := (List.mem_of_getElem? (i := 1181) (by decide +kernel))
theorem se_X12_ran : Cond.selects RX12 yX12_ran yX12_ran ∈ lw_tbl := (List.mem_of_getElem? (i := 48) (by decide +kernel))
abbrev mX12_run : zM := (RX12, cX12_run, 5, (some .int), "run", 4, 98)
theorem cd_X12_run : zCd yX12_run mX12_run 4 := ⟨List.mem_of_getElem? (i := 1174) (by decide +kernel), (List.mem_of_getElem? (i := 70) (by decide +kernel)), ⟨by decide +kernel, by decide +kernel⟩, by decide +kernel⟩
theorem im_X12_run : Cond.instanceMethod yX12_run ∈ lw_tbl := (List.mem_of_getElem? (i := 1172) (by decide +kernel))
theorem se_X12_run : Cond.selects RX12 yX12_run yX12_run ∈ lw_tbl := (List.mem_of_getElem? (i := 1173) (by decide +kernel))
abbrev mX12_meets : zM := (RX12, cX12_meets, 6, (some .int), "meets", 4, 98)
theorem cd_X12_meets : zCd yX12_meets mX12_meets 3 := ⟨List.mem_of_getElem? (i := 1186) (by decide +kernel), (List.mem_of_getElem? (i := 70) (by decide +kernel)), ⟨by decide +kernel, by decide +kernel⟩, by decide +kernel⟩
theorem im_X12_meets : Cond.instanceMethod yX12_meets ∈ lw_tbl := (List.mem_of_getElem? (i := 1184) (by decide +kernel))
theorem se_X12_meets : Cond.selects RX12 yX12_meets yX12_meets ∈ lw_tbl := (List.mem_of_getElem? (i := 1185) (by decide +kernel))
abbrev mX12_after : zM := (RX12, cX12_after, 7, (some .int), "after", 3, 72)
theorem cd_X12_after : zCd yX12_after mX12_after 3 := ⟨List.mem_of_getElem? (i := 1219) (by decide +kernel), (List.mem_of_getElem? (i := 70) (by decide +kernel)), ⟨by decide +kernel, by decide +kernel⟩, by decide +kernel⟩
theorem im_X12_after : Cond.instanceMethod yX12_after ∈ lw_tbl := (List.mem_of_getElem? (i := 1218) (by decide +kernel))
theorem se_X12_after : Cond.selects RX12 yX12_after yX12_after ∈ lw_tbl := (List.mem_of_getElem? (i := 55) (by decide +kernel))
abbrev mX12_comesTo : zM := (RX12, cX12_comesTo, 5, none, "comesTo", 1, 20)
theorem cd_X12_comesTo : zCd yX12_comesTo mX12_comesTo 3 := ⟨List.mem_of_getElem? (i := 1210) (by decide +kernel), (List.mem_of_getElem? (i := 70) (by decide +kernel)), ⟨by decide +kernel, by decide +kernel⟩, by decide +kernel⟩
theorem im_X12_comesTo : Cond.instanceMethod yX12_comesTo ∈ lw_tbl := (List.mem_of_getElem? (i := 1209) (by decide +kernel))
theorem se_X12_comesTo : Cond.selects RX12 yX12_comesTo yX12_comesTo ∈ lw_tbl := (List.mem_of_getElem? (i := 53) (by decide +kernel))
abbrev mX12_layer : zM := (RX12, cX12_layer, 8, none, "layer", 4, 98)
theorem cd_X12_layer : zCd yX12_layer mX12_layer 2 := ⟨List.mem_of_getElem? (i := 1215) (by decide +kernel), (List.mem_of_getElem? (i := 70) (by decide +kernel)), ⟨by decide +kernel, by decide +kernel⟩, by decide +kernel⟩
theorem im_X12_layer : Cond.instanceMethod yX12_layer ∈ lw_tbl := (List.mem_of_getElem? (i := 1214) (by decide +kernel))
theorem se_X12_layer : Cond.selects RX12 yX12_layer yX12_layer ∈ lw_tbl := (List.mem_of_getElem? (i := 54) (by decide +kernel))
abbrev mX12_empties : zM := (RX12, cX12_empties, 3, none, "empties", 1, 20)
theorem cd_X12_empties : zCd yX12_empties mX12_empties 0 := ⟨List.mem_of_getElem? (i := 1223) (by decide +kernel), (List.mem_of_getElem? (i := 70) (by decide +kernel)), ⟨by decide +kernel, by decide +kernel⟩, by decide +kernel⟩
theorem im_X12_empties : Cond.instanceMethod yX12_empties ∈ lw_tbl := (List.mem_of_getElem? (i := 1222) (by decide +kernel))
theorem se_X12_empties : Cond.selects RX12 yX12_empties yX12_empties ∈ lw_tbl := (List.mem_of_getElem? (i := 56) (by decide +kernel))
abbrev mX12_leads : zM := (RX12, cX12_leads, 6, (some .boolean), "leads", 5, 125)
theorem cd_X12_leads : zCd yX12_leads mX12_leads 3 := ⟨List.mem_of_getElem? (i := 1206) (by decide +kernel), (List.mem_of_getElem? (i := 70) (by decide +kernel)), ⟨by decide +kernel, by decide +kernel⟩, by decide +kernel⟩
theorem im_X12_leads : Cond.instanceMethod yX12_leads ∈ lw_tbl := (List.mem_of_getElem? (i := 1205) (by decide +kernel))
theorem se_X12_leads : Cond.selects RX12 yX12_leads yX12_leads ∈ lw_tbl := (List.mem_of_getElem? (i := 52) (by decide +kernel))
abbrev mX12_all : zM := (RX12, cX12_all, 5, (some .int), "all", 1, 20)
theorem cd_X12_all : zCd yX12_all mX12_all 2 := ⟨List.mem_of_getElem? (i := 1202) (by decide +kernel), (List.mem_of_getElem? (i := 70) (by decide +kernel)), ⟨by decide +kernel, by decide +kernel⟩, by decide +kernel⟩
theorem im_X12_all : Cond.instanceMethod yX12_all ∈ lw_tbl := (List.mem_of_getElem? (i := 1201) (by decide +kernel))
theorem se_X12_all : Cond.selects RX12 yX12_all yX12_all ∈ lw_tbl := (List.mem_of_getElem? (i := 51) (by decide +kernel))
abbrev mX12_tames : zM := (RX12, cX12_tames, 3, (some .boolean), "tames", 6, 150)
theorem cd_X12_tames : zCd yX12_tames mX12_tames 2 := ⟨List.mem_of_getElem? (i := 1198) (by decide +kernel), (List.mem_of_getElem? (i := 70) (by decide +kernel)), ⟨by decide +kernel, by decide +kernel⟩, by decide +kernel⟩
theorem im_X12_tames : Cond.instanceMethod yX12_tames ∈ lw_tbl := (List.mem_of_getElem? (i := 1197) (by decide +kernel))
theorem se_X12_tames : Cond.selects RX12 yX12_tames yX12_tames ∈ lw_tbl := (List.mem_of_getElem? (i := 50) (by decide +kernel))
abbrev mX12_tune : zM := (RX12, cX12_tune, 3, (some .int), "tune", 1, 20)
theorem cd_X12_tune : zCd yX12_tune mX12_tune 0 := ⟨List.mem_of_getElem? (i := 1227) (by decide +kernel), (List.mem_of_getElem? (i := 70) (by decide +kernel)), ⟨by decide +kernel, by decide +kernel⟩, by decide +kernel⟩
theorem im_X12_tune : Cond.instanceMethod yX12_tune ∈ lw_tbl := (List.mem_of_getElem? (i := 1226) (by decide +kernel))
theorem se_X12_tune : Cond.selects RX12 yX12_tune yX12_tune ∈ lw_tbl := (List.mem_of_getElem? (i := 57) (by decide +kernel))
abbrev mX12_tame : zM := (RX12, cX12_tame, 3, (some .int), "tame", 7, 172)
theorem cd_X12_tame : zCd yX12_tame mX12_tame 2 := ⟨List.mem_of_getElem? (i := 1190) (by decide +kernel), (List.mem_of_getElem? (i := 70) (by decide +kernel)), ⟨by decide +kernel, by decide +kernel⟩, by decide +kernel⟩
theorem im_X12_tame : Cond.instanceMethod yX12_tame ∈ lw_tbl := (List.mem_of_getElem? (i := 1188) (by decide +kernel))
theorem se_X12_tame : Cond.selects RX12 yX12_tame yX12_tame ∈ lw_tbl := (List.mem_of_getElem? (i := 1189) (by decide +kernel))
abbrev mX12_quiet : zM := (RX12, cX12_quiet, 2, (some .int), "quiet", 7, 172)
theorem cd_X12_quiet : zCd yX12_quiet mX12_quiet 1 := ⟨List.mem_of_getElem? (i := 1231) (by decide +kernel), (List.mem_of_getElem? (i := 70) (by decide +kernel)), ⟨by decide +kernel, by decide +kernel⟩, by decide +kernel⟩
theorem im_X12_quiet : Cond.instanceMethod yX12_quiet ∈ lw_tbl := (List.mem_of_getElem? (i := 1229) (by decide +kernel))
theorem se_X12_quiet : Cond.selects RX12 yX12_quiet yX12_quiet ∈ lw_tbl := (List.mem_of_getElem? (i := 1230) (by decide +kernel))
abbrev mX12_bits : zM := (RX12, cX12_bits, 3, (some .int), "bits", 1, 20)
theorem cd_X12_bits : zCd yX12_bits mX12_bits 1 := ⟨List.mem_of_getElem? (i := 1238) (by decide +kernel), (List.mem_of_getElem? (i := 70) (by decide +kernel)), ⟨by decide +kernel, by decide +kernel⟩, by decide +kernel⟩
theorem st_X12_bits : Cond.static yX12_bits ∈ lw_tbl := (List.mem_of_getElem? (i := 1237) (by decide +kernel))
abbrev mX12_shuts : zM := (RX12, cX12_shuts, 6, (some .int), "shuts", 7, 172)
theorem cd_X12_shuts : zCd yX12_shuts mX12_shuts 1 := ⟨List.mem_of_getElem? (i := 1235) (by decide +kernel), (List.mem_of_getElem? (i := 70) (by decide +kernel)), ⟨by decide +kernel, by decide +kernel⟩, by decide +kernel⟩
theorem im_X12_shuts : Cond.instanceMethod yX12_shuts ∈ lw_tbl := (List.mem_of_getElem? (i := 1233) (by decide +kernel))
theorem se_X12_shuts : Cond.selects RX12 yX12_shuts yX12_shuts ∈ lw_tbl := (List.mem_of_getElem? (i := 1234) (by decide +kernel))
abbrev mX12_neighbour : zM := (RX12, cX12_neighbour, 8, (some .int), "neighbour", 6, 150)
theorem cd_X12_neighbour : zCd yX12_neighbour mX12_neighbour 4 := ⟨List.mem_of_getElem? (i := 1242) (by decide +kernel), (List.mem_of_getElem? (i := 70) (by decide +kernel)), ⟨by decide +kernel, by decide +kernel⟩, by decide +kernel⟩
theorem im_X12_neighbour : Cond.instanceMethod yX12_neighbour ∈ lw_tbl := (List.mem_of_getElem? (i := 1240) (by decide +kernel))
theorem se_X12_neighbour : Cond.selects RX12 yX12_neighbour yX12_neighbour ∈ lw_tbl := (List.mem_of_getElem? (i := 1241) (by decide +kernel))
abbrev mX12_apart : zM := (RX12, cX12_apart, 11, (some .int), "apart", 3, 72)
theorem cd_X12_apart : zCd yX12_apart mX12_apart 1 := ⟨List.mem_of_getElem? (i := 1246) (by decide +kernel), (List.mem_of_getElem? (i := 70) (by decide +kernel)), ⟨by decide +kernel, by decide +kernel⟩, by decide +kernel⟩
theorem im_X12_apart : Cond.instanceMethod yX12_apart ∈ lw_tbl := (List.mem_of_getElem? (i := 1244) (by decide +kernel))
theorem se_X12_apart : Cond.selects RX12 yX12_apart yX12_apart ∈ lw_tbl := (List.mem_of_getElem? (i := 1245) (by decide +kernel))
abbrev mX12_takesBy : zM := (RX12, cX12_takesBy, 9, (some .int), "takesBy", 3, 72)
theorem cd_X12_takesBy : zCd yX12_takesBy mX12_takesBy 4 := ⟨List.mem_of_getElem? (i := 1258) (by decide +kernel), (List.mem_of_getElem? (i := 70) (by decide +kernel)), ⟨by decide +kernel, by decide +kernel⟩, by decide +kernel⟩
theorem im_X12_takesBy : Cond.instanceMethod yX12_takesBy ∈ lw_tbl := (List.mem_of_getElem? (i := 1257) (by decide +kernel))
theorem se_X12_takesBy : Cond.selects RX12 yX12_takesBy yX12_takesBy ∈ lw_tbl := (List.mem_of_getElem? (i := 59) (by decide +kernel))
abbrev mX12_allTakes : zM := (RX12, cX12_allTakes, 7, none, "allTakes", 4, 100)
theorem cd_X12_allTakes : zCd yX12_allTakes mX12_allTakes 1 := ⟨List.mem_of_getElem? (i := 1254) (by decide +kernel), (List.mem_of_getElem? (i := 70) (by decide +kernel)), ⟨by decide +kernel, by decide +kernel⟩, by decide +kernel⟩
theorem im_X12_allTakes : Cond.instanceMethod yX12_allTakes ∈ lw_tbl := (List.mem_of_getElem? (i := 1253) (by decide +kernel))
theorem se_X12_allTakes : Cond.selects RX12 yX12_allTakes yX12_allTakes ∈ lw_tbl := (List.mem_of_getElem? (i := 58) (by decide +kernel))
abbrev mX12_tells : zM := (RX12, cX12_tells, 7, (some .int), "tells", 5, 126)
theorem cd_X12_tells : zCd yX12_tells mX12_tells 3 := ⟨List.mem_of_getElem? (i := 1250) (by decide +kernel), (List.mem_of_getElem? (i := 70) (by decide +kernel)), ⟨by decide +kernel, by decide +kernel⟩, by decide +kernel⟩
theorem im_X12_tells : Cond.instanceMethod yX12_tells ∈ lw_tbl := (List.mem_of_getElem? (i := 1248) (by decide +kernel))
theorem se_X12_tells : Cond.selects RX12 yX12_tells yX12_tells ∈ lw_tbl := (List.mem_of_getElem? (i := 1249) (by decide +kernel))
abbrev mX12_heard : zM := (RX12, cX12_heard, 9, (some .boolean), "heard", 3, 72)
theorem cd_X12_heard : zCd yX12_heard mX12_heard 5 := ⟨List.mem_of_getElem? (i := 1270) (by decide +kernel), (List.mem_of_getElem? (i := 70) (by decide +kernel)), ⟨by decide +kernel, by decide +kernel⟩, by decide +kernel⟩
theorem im_X12_heard : Cond.instanceMethod yX12_heard ∈ lw_tbl := (List.mem_of_getElem? (i := 1269) (by decide +kernel))
theorem se_X12_heard : Cond.selects RX12 yX12_heard yX12_heard ∈ lw_tbl := (List.mem_of_getElem? (i := 61) (by decide +kernel))
abbrev mX12_begins : zM := (RX12, cX12_begins, 7, (some .int), "begins", 4, 100)
theorem cd_X12_begins : zCd yX12_begins mX12_begins 4 := ⟨List.mem_of_getElem? (i := 1266) (by decide +kernel), (List.mem_of_getElem? (i := 70) (by decide +kernel)), ⟨by decide +kernel, by decide +kernel⟩, by decide +kernel⟩
theorem im_X12_begins : Cond.instanceMethod yX12_begins ∈ lw_tbl := (List.mem_of_getElem? (i := 1265) (by decide +kernel))
theorem se_X12_begins : Cond.selects RX12 yX12_begins yX12_begins ∈ lw_tbl := (List.mem_of_getElem? (i := 60) (by decide +kernel))
abbrev mX12_which : zM := (RX12, cX12_which, 6, (some .int), "which", 5, 126)
theorem cd_X12_which : zCd yX12_which mX12_which 3 := ⟨List.mem_of_getElem? (i := 1262) (by decide +kernel), (List.mem_of_getElem? (i := 70) (by decide +kernel)), ⟨by decide +kernel, by decide +kernel⟩, by decide +kernel⟩
theorem im_X12_which : Cond.instanceMethod yX12_which ∈ lw_tbl := (List.mem_of_getElem? (i := 1260) (by decide +kernel))
theorem se_X12_which : Cond.selects RX12 yX12_which yX12_which ∈ lw_tbl := (List.mem_of_getElem? (i := 1261) (by decide +kernel))
abbrev mX12_starts : zM := (RX12, cX12_starts, 5, (some .int), "starts", 5, 126)
theorem cd_X12_starts : zCd yX12_starts mX12_starts 4 := ⟨List.mem_of_getElem? (i := 1274) (by decide +kernel), (List.mem_of_getElem? (i := 70) (by decide +kernel)), ⟨by decide +kernel, by decide +kernel⟩, by decide +kernel⟩
theorem im_X12_starts : Cond.instanceMethod yX12_starts ∈ lw_tbl := (List.mem_of_getElem? (i := 1272) (by decide +kernel))
theorem se_X12_starts : Cond.selects RX12 yX12_starts yX12_starts ∈ lw_tbl := (List.mem_of_getElem? (i := 1273) (by decide +kernel))
abbrev mX12_drawn : zM := (RX12, cX12_drawn, 14, (some .int), "drawn", 3, 72)
theorem cd_X12_drawn : zCd yX12_drawn mX12_drawn 3 := ⟨List.mem_of_getElem? (i := 1278) (by decide +kernel), (List.mem_of_getElem? (i := 70) (by decide +kernel)), ⟨by decide +kernel, by decide +kernel⟩, by decide +kernel⟩
theorem im_X12_drawn : Cond.instanceMethod yX12_drawn ∈ lw_tbl := (List.mem_of_getElem? (i := 1276) (by decide +kernel))
theorem se_X12_drawn : Cond.selects RX12 yX12_drawn yX12_drawn ∈ lw_tbl := (List.mem_of_getElem? (i := 1277) (by decide +kernel))
abbrev mX12_part : zM := (RX12, cX12_part, 2, (some .long), "part", 3, 62)
theorem cd_X12_part : zCd yX12_part mX12_part 1 := ⟨List.mem_of_getElem? (i := 1283) (by decide +kernel), (List.mem_of_getElem? (i := 70) (by decide +kernel)), ⟨by decide +kernel, by decide +kernel⟩, by decide +kernel⟩
theorem im_X12_part : Cond.instanceMethod yX12_part ∈ lw_tbl := (List.mem_of_getElem? (i := 1281) (by decide +kernel))
theorem se_X12_part : Cond.selects RX12 yX12_part yX12_part ∈ lw_tbl := (List.mem_of_getElem? (i := 1282) (by decide +kernel))
abbrev mX12_image : zM := (RX12, cX12_image, 3, (some .int), "image", 3, 62)
theorem cd_X12_image : zCd yX12_image mX12_image 1 := ⟨List.mem_of_getElem? (i := 1287) (by decide +kernel), (List.mem_of_getElem? (i := 70) (by decide +kernel)), ⟨by decide +kernel, by decide +kernel⟩, by decide +kernel⟩
theorem im_X12_image : Cond.instanceMethod yX12_image ∈ lw_tbl := (List.mem_of_getElem? (i := 1285) (by decide +kernel))
theorem se_X12_image : Cond.selects RX12 yX12_image yX12_image ∈ lw_tbl := (List.mem_of_getElem? (i := 1286) (by decide +kernel))
abbrev mX12_from : zM := (RX12, cX12_from, 3, (some .int), "from", 3, 62)
theorem cd_X12_from : zCd yX12_from mX12_from 1 := ⟨List.mem_of_getElem? (i := 1291) (by decide +kernel), (List.mem_of_getElem? (i := 70) (by decide +kernel)), ⟨by decide +kernel, by decide +kernel⟩, by decide +kernel⟩
theorem im_X12_from : Cond.instanceMethod yX12_from ∈ lw_tbl := (List.mem_of_getElem? (i := 1289) (by decide +kernel))
theorem se_X12_from : Cond.selects RX12 yX12_from yX12_from ∈ lw_tbl := (List.mem_of_getElem? (i := 1290) (by decide +kernel))
abbrev mX12_status : zM := (RX12, cX12_status, 2, (some .int), "status", 2, 42)
theorem cd_X12_status : zCd yX12_status mX12_status 1 := ⟨List.mem_of_getElem? (i := 1295) (by decide +kernel), (List.mem_of_getElem? (i := 70) (by decide +kernel)), ⟨by decide +kernel, by decide +kernel⟩, by decide +kernel⟩
theorem im_X12_status : Cond.instanceMethod yX12_status ∈ lw_tbl := (List.mem_of_getElem? (i := 1293) (by decide +kernel))
theorem se_X12_status : Cond.selects RX12 yX12_status yX12_status ∈ lw_tbl := (List.mem_of_getElem? (i := 1294) (by decide +kernel))
abbrev mX12_counted : zM := (RX12, cX12_counted, 2, (some .int), "counted", 2, 42)
theorem cd_X12_counted : zCd yX12_counted mX12_counted 1 := ⟨List.mem_of_getElem? (i := 1303) (by decide +kernel), (List.mem_of_getElem? (i := 70) (by decide +kernel)), ⟨by decide +kernel, by decide +kernel⟩, by decide +kernel⟩
theorem im_X12_counted : Cond.instanceMethod yX12_counted ∈ lw_tbl := (List.mem_of_getElem? (i := 1302) (by decide +kernel))
theorem se_X12_counted : Cond.selects RX12 yX12_counted yX12_counted ∈ lw_tbl := (List.mem_of_getElem? (i := 62) (by decide +kernel))
abbrev mX12_count : zM := (RX12, cX12_count, 2, (some .int), "count", 3, 63)
theorem cd_X12_count : zCd yX12_count mX12_count 1 := ⟨List.mem_of_getElem? (i := 1299) (by decide +kernel), (List.mem_of_getElem? (i := 70) (by decide +kernel)), ⟨by decide +kernel, by decide +kernel⟩, by decide +kernel⟩
theorem im_X12_count : Cond.instanceMethod yX12_count ∈ lw_tbl := (List.mem_of_getElem? (i := 1297) (by decide +kernel))
theorem se_X12_count : Cond.selects RX12 yX12_count yX12_count ∈ lw_tbl := (List.mem_of_getElem? (i := 1298) (by decide +kernel))
abbrev mX12_digest : zM := (RX12, cX12_digest, 4, (some .long), "digest", 3, 63)
theorem cd_X12_digest : zCd yX12_digest mX12_digest 0 := ⟨List.mem_of_getElem? (i := 1307) (by decide +kernel), (List.mem_of_getElem? (i := 70) (by decide +kernel)), ⟨by decide +kernel, by decide +kernel⟩, by decide +kernel⟩
theorem im_X12_digest : Cond.instanceMethod yX12_digest ∈ lw_tbl := (List.mem_of_getElem? (i := 1305) (by decide +kernel))
theorem se_X12_digest : Cond.selects RX12 yX12_digest yX12_digest ∈ lw_tbl := (List.mem_of_getElem? (i := 1306) (by decide +kernel))
abbrev mL_law : zM := (RL, cL_law, 4, (some .boolean), "law", 11, 406)
