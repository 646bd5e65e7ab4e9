/-! THE TEXT CONSTANTS: String.length, String.charAt over the Strings of the start -/
def zwl : List Nat := [6, 4, 4, 5, 6, 3]
def zwb : List (List Int32) := [[112, 108, 97, 99, 101, 115], [115, 104, 117, 116], [103, 111, 97, 108], [98, 97, 114, 107, 115], [98, 114, 101, 97, 116, 104], [100, 111, 103]]
/-- the cells that the run has made -/
def zA0 (g : zG) : Nat → Prop := fun q => g.2.1.heap.size ≤ q
section ZOH
variable {g : zG} {t t2 : zM} {pc n : Nat} {L r rest av : List Value} {M M1 M2 : zMe} {rv r1 : Option Value} {y : MethodName}
theorem z_gst (hC : zC g) {C nm d : String} {v : Value} (hZ : va_Z C nm d v (zA0 g) g.2.1 g.2.1.heap) (hl : Cond.fieldLink t.1 n C nm d ∈ lw_tbl) (hd : decode t.2.1 pc = .ok (.getstatic n, 3)) (kk : zW g t (pc + 3) L (v :: r) M rv M2) : zW g t pc L r M rv M2 := by
  refine ⟨kk.1, kk.2.1, fun p e R s m args below meth c H ls locs cells slots Q hF hR hL hl2 hcc hss hQ => ?_⟩
  have K := kk.2.2 p e R s m args below meth c H ls locs cells slots Q hF hR hL hl2 hcc hss hQ
  obtain ⟨cf, kf, fi, f, a, cell, h1, h2, h3, h4, h5, h6, h7, h8⟩ := va_Z.moved hF.2.2.2.2.2.1.alike hZ
  exact W.gets hF.1 hF.2.1 hF.2.2.2.1 (zw_at hC hF hl rfl args) h1 h2 h3 h4 (by rw [hR.2.2.1 a (Nat.not_le.mp h8)]; exact h5) (fun e => by rw [e] at h6; cases h6) h7 rfl hd K
theorem z_gof (hC : zC g) {o nm d : String} {v : Value} {q : Nat} (hE : va_OF o nm d v q (zA0 g) g.2.1 g.2.1.heap) (hl : Cond.fieldLink t.1 n o nm d ∈ lw_tbl) (hd : decode t.2.1 pc = .ok (.getfield n, 3)) (kk : zW g t (pc + 3) L (v :: r) M rv M2) : zW g t pc L (.ref q :: r) M rv M2 := by
  refine ⟨kk.1, kk.2.1, fun p e R s m args below meth c H ls locs cells slots Q hF hR hL hl2 hcc hss hQ => ?_⟩
  have K := kk.2.2 p e R s m args below meth c H ls locs cells slots Q hF hR hL hl2 hcc hss hQ
  obtain ⟨cf, k, fi, f, cell, h1, h2, h3, h4, h5, h6⟩ := va_OF.moved hF.2.2.2.2.2.1.alike hE
  exact W.getf hF.1 hF.2.1 hF.2.2.2.1 (zw_at hC hF hl rfl args) h1 h2 (by rw [hR.2.2.1 q (Nat.not_le.mp h6)]; exact h3) h4 (v := v) h5 rfl rfl hd K
theorem z_alo {ty : FieldType} {q N : Nat} {f : Nat → Value} (hT : va_T ty q N f (zA0 g) g.2.1 g.2.1.heap) (hd : decode t.2.1 pc = .ok (.arraylength, 1)) (kk : zW g t (pc + 1) L (.int (nI N) :: r) M rv M2) : zW g t pc L (.ref q :: r) M rv M2 := by
  refine ⟨kk.1, kk.2.1, fun p e R s m args below meth c H ls locs cells slots Q hF hR hL hl2 hcc hss hQ => ?_⟩
  have K := kk.2.2 p e R s m args below meth c H ls locs cells slots Q hF hR hL hl2 hcc hss hQ
  obtain ⟨cell, h1, h2, h3, h4, h5, h6, h7⟩ := va_T.moved hF.2.2.2.2.2.1.alike hT
  exact W.alen (ty := ty) hF.1 hF.2.1 (by rw [hR.2.2.1 q (Nat.not_le.mp h7)]; exact h1) h2 h5 rfl rfl hd K
theorem z_bao {q N : Nat} {f : Nat → Value} (hT : va_T .byte q N f (zA0 g) g.2.1 g.2.1.heap) {i : Int32} (hin : vp_in i N) {v : Value} (hv : f i.toNatClampNeg = v) (hd : decode t.2.1 pc = .ok (.baload, 1)) (kk : zW g t (pc + 1) L (v :: r) M rv M2) : zW g t pc L (.int i :: .ref q :: r) M rv M2 := by
  refine ⟨kk.1, kk.2.1, fun p e R s m args below meth c H ls locs cells slots Q hF hR hL hl2 hcc hss hQ => ?_⟩
  have K := kk.2.2 p e R s m args below meth c H ls locs cells slots Q hF hR hL hl2 hcc hss hQ
  obtain ⟨cell, h1, h2, h3, h4, h5, h6, h7⟩ := va_T.moved hF.2.2.2.2.2.1.alike hT
  have hlt : i.toNatClampNeg < N := Nat.not_le.mp fun q => hin (Or.inr q)
  have hin' : ¬ (i < 0 ∨ cell.slots.size ≤ i.toNatClampNeg) := by
    intro q
    rcases q with q | q
    · exact hin (Or.inl q)
    · omega
  exact W.bald (v := v) hF.1 hF.2.1 (by rw [hR.2.2.1 q (Nat.not_le.mp h7)]; exact h1) h2 h3 hin' (by rw [h6 _ hlt, hv]) rfl rfl hd K
theorem zVo_of {p : Program} {R : Room} {s : State} {m : MethodId} {meth : Method} {c : Code} {H : Heap} (hF : zF g t p R s m meth c) (hR : zR g M H) {b : Nat} {C : String} (hb : va_O C b (zA0 g) g.2.1 g.2.1.heap) : PreV s H C b (zPc g (.ref b :: av) M) av := by
  refine ⟨zblind g _ M, ?_, fun U hU hW => ⟨rfl, by rw [hU]; exact hR, State.WarmedH.trans hF.2.2.2.2.2.1 hW⟩⟩
  obtain ⟨cell, h1, h2, h3, h4⟩ := va_O.moved hF.2.2.2.2.2.1.alike hb
  exact ⟨cell, by rw [hR.2.2.1 b (Nat.not_le.mp h4)]; exact h1, h2, h3⟩
theorem z_callVo (hC : zC g) {b : Nat} {C : String} (hb : va_O C b (zA0 g) g.2.1 g.2.1.heap) (hM : zMet g y t2 (.ref b :: av) M r1 M1) (hl : Cond.methodLink t.1 n y ∈ lw_tbl) (hi : Cond.instanceMethod y ∈ lw_tbl) (hsel : Cond.selects C y y ∈ lw_tbl) (hcd : zCd y t2 av.length) (hfit : zFit t t2 rest) (hd : decode t.2.1 pc = .ok (.invokevirtual n, 3)) (kk : zW g t (pc + 3) L (r1.toList ++ rest) M1 rv M2) : zW g t pc L (av.reverse ++ .ref b :: rest) M rv M2 :=
  zback hM kk (fun p e R s m args below meth c H ls locs cells slots hF hR hL hc1 hc2 => W.runV (Ts := []) ⟨hF.1, hF.2.1, hF.2.2.1, hF.2.2.2.1, fun _ h => by cases h⟩ hM.2.2 ⟨zB_of (rest := rest) hC hF args hcd hfit hl, zw_at hC hF hi rfl args, zw_at hC hF hsel rfl args⟩ (zVo_of hF hR hb) rfl rfl hL.1 rfl (lv_room hfit.2.2) hd ⟨hc1, hc2⟩)
end ZOH
/-- what is given of the six Strings and of two statics -/
def zStr (g : zG) (sa sv : Nat → Nat) : Prop := vk_S 6 zwl zwb sa sv (zA0 g) g.2.1 g.2.1.heap ∧ va_Z RJ0 "COMPACT_STRINGS" "Z" (.int 1) (zA0 g) g.2.1 g.2.1.heap ∧ va_Zq RJ3 "SIOOBE_FORMATTER" "Ljava/util/function/BiFunction;" (zA0 g) g.2.1 g.2.1.heap
abbrev mJ0_coder : zM := (RJ0, cJ0_coder_7d493, 1, some .byte, "coder", 0, 0)
abbrev mJ0_isLatin1 : zM := (RJ0, cJ0_isLatin1_aae02, 1, some .boolean, "isLatin1", 0, 0)
abbrev mJ0_length : zM := (RJ0, cJ0_length_8abf5, 1, some .int, "length", 1, 20)
abbrev mJ3_checkIndex : zM := (RJ3, cJ3_checkIndex_8e157, 3, some .int, "checkIndex", 0, 0)
abbrev mJ0_checkIndex : zM := (RJ0, cJ0_checkIndex_df160, 2, none, "checkIndex", 1, 22)
abbrev mJ1_charAt : zM := (RJ1, cJ1_charAt_3b067, 2, some .char, "charAt", 2, 43)
abbrev mJ0_charAt : zM := (RJ0, cJ0_charAt_5068e, 2, some .char, "charAt", 3, 64)
theorem cd_J0_coder : zCd yJ0_coder_7d493 mJ0_coder 0 := ⟨by decide +kernel, by decide +kernel, ⟨by decide +kernel, by decide +kernel⟩, by decide +kernel⟩
theorem cd_J0_isLatin1 : zCd yJ0_isLatin1_aae02 mJ0_isLatin1 0 := ⟨by decide +kernel, by decide +kernel, ⟨by decide +kernel, by decide +kernel⟩, by decide +kernel⟩
theorem cd_J0_length : zCd yJ0_length_8abf5 mJ0_length 0 := ⟨by decide +kernel, by decide +kernel, ⟨by decide +kernel, by decide +kernel⟩, by decide +kernel⟩
theorem cd_J3_checkIndex : zCd yJ3_checkIndex_8e157 mJ3_checkIndex 3 := ⟨by decide +kernel, by decide +kernel, ⟨by decide +kernel, by decide +kernel⟩, by decide +kernel⟩
theorem cd_J0_checkIndex : zCd yJ0_checkIndex_df160 mJ0_checkIndex 2 := ⟨by decide +kernel, by decide +kernel, ⟨by decide +kernel, by decide +kernel⟩, by decide +kernel⟩
theorem cd_J1_charAt : zCd yJ1_charAt_3b067 mJ1_charAt 2 := ⟨by decide +kernel, by decide +kernel, ⟨by decide +kernel, by decide +kernel⟩, by decide +kernel⟩
theorem cd_J0_charAt : zCd yJ0_charAt_5068e mJ0_charAt 1 := ⟨by decide +kernel, by decide +kernel, ⟨by decide +kernel, by decide +kernel⟩, by decide +kernel⟩
section ZSM
variable {g : zG} {sa sv : Nat → Nat} {k : Nat} {M : zMe}
theorem s_coder (hC : zC g) (hS : zStr g sa sv) (hk : k < 6) : zMet g yJ0_coder_7d493 mJ0_coder [.ref (sa k)] M (some (.int 0)) M := by
  refine z_entry (by decide +kernel) rfl rfl (Nat.le_of_ble_eq_true rfl) ?_
  refine z_gst hC hS.2.1 (by decide +kernel) dJ0_coder_7d493_0 ?_
  refine z_if_eq (tgt := 13) dJ0_coder_7d493_3 (by decide) (fun c => absurd c (by decide)) (fun _ => ?_)
  refine z_aload_n (x := sa k) rfl dJ0_coder_7d493_6 ?_
  refine z_gof hC (hS.1.1 k hk).2.1 (by decide +kernel) dJ0_coder_7d493_7 ?_
  refine z_goto (tgt := 14) dJ0_coder_7d493_10 (by decide) ?_
  exact z_iret ⟨.byte, rfl, rfl⟩ dJ0_coder_7d493_14
theorem s_isLatin1 (hC : zC g) (hS : zStr g sa sv) (hk : k < 6) : zMet g yJ0_isLatin1_aae02 mJ0_isLatin1 [.ref (sa k)] M (some (.int 1)) M := by
  refine z_entry (by decide +kernel) rfl rfl (Nat.le_of_ble_eq_true rfl) ?_
  refine z_gst hC hS.2.1 (by decide +kernel) dJ0_isLatin1_aae02_0 ?_
  refine z_if_eq (tgt := 17) dJ0_isLatin1_aae02_3 (by decide) (fun c => absurd c (by decide)) (fun _ => ?_)
  refine z_aload_n (x := sa k) rfl dJ0_isLatin1_aae02_6 ?_
  refine z_gof hC (hS.1.1 k hk).2.1 (by decide +kernel) dJ0_isLatin1_aae02_7 ?_
  refine z_if_ne (tgt := 17) dJ0_isLatin1_aae02_10 (by decide) (fun c => absurd rfl c) (fun _ => ?_)
  refine z_iconst 1 (by decide) dJ0_isLatin1_aae02_13 ?_
  refine z_goto (tgt := 18) dJ0_isLatin1_aae02_14 (by decide) ?_
  exact z_iret ⟨.boolean, rfl, rfl⟩ dJ0_isLatin1_aae02_18
theorem zwl_sh : ∀ k, k < 6 → nI (zwl.getD k 0) >>> ((0 : Int32) &&& 31) = nI (zwl.getD k 0) := by decide +kernel
theorem s_length (hC : zC g) (hS : zStr g sa sv) (hk : k < 6) : zMet g yJ0_length_8abf5 mJ0_length [.ref (sa k)] M (some (.int (nI (zwl.getD k 0)))) M := by
  refine z_entry (by decide +kernel) rfl rfl (Nat.le_of_ble_eq_true rfl) ?_
  refine z_aload_n (x := sa k) rfl dJ0_length_8abf5_0 ?_
  refine z_gof hC (hS.1.1 k hk).2.2.1 (by decide +kernel) dJ0_length_8abf5_1 ?_
  refine z_alo (hS.1.1 k hk).2.2.2 dJ0_length_8abf5_4 ?_
  refine z_aload_n (x := sa k) rfl dJ0_length_8abf5_5 ?_
  refine z_callVo (av := []) (rest := [.int (nI (zwl.getD k 0))]) (C := RJ0) hC (hS.1.1 k hk).1 (s_coder hC hS hk) (by decide +kernel) (by decide +kernel) (by decide +kernel) cd_J0_coder ⟨by decide, by decide, (Nat.le_of_ble_eq_true rfl)⟩ dJ0_length_8abf5_6 ?_
  refine z_ishr (x := nI (zwl.getD k 0)) (y := 0) dJ0_length_8abf5_9 ?_
  rw [zwl_sh k hk]
  exact z_iret ⟨.int, rfl, rfl⟩ dJ0_length_8abf5_10
theorem s_pre (hC : zC g) {i n : Int32} {w : Value} (hw : w = .null ∨ ∃ q, w = .ref q) (h0 : ¬ i < 0) (hi : i < n) : zMet g yJ3_checkIndex_8e157 mJ3_checkIndex [.int i, .int n, w] M (some (.int i)) M := by
  have main : ∀ L, L[0]? = some (.int i) → L[1]? = some (.int n) → zW g mJ3_checkIndex 0 L [] M (some (.int i)) M := by
    intro L l0 l1
    refine z_iload_n (n := 0) (x := i) l0 dJ3_checkIndex_8e157_0 ?_
    refine z_if_lt (tgt := 9) dJ3_checkIndex_8e157_1 (by decide) (fun c => absurd c h0) (fun _ => ?_)
    refine z_iload_n (n := 0) (x := i) l0 dJ3_checkIndex_8e157_4 ?_
    refine z_iload_n (n := 1) (x := n) l1 dJ3_checkIndex_8e157_5 ?_
    refine z_icmp_lt (tgt := 16) dJ3_checkIndex_8e157_6 (by decide) (fun _ => ?_) (fun c => absurd hi c)
    refine z_iload_n (n := 0) (x := i) l0 dJ3_checkIndex_8e157_16 ?_
    exact z_iret ⟨.int, rfl, rfl⟩ dJ3_checkIndex_8e157_17
  rcases hw with rfl | ⟨q, rfl⟩
  · refine z_entry (by decide +kernel) rfl rfl (Nat.le_of_ble_eq_true rfl) ?_
    exact main _ rfl rfl
  · refine z_entry (by decide +kernel) rfl rfl (Nat.le_of_ble_eq_true rfl) ?_
    exact main _ rfl rfl
theorem s_check (hC : zC g) (hS : zStr g sa sv) {i n : Int32} (h0 : ¬ i < 0) (hi : i < n) : zMet g yJ0_checkIndex_df160 mJ0_checkIndex [.int i, .int n] M none M := by
  obtain ⟨w, hw, hZ⟩ : ∃ w, (w = .null ∨ ∃ q, w = .ref q) ∧ va_Z RJ3 "SIOOBE_FORMATTER" "Ljava/util/function/BiFunction;" w (zA0 g) g.2.1 g.2.1.heap := by
    rcases hS.2.2 with h | ⟨q, h⟩
    · exact ⟨.null, Or.inl rfl, h⟩
    · exact ⟨.ref q, Or.inr ⟨q, rfl⟩, h⟩
  refine z_entry (by decide +kernel) rfl rfl (Nat.le_of_ble_eq_true rfl) ?_
  refine z_iload_n (x := i) rfl dJ0_checkIndex_df160_0 ?_
  refine z_iload_n (x := n) rfl dJ0_checkIndex_df160_1 ?_
  refine z_gst hC hZ (by decide +kernel) dJ0_checkIndex_df160_2 ?_
  refine z_callS (av := [.int i, .int n, w]) (rest := []) hC (s_pre hC hw h0 hi) (by decide +kernel) (by decide +kernel) cd_J3_checkIndex ⟨by decide, by decide, (Nat.le_of_ble_eq_true rfl)⟩ dJ0_checkIndex_df160_5 ?_
  refine z_pop (v := .int i) rfl dJ0_checkIndex_df160_8 ?_
  exact z_ret rfl dJ0_checkIndex_df160_9
theorem zwb_ch : ∀ k, k < 6 → ∀ j, j < zwl.getD k 0 → ((((zwb.getD k []).getD j 0) &&& (255 : Int32)).toUInt32 % 65536).toInt32 = (zwb.getD k []).getD j 0 := by decide +kernel
theorem zwl_8 : ∀ k, k < 6 → zwl.getD k 0 ≤ 8 := by decide +kernel
theorem s_char1 (hC : zC g) (hS : zStr g sa sv) (hk : k < 6) {i : Int32} (h0 : ¬ i < 0) (hi : i.toNatClampNeg < zwl.getD k 0) : zMet g yJ1_charAt_3b067 mJ1_charAt [.ref (sv k), .int i] M (some (.int ((zwb.getD k []).getD i.toNatClampNeg 0))) M := by
  have h8 := zwl_8 k hk
  have ei : i = nI i.toNatClampNeg := by
    obtain ⟨j, hj, rfl⟩ := nI_of h0
    rw [nI_clamp hj]
  have hlt : i < nI (zwl.getD k 0) := by
    rw [ei]
    exact nI_lt hi (by omega)
  refine z_entry (by decide +kernel) rfl rfl (Nat.le_of_ble_eq_true rfl) ?_
  refine z_iload_n (x := i) rfl dJ1_charAt_3b067_0 ?_
  refine z_aload_n (x := sv k) rfl dJ1_charAt_3b067_1 ?_
  refine z_alo (hS.1.1 k hk).2.2.2 dJ1_charAt_3b067_2 ?_
  refine z_callS (av := [.int i, .int (nI (zwl.getD k 0))]) (rest := []) hC (s_check hC hS h0 hlt) (by decide +kernel) (by decide +kernel) cd_J0_checkIndex ⟨by decide, by decide, (Nat.le_of_ble_eq_true rfl)⟩ dJ1_charAt_3b067_3 ?_
  refine z_aload_n (x := sv k) rfl dJ1_charAt_3b067_6 ?_
  refine z_iload_n (x := i) rfl dJ1_charAt_3b067_7 ?_
  refine z_bao (hS.1.1 k hk).2.2.2 (fun o => o.elim h0 (fun z => by omega)) (v := .int ((zwb.getD k []).getD i.toNatClampNeg 0)) rfl dJ1_charAt_3b067_8 ?_
  refine z_sipush 255 (by decide) dJ1_charAt_3b067_9 ?_
  refine z_iand dJ1_charAt_3b067_12 ?_
  refine z_i2c dJ1_charAt_3b067_13 ?_
  have ec := zwb_ch k hk i.toNatClampNeg hi
  have en : narrow .char (.int ((((zwb.getD k []).getD i.toNatClampNeg 0 &&& (255 : Int32)).toUInt32 % 65536).toInt32)) = .int ((((zwb.getD k []).getD i.toNatClampNeg 0 &&& (255 : Int32)).toUInt32 % 65536).toInt32) := by
    rw [ec]
    show Value.int _ = Value.int _
    have hall : ∀ k, k < 6 → ∀ j, j < zwl.getD k 0 → (((zwb.getD k []).getD j 0).toUInt32 % 65536).toInt32 = (zwb.getD k []).getD j 0 := by decide +kernel
    exact congrArg Value.int (hall k hk _ hi)
  have fin := z_iret (g := g) (t := mJ1_charAt) (L := zEn0 2 [.ref (sv k), .int i]) (M := M) (x := (((zwb.getD k []).getD i.toNatClampNeg 0 &&& (255 : Int32)).toUInt32 % 65536).toInt32) ⟨.char, rfl, en⟩ dJ1_charAt_3b067_14
  rw [ec] at fin ⊢
  exact fin
theorem s_charAt (hC : zC g) (hS : zStr g sa sv) (hk : k < 6) {i : Int32} (h0 : ¬ i < 0) (hi : i.toNatClampNeg < zwl.getD k 0) : zMet g yJ0_charAt_5068e mJ0_charAt [.ref (sa k), .int i] M (some (.int ((zwb.getD k []).getD i.toNatClampNeg 0))) M := by
  have hall : ∀ k, k < 6 → ∀ j, j < zwl.getD k 0 → (((zwb.getD k []).getD j 0).toUInt32 % 65536).toInt32 = (zwb.getD k []).getD j 0 := by decide +kernel
  refine z_entry (by decide +kernel) rfl rfl (Nat.le_of_ble_eq_true rfl) ?_
  refine z_aload_n (x := sa k) rfl dJ0_charAt_5068e_0 ?_
  refine z_callVo (av := []) (rest := []) (C := RJ0) hC (hS.1.1 k hk).1 (s_isLatin1 hC hS hk) (by decide +kernel) (by decide +kernel) (by decide +kernel) cd_J0_isLatin1 ⟨by decide, by decide, (Nat.le_of_ble_eq_true rfl)⟩ dJ0_charAt_5068e_1 ?_
  refine z_if_eq (x := 1) (tgt := 16) dJ0_charAt_5068e_4 (by decide) (fun c => absurd c (by decide)) (fun _ => ?_)
  refine z_aload_n (x := sa k) rfl dJ0_charAt_5068e_7 ?_
  refine z_gof hC (hS.1.1 k hk).2.2.1 (by decide +kernel) dJ0_charAt_5068e_8 ?_
  refine z_iload_n (x := i) rfl dJ0_charAt_5068e_11 ?_
  refine z_callS (av := [.ref (sv k), .int i]) (rest := []) hC (s_char1 hC hS hk h0 hi) (by decide +kernel) (by decide +kernel) cd_J1_charAt ⟨by decide, by decide, (Nat.le_of_ble_eq_true rfl)⟩ dJ0_charAt_5068e_12 ?_
  exact z_iret ⟨.char, rfl, congrArg Value.int (hall k hk _ hi)⟩ dJ0_charAt_5068e_15
end ZSM
