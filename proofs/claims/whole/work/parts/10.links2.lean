theorem lk_X7_43 : Cond.methodLink RX7 43 yX7_isWord ∈ lw_tbl := by decide +kernel
theorem fs_X7_66 : zFs RX7 66 [2] 1 := by
  intro ci h
  simp only [List.mem_cons, List.not_mem_nil, or_false] at h
  rcases h with rfl
  · exact ⟨RX2, TX2, _, tyX2, zcl_2, by decide, "OneWhistle$Hill", by decide +kernel, Or.inl rfl⟩
theorem lk_X7_69 : Cond.methodLink RX7 69 yX7_takePlaceBit ∈ lw_tbl := by decide +kernel
theorem fp_X7_66 {nm : String} : zFp RX7 66 [2] 1 (.int) nm := by
  intro ci h
  simp only [List.mem_cons, List.not_mem_nil, or_false] at h
  rcases h with rfl
  · exact ⟨RX2, TX2, _, tyX2, zcl_2, by decide, ⟨"OneWhistle$Hill", by decide +kernel, Or.inl rfl⟩, rfl, Or.inl rfl⟩
theorem fp_X7_78 {nm : String} : zFp RX7 78 [2] 2 (.int) nm := by
  intro ci h
  simp only [List.mem_cons, List.not_mem_nil, or_false] at h
  rcases h with rfl
  · exact ⟨RX2, TX2, _, tyX2, zcl_2, by decide, ⟨"OneWhistle$Hill", by decide +kernel, Or.inl rfl⟩, rfl, Or.inl rfl⟩
theorem fs_X7_82 : zFs RX7 82 [2] 3 := by
  intro ci h
  simp only [List.mem_cons, List.not_mem_nil, or_false] at h
  rcases h with rfl
  · exact ⟨RX2, TX2, _, tyX2, zcl_2, by decide, "OneWhistle$Hill", by decide +kernel, Or.inl rfl⟩
theorem fp_X7_82 {nm : String} : zFp RX7 82 [2] 3 (.int) nm := by
  intro ci h
  simp only [List.mem_cons, List.not_mem_nil, or_false] at h
  rcases h with rfl
  · exact ⟨RX2, TX2, _, tyX2, zcl_2, by decide, ⟨"OneWhistle$Hill", by decide +kernel, Or.inl rfl⟩, rfl, Or.inl rfl⟩
theorem lk_X7_87 : Cond.methodLink RX7 87 yX7_readBreath ∈ lw_tbl := by decide +kernel
theorem lk_X7_92 : Cond.methodLink RX7 92 yX2_isFull ∈ lw_tbl := by decide +kernel
theorem lk_X7_96 : Cond.methodLink RX7 96 yX7_readDog ∈ lw_tbl := by decide +kernel
theorem lk_X7_54 : Cond.methodLink RX7 54 yX7_takeMark ∈ lw_tbl := by decide +kernel
theorem lk_X7_57 : Cond.methodLink RX7 57 yX2_settle ∈ lw_tbl := by decide +kernel
theorem lk_X7_61 : Cond.methodLink RX7 61 yX7_readItem ∈ lw_tbl := by decide +kernel
theorem cl_X11_141 : Cond.classLink RX11 141 RX7 ∈ lw_tbl := by decide +kernel
theorem lk_X11_143 : Cond.methodLink RX11 143 yX7_init ∈ lw_tbl := by decide +kernel
theorem lk_X11_146 : Cond.methodLink RX11 146 yX7_readHill ∈ lw_tbl := by decide +kernel
theorem fs_X11_149 : zFs RX11 149 [7] 1 := by
  intro ci h
  simp only [List.mem_cons, List.not_mem_nil, or_false] at h
  rcases h with rfl
  · exact ⟨RX7, TX7, _, tyX7, zcl_7, by decide, "OneWhistle$Reader", by decide +kernel, Or.inl rfl⟩
theorem fs_X11_152 : zFs RX11 152 [7] 0 := by
  intro ci h
  simp only [List.mem_cons, List.not_mem_nil, or_false] at h
  rcases h with rfl
  · exact ⟨RX7, TX7, _, tyX7, zcl_7, by decide, "OneWhistle$Reader", by decide +kernel, Or.inl rfl⟩
theorem cl_L_7 : Cond.classLink RL 7 RX11 ∈ lw_tbl := by decide +kernel
theorem lk_L_9 : Cond.methodLink RL 9 yX11_init ∈ lw_tbl := by decide +kernel
theorem cl_L_10 : Cond.classLink RL 10 RX12 ∈ lw_tbl := by decide +kernel
theorem lk_L_12 : Cond.methodLink RL 12 yX12_init ∈ lw_tbl := by decide +kernel
theorem lk_L_13 : Cond.methodLink RL 13 yX11_places ∈ lw_tbl := by decide +kernel
theorem lk_L_17 : Cond.methodLink RL 17 yX12_places ∈ lw_tbl := by decide +kernel
theorem lk_L_18 : Cond.methodLink RL 18 yX11_dog ∈ lw_tbl := by decide +kernel
theorem lk_L_22 : Cond.methodLink RL 22 yX12_dog ∈ lw_tbl := by decide +kernel
theorem lk_L_23 : Cond.methodLink RL 23 yX11_pup ∈ lw_tbl := by decide +kernel
theorem lk_L_27 : Cond.methodLink RL 27 yX12_pup ∈ lw_tbl := by decide +kernel
theorem lk_L_28 : Cond.methodLink RL 28 yX11_shut ∈ lw_tbl := by decide +kernel
theorem lk_L_32 : Cond.methodLink RL 32 yX12_shut ∈ lw_tbl := by decide +kernel
theorem lk_L_33 : Cond.methodLink RL 33 yX11_put ∈ lw_tbl := by decide +kernel
theorem lk_L_37 : Cond.methodLink RL 37 yX12_put ∈ lw_tbl := by decide +kernel
theorem kl_L_38 : Cond.constantLong RL 38 (4294967295) ∈ lw_tbl := by decide +kernel
theorem lk_L_40 : Cond.methodLink RL 40 yX11_type ∈ lw_tbl := by decide +kernel
theorem lk_L_44 : Cond.methodLink RL 44 yX12_type ∈ lw_tbl := by decide +kernel
theorem lk_L_45 : Cond.methodLink RL 45 yX11_clear ∈ lw_tbl := by decide +kernel
theorem lk_L_49 : Cond.methodLink RL 49 yX12_clear ∈ lw_tbl := by decide +kernel
theorem lk_L_50 : Cond.methodLink RL 50 yX11_read ∈ lw_tbl := by decide +kernel
theorem lk_L_53 : Cond.methodLink RL 53 yX12_read ∈ lw_tbl := by decide +kernel
theorem lk_L_54 : Cond.methodLink RL 54 yX11_goes ∈ lw_tbl := by decide +kernel
theorem lk_L_58 : Cond.methodLink RL 58 yX12_goes ∈ lw_tbl := by decide +kernel
theorem lk_L_59 : Cond.methodLink RL 59 yX11_run ∈ lw_tbl := by decide +kernel
theorem lk_L_62 : Cond.methodLink RL 62 yX12_run ∈ lw_tbl := by decide +kernel
theorem lk_L_63 : Cond.methodLink RL 63 yX11_meets ∈ lw_tbl := by decide +kernel
theorem lk_L_66 : Cond.methodLink RL 66 yX12_meets ∈ lw_tbl := by decide +kernel
theorem lk_L_67 : Cond.methodLink RL 67 yX11_tame ∈ lw_tbl := by decide +kernel
theorem lk_L_70 : Cond.methodLink RL 70 yX12_tame ∈ lw_tbl := by decide +kernel
theorem lk_L_71 : Cond.methodLink RL 71 yX11_quiet ∈ lw_tbl := by decide +kernel
theorem lk_L_74 : Cond.methodLink RL 74 yX12_quiet ∈ lw_tbl := by decide +kernel
theorem lk_L_75 : Cond.methodLink RL 75 yX11_apart ∈ lw_tbl := by decide +kernel
theorem lk_L_78 : Cond.methodLink RL 78 yX12_apart ∈ lw_tbl := by decide +kernel
theorem lk_L_79 : Cond.methodLink RL 79 yX11_shuts ∈ lw_tbl := by decide +kernel
theorem lk_L_82 : Cond.methodLink RL 82 yX12_shuts ∈ lw_tbl := by decide +kernel
theorem lk_L_83 : Cond.methodLink RL 83 yX11_neighbour ∈ lw_tbl := by decide +kernel
theorem lk_L_86 : Cond.methodLink RL 86 yX12_neighbour ∈ lw_tbl := by decide +kernel
theorem lk_L_87 : Cond.methodLink RL 87 yX11_tells ∈ lw_tbl := by decide +kernel
theorem lk_L_90 : Cond.methodLink RL 90 yX12_tells ∈ lw_tbl := by decide +kernel
theorem lk_L_91 : Cond.methodLink RL 91 yX11_which ∈ lw_tbl := by decide +kernel
theorem lk_L_94 : Cond.methodLink RL 94 yX12_which ∈ lw_tbl := by decide +kernel
theorem lk_L_95 : Cond.methodLink RL 95 yX11_starts ∈ lw_tbl := by decide +kernel
theorem lk_L_98 : Cond.methodLink RL 98 yX12_starts ∈ lw_tbl := by decide +kernel
theorem lk_L_99 : Cond.methodLink RL 99 yX11_drawn ∈ lw_tbl := by decide +kernel
theorem lk_L_102 : Cond.methodLink RL 102 yX12_drawn ∈ lw_tbl := by decide +kernel
theorem lk_L_103 : Cond.methodLink RL 103 yX11_part ∈ lw_tbl := by decide +kernel
theorem lk_L_107 : Cond.methodLink RL 107 yX12_part ∈ lw_tbl := by decide +kernel
theorem lk_L_108 : Cond.methodLink RL 108 yX11_image ∈ lw_tbl := by decide +kernel
theorem lk_L_111 : Cond.methodLink RL 111 yX12_image ∈ lw_tbl := by decide +kernel
theorem lk_L_112 : Cond.methodLink RL 112 yX11_from ∈ lw_tbl := by decide +kernel
theorem lk_L_115 : Cond.methodLink RL 115 yX12_from ∈ lw_tbl := by decide +kernel
theorem lk_L_116 : Cond.methodLink RL 116 yX11_status ∈ lw_tbl := by decide +kernel
theorem lk_L_119 : Cond.methodLink RL 119 yX12_status ∈ lw_tbl := by decide +kernel
theorem lk_L_120 : Cond.methodLink RL 120 yX11_count ∈ lw_tbl := by decide +kernel
theorem lk_L_123 : Cond.methodLink RL 123 yX12_count ∈ lw_tbl := by decide +kernel
theorem lk_L_124 : Cond.methodLink RL 124 yX11_digest ∈ lw_tbl := by decide +kernel
theorem lk_L_128 : Cond.methodLink RL 128 yX12_digest ∈ lw_tbl := by decide +kernel
abbrev mX7_isWord : zM := (RX7, cX7_isWord, 3, (some .boolean), "isWord", 2, 41)
theorem cd_X7_isWord : zCd yX7_isWord mX7_isWord 1 := ⟨by decide +kernel, by decide +kernel, ⟨by decide +kernel, by decide +kernel⟩, by decide +kernel⟩
theorem im_X7_isWord : Cond.instanceMethod yX7_isWord ∈ lw_tbl := by decide +kernel
theorem se_X7_isWord : Cond.selects RX7 yX7_isWord yX7_isWord ∈ lw_tbl := by decide +kernel
abbrev mX7_readItem : zM := (RX7, cX7_readItem, 1, none, "readItem", 6, 146)
theorem cd_X7_readItem : zCd yX7_readItem mX7_readItem 0 := ⟨by decide +kernel, by decide +kernel, ⟨by decide +kernel, by decide +kernel⟩, by decide +kernel⟩
theorem im_X7_readItem : Cond.instanceMethod yX7_readItem ∈ lw_tbl := by decide +kernel
theorem se_X7_readItem : Cond.selects RX7 yX7_readItem yX7_readItem ∈ lw_tbl := by decide +kernel
abbrev mX7_readHill : zM := (RX7, cX7_readHill, 3, none, "readHill", 7, 166)
theorem cd_X7_readHill : zCd yX7_readHill mX7_readHill 0 := ⟨by decide +kernel, by decide +kernel, ⟨by decide +kernel, by decide +kernel⟩, by decide +kernel⟩
theorem im_X7_readHill : Cond.instanceMethod yX7_readHill ∈ lw_tbl := by decide +kernel
theorem se_X7_readHill : Cond.selects RX7 yX7_readHill yX7_readHill ∈ lw_tbl := by decide +kernel
abbrev mX11_read : zM := (RX11, cX11_read, 2, (some .int), "read", 8, 188)
theorem cd_X11_read : zCd yX11_read mX11_read 0 := ⟨by decide +kernel, by decide +kernel, ⟨by decide +kernel, by decide +kernel⟩, by decide +kernel⟩
theorem im_X11_read : Cond.instanceMethod yX11_read ∈ lw_tbl := by decide +kernel
theorem se_X11_read : Cond.selects RX11 yX11_read yX11_read ∈ lw_tbl := by decide +kernel
abbrev mL_law : zM := (RL, cL_law, 4, (some .boolean), "law", 11, 406)
