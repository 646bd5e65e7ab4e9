section
-- ===== PART A: goes FIRST, ahead of the names: the tables' words, and 'selects' of the private methods out of them =====
/-- a private method of a class that the tables say can be made, by its rows of tables_1 -/
def lw_okq (q : MethodName × Nat) : Prop := (q.1.cls ≠ "java/lang/invoke/MethodHandle" ∧ q.1.cls ≠ "java/lang/invoke/VarHandle") ∧ Cond.instantiable q.1.cls q.2 ∈ tables_1 ∧ Cond.privateMethod q.1 ∈ tables_1 ∧ Cond.instanceMethod q.1 ∈ tables_1
theorem lw_p0 : lw_okq (⟨"OneWhistle", "refusedBad", "(I)I"⟩, 14) := ⟨⟨by decide +kernel, by decide +kernel⟩, List.mem_of_getElem? (i := 23) (by decide +kernel), List.mem_of_getElem? (i := 222) (by decide +kernel), List.mem_of_getElem? (i := 223) (by decide +kernel)⟩
theorem lw_p1 : lw_okq (⟨"OneWhistle", "refusedFull", "()I"⟩, 14) := ⟨⟨by decide +kernel, by decide +kernel⟩, List.mem_of_getElem? (i := 23) (by decide +kernel), List.mem_of_getElem? (i := 245) (by decide +kernel), List.mem_of_getElem? (i := 246) (by decide +kernel)⟩
theorem lw_p2 : lw_okq (⟨"OneWhistle", "refusedNo", "()I"⟩, 14) := ⟨⟨by decide +kernel, by decide +kernel⟩, List.mem_of_getElem? (i := 23) (by decide +kernel), List.mem_of_getElem? (i := 351) (by decide +kernel), List.mem_of_getElem? (i := 352) (by decide +kernel)⟩
theorem lw_p3 : lw_okq (⟨"OneWhistle", "canPut", "(II)Z"⟩, 14) := ⟨⟨by decide +kernel, by decide +kernel⟩, List.mem_of_getElem? (i := 23) (by decide +kernel), List.mem_of_getElem? (i := 359) (by decide +kernel), List.mem_of_getElem? (i := 360) (by decide +kernel)⟩
theorem lw_p4 : lw_okq (⟨"OneWhistle$Reader", "advance", "()V"⟩, 7) := ⟨⟨by decide +kernel, by decide +kernel⟩, List.mem_of_getElem? (i := 379) (by decide +kernel), List.mem_of_getElem? (i := 415) (by decide +kernel), List.mem_of_getElem? (i := 416) (by decide +kernel)⟩
theorem lw_p5 : lw_okq (⟨"OneWhistle$Reader", "byteAt", "(I)I"⟩, 7) := ⟨⟨by decide +kernel, by decide +kernel⟩, List.mem_of_getElem? (i := 379) (by decide +kernel), List.mem_of_getElem? (i := 419) (by decide +kernel), List.mem_of_getElem? (i := 420) (by decide +kernel)⟩
theorem lw_p6 : lw_okq (⟨"OneWhistle$Reader", "isWord", "(Ljava/lang/String;)Z"⟩, 7) := ⟨⟨by decide +kernel, by decide +kernel⟩, List.mem_of_getElem? (i := 379) (by decide +kernel), List.mem_of_getElem? (i := 427) (by decide +kernel), List.mem_of_getElem? (i := 428) (by decide +kernel)⟩
theorem lw_p7 : lw_okq (⟨"OneWhistle$Reader", "fail", "()V"⟩, 7) := ⟨⟨by decide +kernel, by decide +kernel⟩, List.mem_of_getElem? (i := 379) (by decide +kernel), List.mem_of_getElem? (i := 479) (by decide +kernel), List.mem_of_getElem? (i := 480) (by decide +kernel)⟩
theorem lw_p8 : lw_okq (⟨"OneWhistle$Reader", "takeNumber", "(II)I"⟩, 7) := ⟨⟨by decide +kernel, by decide +kernel⟩, List.mem_of_getElem? (i := 379) (by decide +kernel), List.mem_of_getElem? (i := 483) (by decide +kernel), List.mem_of_getElem? (i := 484) (by decide +kernel)⟩
theorem lw_p9 : lw_okq (⟨"OneWhistle$Reader", "takeMark", "()V"⟩, 7) := ⟨⟨by decide +kernel, by decide +kernel⟩, List.mem_of_getElem? (i := 379) (by decide +kernel), List.mem_of_getElem? (i := 487) (by decide +kernel), List.mem_of_getElem? (i := 488) (by decide +kernel)⟩
theorem lw_p10 : lw_okq (⟨"OneWhistle$Reader", "readItem", "()V"⟩, 7) := ⟨⟨by decide +kernel, by decide +kernel⟩, List.mem_of_getElem? (i := 379) (by decide +kernel), List.mem_of_getElem? (i := 492) (by decide +kernel), List.mem_of_getElem? (i := 493) (by decide +kernel)⟩
theorem lw_p11 : lw_okq (⟨"OneWhistle$Reader", "takePlaceBit", "()I"⟩, 7) := ⟨⟨by decide +kernel, by decide +kernel⟩, List.mem_of_getElem? (i := 379) (by decide +kernel), List.mem_of_getElem? (i := 497) (by decide +kernel), List.mem_of_getElem? (i := 498) (by decide +kernel)⟩
theorem lw_p12 : lw_okq (⟨"OneWhistle$Reader", "readBreath", "()V"⟩, 7) := ⟨⟨by decide +kernel, by decide +kernel⟩, List.mem_of_getElem? (i := 379) (by decide +kernel), List.mem_of_getElem? (i := 504) (by decide +kernel), List.mem_of_getElem? (i := 505) (by decide +kernel)⟩
theorem lw_p13 : lw_okq (⟨"OneWhistle$Reader", "readDog", "()V"⟩, 7) := ⟨⟨by decide +kernel, by decide +kernel⟩, List.mem_of_getElem? (i := 379) (by decide +kernel), List.mem_of_getElem? (i := 510) (by decide +kernel), List.mem_of_getElem? (i := 511) (by decide +kernel)⟩
theorem lw_p14 : lw_okq (⟨"OneWhistle$Reader", "takeRow", "()I"⟩, 7) := ⟨⟨by decide +kernel, by decide +kernel⟩, List.mem_of_getElem? (i := 379) (by decide +kernel), List.mem_of_getElem? (i := 514) (by decide +kernel), List.mem_of_getElem? (i := 515) (by decide +kernel)⟩
theorem lw_p15 : lw_okq (⟨"OneWhistle$Lane", "joinSets", "(I)V"⟩, 4) := ⟨⟨by decide +kernel, by decide +kernel⟩, List.mem_of_getElem? (i := 87) (by decide +kernel), List.mem_of_getElem? (i := 627) (by decide +kernel), List.mem_of_getElem? (i := 628) (by decide +kernel)⟩
def lw_privs_1 : List (MethodName × Nat) := [(⟨"OneWhistle", "refusedBad", "(I)I"⟩, 14), (⟨"OneWhistle", "refusedFull", "()I"⟩, 14), (⟨"OneWhistle", "refusedNo", "()I"⟩, 14), (⟨"OneWhistle", "canPut", "(II)Z"⟩, 14), (⟨"OneWhistle$Reader", "advance", "()V"⟩, 7), (⟨"OneWhistle$Reader", "byteAt", "(I)I"⟩, 7), (⟨"OneWhistle$Reader", "isWord", "(Ljava/lang/String;)Z"⟩, 7), (⟨"OneWhistle$Reader", "fail", "()V"⟩, 7), (⟨"OneWhistle$Reader", "takeNumber", "(II)I"⟩, 7), (⟨"OneWhistle$Reader", "takeMark", "()V"⟩, 7), (⟨"OneWhistle$Reader", "readItem", "()V"⟩, 7), (⟨"OneWhistle$Reader", "takePlaceBit", "()I"⟩, 7), (⟨"OneWhistle$Reader", "readBreath", "()V"⟩, 7), (⟨"OneWhistle$Reader", "readDog", "()V"⟩, 7), (⟨"OneWhistle$Reader", "takeRow", "()I"⟩, 7), (⟨"OneWhistle$Lane", "joinSets", "(I)V"⟩, 4)]
theorem lw_r1 : ∀ q ∈ lw_privs_1, lw_okq q := List.forall_mem_cons.mpr ⟨lw_p0, List.forall_mem_cons.mpr ⟨lw_p1, List.forall_mem_cons.mpr ⟨lw_p2, List.forall_mem_cons.mpr ⟨lw_p3, List.forall_mem_cons.mpr ⟨lw_p4, List.forall_mem_cons.mpr ⟨lw_p5, List.forall_mem_cons.mpr ⟨lw_p6, List.forall_mem_cons.mpr ⟨lw_p7, List.forall_mem_cons.mpr ⟨lw_p8, List.forall_mem_cons.mpr ⟨lw_p9, List.forall_mem_cons.mpr ⟨lw_p10, List.forall_mem_cons.mpr ⟨lw_p11, List.forall_mem_cons.mpr ⟨lw_p12, List.forall_mem_cons.mpr ⟨lw_p13, List.forall_mem_cons.mpr ⟨lw_p14, List.forall_mem_cons.mpr ⟨lw_p15, fun _ h => absurd h List.not_mem_nil⟩⟩⟩⟩⟩⟩⟩⟩⟩⟩⟩⟩⟩⟩⟩⟩
theorem lw_p16 : lw_okq (⟨"OneWhistle$Chase", "offer", "(IIII)V"⟩, 11) := ⟨⟨by decide +kernel, by decide +kernel⟩, List.mem_of_getElem? (i := 80) (by decide +kernel), List.mem_of_getElem? (i := 659) (by decide +kernel), List.mem_of_getElem? (i := 660) (by decide +kernel)⟩
theorem lw_p17 : lw_okq (⟨"OneWhistle$Chase", "keyOf", "(II)I"⟩, 11) := ⟨⟨by decide +kernel, by decide +kernel⟩, List.mem_of_getElem? (i := 80) (by decide +kernel), List.mem_of_getElem? (i := 676) (by decide +kernel), List.mem_of_getElem? (i := 677) (by decide +kernel)⟩
theorem lw_p18 : lw_okq (⟨"OneWhistle$Seen", "slotFor", "(I)I"⟩, 3) := ⟨⟨by decide +kernel, by decide +kernel⟩, List.mem_of_getElem? (i := 108) (by decide +kernel), List.mem_of_getElem? (i := 684) (by decide +kernel), List.mem_of_getElem? (i := 685) (by decide +kernel)⟩
theorem lw_p19 : lw_okq (⟨"OneWhistle$Seen", "isOurs", "(J)Z"⟩, 3) := ⟨⟨by decide +kernel, by decide +kernel⟩, List.mem_of_getElem? (i := 108) (by decide +kernel), List.mem_of_getElem? (i := 689) (by decide +kernel), List.mem_of_getElem? (i := 690) (by decide +kernel)⟩
theorem lw_p20 : lw_okq (⟨"OneWhistle$Seen", "grow", "()V"⟩, 3) := ⟨⟨by decide +kernel, by decide +kernel⟩, List.mem_of_getElem? (i := 108) (by decide +kernel), List.mem_of_getElem? (i := 700) (by decide +kernel), List.mem_of_getElem? (i := 701) (by decide +kernel)⟩
theorem lw_p21 : lw_okq (⟨"OneWhistle$Chase", "keep", "(III)V"⟩, 11) := ⟨⟨by decide +kernel, by decide +kernel⟩, List.mem_of_getElem? (i := 80) (by decide +kernel), List.mem_of_getElem? (i := 705) (by decide +kernel), List.mem_of_getElem? (i := 706) (by decide +kernel)⟩
theorem lw_p22 : lw_okq (⟨"OneWhistle$Chase", "takeLater", "(I)I"⟩, 11) := ⟨⟨by decide +kernel, by decide +kernel⟩, List.mem_of_getElem? (i := 80) (by decide +kernel), List.mem_of_getElem? (i := 724) (by decide +kernel), List.mem_of_getElem? (i := 725) (by decide +kernel)⟩
theorem lw_p23 : lw_okq (⟨"OneWhistle$Chase", "whistleOn", "(IJII)V"⟩, 11) := ⟨⟨by decide +kernel, by decide +kernel⟩, List.mem_of_getElem? (i := 80) (by decide +kernel), List.mem_of_getElem? (i := 739) (by decide +kernel), List.mem_of_getElem? (i := 740) (by decide +kernel)⟩
theorem lw_p24 : lw_okq (⟨"OneWhistle$Chase", "packBehind", "(III)I"⟩, 11) := ⟨⟨by decide +kernel, by decide +kernel⟩, List.mem_of_getElem? (i := 80) (by decide +kernel), List.mem_of_getElem? (i := 747) (by decide +kernel), List.mem_of_getElem? (i := 748) (by decide +kernel)⟩
theorem lw_p25 : lw_okq (⟨"OneWhistle$Lane", "growMeetings", "()Z"⟩, 4) := ⟨⟨by decide +kernel, by decide +kernel⟩, List.mem_of_getElem? (i := 87) (by decide +kernel), List.mem_of_getElem? (i := 780) (by decide +kernel), List.mem_of_getElem? (i := 781) (by decide +kernel)⟩
theorem lw_p26 : lw_okq (⟨"OneWhistle$Teller", "neededBy", "(LOneWhistle$Lane;III)I"⟩, 2) := ⟨⟨by decide +kernel, by decide +kernel⟩, List.mem_of_getElem? (i := 162) (by decide +kernel), List.mem_of_getElem? (i := 808) (by decide +kernel), List.mem_of_getElem? (i := 809) (by decide +kernel)⟩
theorem lw_p27 : lw_okq (⟨"OneWhistle", "origins", "(LOneWhistle$Plain;III)I"⟩, 14) := ⟨⟨by decide +kernel, by decide +kernel⟩, List.mem_of_getElem? (i := 23) (by decide +kernel), List.mem_of_getElem? (i := 834) (by decide +kernel), List.mem_of_getElem? (i := 835) (by decide +kernel)⟩
theorem lw_p28 : lw_okq (⟨"OneWhistle", "soundsSo", "(LOneWhistle$Plain;IIII)Z"⟩, 14) := ⟨⟨by decide +kernel, by decide +kernel⟩, List.mem_of_getElem? (i := 23) (by decide +kernel), List.mem_of_getElem? (i := 838) (by decide +kernel), List.mem_of_getElem? (i := 839) (by decide +kernel)⟩
theorem lw_p29 : lw_okq (⟨"OneWhistle", "drawOne", "(LOneWhistle$Plain;II)V"⟩, 14) := ⟨⟨by decide +kernel, by decide +kernel⟩, List.mem_of_getElem? (i := 23) (by decide +kernel), List.mem_of_getElem? (i := 853) (by decide +kernel), List.mem_of_getElem? (i := 854) (by decide +kernel)⟩
theorem lw_p30 : lw_okq (⟨"OneWhistle", "keepFraction", "(JJ)V"⟩, 14) := ⟨⟨by decide +kernel, by decide +kernel⟩, List.mem_of_getElem? (i := 23) (by decide +kernel), List.mem_of_getElem? (i := 859) (by decide +kernel), List.mem_of_getElem? (i := 860) (by decide +kernel)⟩
theorem lw_p31 : lw_okq (⟨"OneWhistleModel", "bad", "()I"⟩, 21) := ⟨⟨by decide +kernel, by decide +kernel⟩, List.mem_of_getElem? (i := 923) (by decide +kernel), List.mem_of_getElem? (i := 1002) (by decide +kernel), List.mem_of_getElem? (i := 1003) (by decide +kernel)⟩
def lw_privs_2 : List (MethodName × Nat) := [(⟨"OneWhistle$Chase", "offer", "(IIII)V"⟩, 11), (⟨"OneWhistle$Chase", "keyOf", "(II)I"⟩, 11), (⟨"OneWhistle$Seen", "slotFor", "(I)I"⟩, 3), (⟨"OneWhistle$Seen", "isOurs", "(J)Z"⟩, 3), (⟨"OneWhistle$Seen", "grow", "()V"⟩, 3), (⟨"OneWhistle$Chase", "keep", "(III)V"⟩, 11), (⟨"OneWhistle$Chase", "takeLater", "(I)I"⟩, 11), (⟨"OneWhistle$Chase", "whistleOn", "(IJII)V"⟩, 11), (⟨"OneWhistle$Chase", "packBehind", "(III)I"⟩, 11), (⟨"OneWhistle$Lane", "growMeetings", "()Z"⟩, 4), (⟨"OneWhistle$Teller", "neededBy", "(LOneWhistle$Lane;III)I"⟩, 2), (⟨"OneWhistle", "origins", "(LOneWhistle$Plain;III)I"⟩, 14), (⟨"OneWhistle", "soundsSo", "(LOneWhistle$Plain;IIII)Z"⟩, 14), (⟨"OneWhistle", "drawOne", "(LOneWhistle$Plain;II)V"⟩, 14), (⟨"OneWhistle", "keepFraction", "(JJ)V"⟩, 14), (⟨"OneWhistleModel", "bad", "()I"⟩, 21)]
theorem lw_r2 : ∀ q ∈ lw_privs_2, lw_okq q := List.forall_mem_cons.mpr ⟨lw_p16, List.forall_mem_cons.mpr ⟨lw_p17, List.forall_mem_cons.mpr ⟨lw_p18, List.forall_mem_cons.mpr ⟨lw_p19, List.forall_mem_cons.mpr ⟨lw_p20, List.forall_mem_cons.mpr ⟨lw_p21, List.forall_mem_cons.mpr ⟨lw_p22, List.forall_mem_cons.mpr ⟨lw_p23, List.forall_mem_cons.mpr ⟨lw_p24, List.forall_mem_cons.mpr ⟨lw_p25, List.forall_mem_cons.mpr ⟨lw_p26, List.forall_mem_cons.mpr ⟨lw_p27, List.forall_mem_cons.mpr ⟨lw_p28, List.forall_mem_cons.mpr ⟨lw_p29, List.forall_mem_cons.mpr ⟨lw_p30, List.forall_mem_cons.mpr ⟨lw_p31, fun _ h => absurd h List.not_mem_nil⟩⟩⟩⟩⟩⟩⟩⟩⟩⟩⟩⟩⟩⟩⟩⟩
theorem lw_p32 : lw_okq (⟨"OneWhistleModel", "refuses", "(II)I"⟩, 21) := ⟨⟨by decide +kernel, by decide +kernel⟩, List.mem_of_getElem? (i := 923) (by decide +kernel), List.mem_of_getElem? (i := 1006) (by decide +kernel), List.mem_of_getElem? (i := 1007) (by decide +kernel)⟩
theorem lw_p33 : lw_okq (⟨"OneWhistleModel", "isRow", "(I)Z"⟩, 21) := ⟨⟨by decide +kernel, by decide +kernel⟩, List.mem_of_getElem? (i := 923) (by decide +kernel), List.mem_of_getElem? (i := 1014) (by decide +kernel), List.mem_of_getElem? (i := 1015) (by decide +kernel)⟩
theorem lw_p34 : lw_okq (⟨"OneWhistleModel", "comes", "(IIIIII)I"⟩, 21) := ⟨⟨by decide +kernel, by decide +kernel⟩, List.mem_of_getElem? (i := 923) (by decide +kernel), List.mem_of_getElem? (i := 1018) (by decide +kernel), List.mem_of_getElem? (i := 1019) (by decide +kernel)⟩
theorem lw_p35 : lw_okq (⟨"OneWhistleModel", "isPlace", "(I)Z"⟩, 21) := ⟨⟨by decide +kernel, by decide +kernel⟩, List.mem_of_getElem? (i := 923) (by decide +kernel), List.mem_of_getElem? (i := 1030) (by decide +kernel), List.mem_of_getElem? (i := 1031) (by decide +kernel)⟩
theorem lw_p36 : lw_okq (⟨"OneWhistleModel", "reads", "()Z"⟩, 21) := ⟨⟨by decide +kernel, by decide +kernel⟩, List.mem_of_getElem? (i := 923) (by decide +kernel), List.mem_of_getElem? (i := 1051) (by decide +kernel), List.mem_of_getElem? (i := 1052) (by decide +kernel)⟩
theorem lw_p37 : lw_okq (⟨"OneWhistleModel", "token", "()V"⟩, 21) := ⟨⟨by decide +kernel, by decide +kernel⟩, List.mem_of_getElem? (i := 923) (by decide +kernel), List.mem_of_getElem? (i := 1055) (by decide +kernel), List.mem_of_getElem? (i := 1056) (by decide +kernel)⟩
theorem lw_p38 : lw_okq (⟨"OneWhistleModel", "byteAt", "(I)I"⟩, 21) := ⟨⟨by decide +kernel, by decide +kernel⟩, List.mem_of_getElem? (i := 923) (by decide +kernel), List.mem_of_getElem? (i := 1059) (by decide +kernel), List.mem_of_getElem? (i := 1060) (by decide +kernel)⟩
theorem lw_p39 : lw_okq (⟨"OneWhistleModel", "verb", "()I"⟩, 21) := ⟨⟨by decide +kernel, by decide +kernel⟩, List.mem_of_getElem? (i := 923) (by decide +kernel), List.mem_of_getElem? (i := 1066) (by decide +kernel), List.mem_of_getElem? (i := 1067) (by decide +kernel)⟩
theorem lw_p40 : lw_okq (⟨"OneWhistleModel", "readsItem", "(I)Z"⟩, 21) := ⟨⟨by decide +kernel, by decide +kernel⟩, List.mem_of_getElem? (i := 923) (by decide +kernel), List.mem_of_getElem? (i := 1077) (by decide +kernel), List.mem_of_getElem? (i := 1078) (by decide +kernel)⟩
theorem lw_p41 : lw_okq (⟨"OneWhistleModel", "readsDog", "()Z"⟩, 21) := ⟨⟨by decide +kernel, by decide +kernel⟩, List.mem_of_getElem? (i := 923) (by decide +kernel), List.mem_of_getElem? (i := 1081) (by decide +kernel), List.mem_of_getElem? (i := 1082) (by decide +kernel)⟩
theorem lw_p42 : lw_okq (⟨"OneWhistleModel", "figure", "(II)I"⟩, 21) := ⟨⟨by decide +kernel, by decide +kernel⟩, List.mem_of_getElem? (i := 923) (by decide +kernel), List.mem_of_getElem? (i := 1085) (by decide +kernel), List.mem_of_getElem? (i := 1086) (by decide +kernel)⟩
theorem lw_p43 : lw_okq (⟨"OneWhistleModel", "row", "()I"⟩, 21) := ⟨⟨by decide +kernel, by decide +kernel⟩, List.mem_of_getElem? (i := 923) (by decide +kernel), List.mem_of_getElem? (i := 1089) (by decide +kernel), List.mem_of_getElem? (i := 1090) (by decide +kernel)⟩
theorem lw_p44 : lw_okq (⟨"OneWhistleModel", "isDog", "(I)Z"⟩, 21) := ⟨⟨by decide +kernel, by decide +kernel⟩, List.mem_of_getElem? (i := 923) (by decide +kernel), List.mem_of_getElem? (i := 1097) (by decide +kernel), List.mem_of_getElem? (i := 1098) (by decide +kernel)⟩
theorem lw_p45 : lw_okq (⟨"OneWhistleModel", "go", "(IIII)I"⟩, 21) := ⟨⟨by decide +kernel, by decide +kernel⟩, List.mem_of_getElem? (i := 923) (by decide +kernel), List.mem_of_getElem? (i := 1101) (by decide +kernel), List.mem_of_getElem? (i := 1102) (by decide +kernel)⟩
theorem lw_p46 : lw_okq (⟨"OneWhistleModel", "step", "(II)I"⟩, 21) := ⟨⟨by decide +kernel, by decide +kernel⟩, List.mem_of_getElem? (i := 923) (by decide +kernel), List.mem_of_getElem? (i := 1105) (by decide +kernel), List.mem_of_getElem? (i := 1106) (by decide +kernel)⟩
theorem lw_p47 : lw_okq (⟨"OneWhistleModel", "isTune", "(II)Z"⟩, 21) := ⟨⟨by decide +kernel, by decide +kernel⟩, List.mem_of_getElem? (i := 923) (by decide +kernel), List.mem_of_getElem? (i := 1113) (by decide +kernel), List.mem_of_getElem? (i := 1114) (by decide +kernel)⟩
def lw_privs_3 : List (MethodName × Nat) := [(⟨"OneWhistleModel", "refuses", "(II)I"⟩, 21), (⟨"OneWhistleModel", "isRow", "(I)Z"⟩, 21), (⟨"OneWhistleModel", "comes", "(IIIIII)I"⟩, 21), (⟨"OneWhistleModel", "isPlace", "(I)Z"⟩, 21), (⟨"OneWhistleModel", "reads", "()Z"⟩, 21), (⟨"OneWhistleModel", "token", "()V"⟩, 21), (⟨"OneWhistleModel", "byteAt", "(I)I"⟩, 21), (⟨"OneWhistleModel", "verb", "()I"⟩, 21), (⟨"OneWhistleModel", "readsItem", "(I)Z"⟩, 21), (⟨"OneWhistleModel", "readsDog", "()Z"⟩, 21), (⟨"OneWhistleModel", "figure", "(II)I"⟩, 21), (⟨"OneWhistleModel", "row", "()I"⟩, 21), (⟨"OneWhistleModel", "isDog", "(I)Z"⟩, 21), (⟨"OneWhistleModel", "go", "(IIII)I"⟩, 21), (⟨"OneWhistleModel", "step", "(II)I"⟩, 21), (⟨"OneWhistleModel", "isTune", "(II)Z"⟩, 21)]
theorem lw_r3 : ∀ q ∈ lw_privs_3, lw_okq q := List.forall_mem_cons.mpr ⟨lw_p32, List.forall_mem_cons.mpr ⟨lw_p33, List.forall_mem_cons.mpr ⟨lw_p34, List.forall_mem_cons.mpr ⟨lw_p35, List.forall_mem_cons.mpr ⟨lw_p36, List.forall_mem_cons.mpr ⟨lw_p37, List.forall_mem_cons.mpr ⟨lw_p38, List.forall_mem_cons.mpr ⟨lw_p39, List.forall_mem_cons.mpr ⟨lw_p40, List.forall_mem_cons.mpr ⟨lw_p41, List.forall_mem_cons.mpr ⟨lw_p42, List.forall_mem_cons.mpr ⟨lw_p43, List.forall_mem_cons.mpr ⟨lw_p44, List.forall_mem_cons.mpr ⟨lw_p45, List.forall_mem_cons.mpr ⟨lw_p46, List.forall_mem_cons.mpr ⟨lw_p47, fun _ h => absurd h List.not_mem_nil⟩⟩⟩⟩⟩⟩⟩⟩⟩⟩⟩⟩⟩⟩⟩⟩
theorem lw_p48 : lw_okq (⟨"OneWhistleModel", "ran", "(IIII)I"⟩, 21) := ⟨⟨by decide +kernel, by decide +kernel⟩, List.mem_of_getElem? (i := 923) (by decide +kernel), List.mem_of_getElem? (i := 1117) (by decide +kernel), List.mem_of_getElem? (i := 1118) (by decide +kernel)⟩
theorem lw_p49 : lw_okq (⟨"OneWhistleModel", "isSet", "(I)Z"⟩, 21) := ⟨⟨by decide +kernel, by decide +kernel⟩, List.mem_of_getElem? (i := 923) (by decide +kernel), List.mem_of_getElem? (i := 1129) (by decide +kernel), List.mem_of_getElem? (i := 1130) (by decide +kernel)⟩
theorem lw_p50 : lw_okq (⟨"OneWhistleModel", "tames", "(IZ)Z"⟩, 21) := ⟨⟨by decide +kernel, by decide +kernel⟩, List.mem_of_getElem? (i := 923) (by decide +kernel), List.mem_of_getElem? (i := 1133) (by decide +kernel), List.mem_of_getElem? (i := 1134) (by decide +kernel)⟩
theorem lw_p51 : lw_okq (⟨"OneWhistleModel", "all", "(II)I"⟩, 21) := ⟨⟨by decide +kernel, by decide +kernel⟩, List.mem_of_getElem? (i := 923) (by decide +kernel), List.mem_of_getElem? (i := 1137) (by decide +kernel), List.mem_of_getElem? (i := 1138) (by decide +kernel)⟩
theorem lw_p52 : lw_okq (⟨"OneWhistleModel", "leads", "(IIZ)Z"⟩, 21) := ⟨⟨by decide +kernel, by decide +kernel⟩, List.mem_of_getElem? (i := 923) (by decide +kernel), List.mem_of_getElem? (i := 1141) (by decide +kernel), List.mem_of_getElem? (i := 1142) (by decide +kernel)⟩
theorem lw_p53 : lw_okq (⟨"OneWhistleModel", "comesTo", "(III)V"⟩, 21) := ⟨⟨by decide +kernel, by decide +kernel⟩, List.mem_of_getElem? (i := 923) (by decide +kernel), List.mem_of_getElem? (i := 1145) (by decide +kernel), List.mem_of_getElem? (i := 1146) (by decide +kernel)⟩
theorem lw_p54 : lw_okq (⟨"OneWhistleModel", "layer", "(IZ)V"⟩, 21) := ⟨⟨by decide +kernel, by decide +kernel⟩, List.mem_of_getElem? (i := 923) (by decide +kernel), List.mem_of_getElem? (i := 1150) (by decide +kernel), List.mem_of_getElem? (i := 1151) (by decide +kernel)⟩
theorem lw_p55 : lw_okq (⟨"OneWhistleModel", "after", "(III)I"⟩, 21) := ⟨⟨by decide +kernel, by decide +kernel⟩, List.mem_of_getElem? (i := 923) (by decide +kernel), List.mem_of_getElem? (i := 1154) (by decide +kernel), List.mem_of_getElem? (i := 1155) (by decide +kernel)⟩
theorem lw_p56 : lw_okq (⟨"OneWhistleModel", "empties", "()V"⟩, 21) := ⟨⟨by decide +kernel, by decide +kernel⟩, List.mem_of_getElem? (i := 923) (by decide +kernel), List.mem_of_getElem? (i := 1158) (by decide +kernel), List.mem_of_getElem? (i := 1159) (by decide +kernel)⟩
theorem lw_p57 : lw_okq (⟨"OneWhistleModel", "tune", "()I"⟩, 21) := ⟨⟨by decide +kernel, by decide +kernel⟩, List.mem_of_getElem? (i := 923) (by decide +kernel), List.mem_of_getElem? (i := 1162) (by decide +kernel), List.mem_of_getElem? (i := 1163) (by decide +kernel)⟩
theorem lw_p58 : lw_okq (⟨"OneWhistleModel", "allTakes", "(I)V"⟩, 21) := ⟨⟨by decide +kernel, by decide +kernel⟩, List.mem_of_getElem? (i := 923) (by decide +kernel), List.mem_of_getElem? (i := 1189) (by decide +kernel), List.mem_of_getElem? (i := 1190) (by decide +kernel)⟩
theorem lw_p59 : lw_okq (⟨"OneWhistleModel", "takesBy", "(IIII)I"⟩, 21) := ⟨⟨by decide +kernel, by decide +kernel⟩, List.mem_of_getElem? (i := 923) (by decide +kernel), List.mem_of_getElem? (i := 1193) (by decide +kernel), List.mem_of_getElem? (i := 1194) (by decide +kernel)⟩
theorem lw_p60 : lw_okq (⟨"OneWhistleModel", "begins", "(IIII)I"⟩, 21) := ⟨⟨by decide +kernel, by decide +kernel⟩, List.mem_of_getElem? (i := 923) (by decide +kernel), List.mem_of_getElem? (i := 1201) (by decide +kernel), List.mem_of_getElem? (i := 1202) (by decide +kernel)⟩
theorem lw_p61 : lw_okq (⟨"OneWhistleModel", "heard", "(IIIII)Z"⟩, 21) := ⟨⟨by decide +kernel, by decide +kernel⟩, List.mem_of_getElem? (i := 923) (by decide +kernel), List.mem_of_getElem? (i := 1205) (by decide +kernel), List.mem_of_getElem? (i := 1206) (by decide +kernel)⟩
theorem lw_p62 : lw_okq (⟨"OneWhistleModel", "counted", "(I)I"⟩, 21) := ⟨⟨by decide +kernel, by decide +kernel⟩, List.mem_of_getElem? (i := 923) (by decide +kernel), List.mem_of_getElem? (i := 1238) (by decide +kernel), List.mem_of_getElem? (i := 1239) (by decide +kernel)⟩
def lw_privs_4 : List (MethodName × Nat) := [(⟨"OneWhistleModel", "ran", "(IIII)I"⟩, 21), (⟨"OneWhistleModel", "isSet", "(I)Z"⟩, 21), (⟨"OneWhistleModel", "tames", "(IZ)Z"⟩, 21), (⟨"OneWhistleModel", "all", "(II)I"⟩, 21), (⟨"OneWhistleModel", "leads", "(IIZ)Z"⟩, 21), (⟨"OneWhistleModel", "comesTo", "(III)V"⟩, 21), (⟨"OneWhistleModel", "layer", "(IZ)V"⟩, 21), (⟨"OneWhistleModel", "after", "(III)I"⟩, 21), (⟨"OneWhistleModel", "empties", "()V"⟩, 21), (⟨"OneWhistleModel", "tune", "()I"⟩, 21), (⟨"OneWhistleModel", "allTakes", "(I)V"⟩, 21), (⟨"OneWhistleModel", "takesBy", "(IIII)I"⟩, 21), (⟨"OneWhistleModel", "begins", "(IIII)I"⟩, 21), (⟨"OneWhistleModel", "heard", "(IIIII)Z"⟩, 21), (⟨"OneWhistleModel", "counted", "(I)I"⟩, 21)]
theorem lw_r4 : ∀ q ∈ lw_privs_4, lw_okq q := List.forall_mem_cons.mpr ⟨lw_p48, List.forall_mem_cons.mpr ⟨lw_p49, List.forall_mem_cons.mpr ⟨lw_p50, List.forall_mem_cons.mpr ⟨lw_p51, List.forall_mem_cons.mpr ⟨lw_p52, List.forall_mem_cons.mpr ⟨lw_p53, List.forall_mem_cons.mpr ⟨lw_p54, List.forall_mem_cons.mpr ⟨lw_p55, List.forall_mem_cons.mpr ⟨lw_p56, List.forall_mem_cons.mpr ⟨lw_p57, List.forall_mem_cons.mpr ⟨lw_p58, List.forall_mem_cons.mpr ⟨lw_p59, List.forall_mem_cons.mpr ⟨lw_p60, List.forall_mem_cons.mpr ⟨lw_p61, List.forall_mem_cons.mpr ⟨lw_p62, fun _ h => absurd h List.not_mem_nil⟩⟩⟩⟩⟩⟩⟩⟩⟩⟩⟩⟩⟩⟩⟩
def lw_privs : List (MethodName × Nat) := lw_privs_1 ++ (lw_privs_2 ++ (lw_privs_3 ++ (lw_privs_4)))
def lw_tbl : List Cond := k2_sels lw_privs ++ tables_1
theorem lw_privs_ok : ∀ q ∈ lw_privs, lw_okq q := by
  show ∀ q ∈ lw_privs_1 ++ (lw_privs_2 ++ (lw_privs_3 ++ (lw_privs_4))), lw_okq q
  exact List.forall_mem_append.mpr ⟨lw_r1, List.forall_mem_append.mpr ⟨lw_r2, List.forall_mem_append.mpr ⟨lw_r3, lw_r4⟩⟩⟩
end
section
def RX0 : String := "OneWhistle$Chase"
def TX0 : u_T := fun k => match k with
  | 0 => ("OneWhistle$Chase", "lanes", "[LOneWhistle$Lane;", true)
  | 1 => ("OneWhistle$Chase", "seen", "LOneWhistle$Seen;", true)
  | 2 => ("OneWhistle$Chase", "laneCount", "I", false)
  | 3 => ("OneWhistle$Chase", "startPack", "I", false)
  | 4 => ("OneWhistle$Chase", "heedsOdd", "Z", false)
  | 5 => ("OneWhistle$Chase", "entries", "[J", false)
  | 6 => ("OneWhistle$Chase", "later", "[J", false)
  | 7 => ("OneWhistle$Chase", "laterCount", "I", false)
  | 8 => ("OneWhistle$Chase", "leastBreath", "I", false)
  | 9 => ("OneWhistle$Chase", "foundBreath", "I", false)
  | _ => ("OneWhistle$Chase", "foundTune", "I", false)
def tyX0 : Nat → FieldType := fun k => match k with
  | 0 => .array (.object "OneWhistle$Lane")
  | 1 => .object "OneWhistle$Seen"
  | 2 => .int
  | 3 => .int
  | 4 => .boolean
  | 5 => .array .long
  | 6 => .array .long
  | 7 => .int
  | 8 => .int
  | 9 => .int
  | _ => .int
abbrev wsX00 : List Cond := u_ws RX0 TX0 11
theorem nmX0 : ∀ a, a < 11 → ∀ b, b < 11 → a ≠ b → (TX0 a).2.1 ≠ (TX0 b).2.1 := by decide +kernel
theorem tyX0_ok : ∀ k, k < 11 → parseFieldDescriptor (TX0 k).2.2.1 = some (tyX0 k) := by decide +kernel
abbrev cX0_init : ByteArray := prog_2_method_1_code
def yX0_init : MethodName := ⟨RX0, "<init>", "()V"⟩
abbrev cX0_follow : ByteArray := prog_2_method_2_code
def yX0_follow : MethodName := ⟨RX0, "follow", "(LOneWhistle$Hill;II)V"⟩
abbrev cX0_addLane : ByteArray := prog_2_method_3_code
def yX0_addLane : MethodName := ⟨RX0, "addLane", "(LOneWhistle$Plain;LOneWhistle$Hill;III)V"⟩
abbrev cX0_seek : ByteArray := prog_2_method_4_code
def yX0_seek : MethodName := ⟨RX0, "seek", "(II)Z"⟩
abbrev cX0_leastBreathFound : ByteArray := prog_2_method_5_code
def yX0_leastBreathFound : MethodName := ⟨RX0, "leastBreathFound", "()I"⟩
abbrev cX0_shortest : ByteArray := prog_2_method_6_code
def yX0_shortest : MethodName := ⟨RX0, "shortest", "(I)I"⟩
abbrev cX0_takeLater : ByteArray := prog_2_method_7_code
def yX0_takeLater : MethodName := ⟨RX0, "takeLater", "(I)I"⟩
abbrev cX0_whistleOn : ByteArray := prog_2_method_8_code
def yX0_whistleOn : MethodName := ⟨RX0, "whistleOn", "(IJII)V"⟩
abbrev cX0_packOf : ByteArray := prog_2_method_9_code
def yX0_packOf : MethodName := ⟨RX0, "packOf", "(J)I"⟩
abbrev cX0_tuneOf : ByteArray := prog_2_method_10_code
def yX0_tuneOf : MethodName := ⟨RX0, "tuneOf", "(J)I"⟩
abbrev cX0_breathOf : ByteArray := prog_2_method_11_code
def yX0_breathOf : MethodName := ⟨RX0, "breathOf", "(J)I"⟩
abbrev cX0_packBehind : ByteArray := prog_2_method_12_code
def yX0_packBehind : MethodName := ⟨RX0, "packBehind", "(III)I"⟩
abbrev cX0_offer : ByteArray := prog_2_method_13_code
def yX0_offer : MethodName := ⟨RX0, "offer", "(IIII)V"⟩
abbrev cX0_keyOf : ByteArray := prog_2_method_14_code
def yX0_keyOf : MethodName := ⟨RX0, "keyOf", "(II)I"⟩
abbrev cX0_keep : ByteArray := prog_2_method_15_code
def yX0_keep : MethodName := ⟨RX0, "keep", "(III)V"⟩
def RX1 : String := "OneWhistle$Deaf"
def TX1 : u_T := fun k => match k with
  | 0 => ("OneWhistle$Plain", "kind", "I", true)
  | 1 => ("OneWhistle$Plain", "row0", "I", true)
  | _ => ("OneWhistle$Plain", "row1", "I", true)
def tyX1 : Nat → FieldType := fun k => match k with
  | 0 => .int
  | 1 => .int
  | _ => .int
abbrev wsX10 : List Cond := u_ws RX1 TX1 3
theorem nmX1 : ∀ a, a < 3 → ∀ b, b < 3 → a ≠ b → (TX1 a).2.1 ≠ (TX1 b).2.1 := by decide +kernel
theorem tyX1_ok : ∀ k, k < 3 → parseFieldDescriptor (TX1 k).2.2.1 = some (tyX1 k) := by decide +kernel
abbrev cX1_init : ByteArray := prog_3_method_1_code
def yX1_init : MethodName := ⟨RX1, "<init>", "(III)V"⟩
abbrev cX1_next : ByteArray := prog_3_method_2_code
def yX1_next : MethodName := ⟨RX1, "next", "(IIII)I"⟩
abbrev cX1_heedsOdd : ByteArray := prog_3_method_3_code
def yX1_heedsOdd : MethodName := ⟨RX1, "heedsOdd", "()Z"⟩
def RX2 : String := "OneWhistle$Hill"
def TX2 : u_T := fun k => match k with
  | 0 => ("OneWhistle$Hill", "placeCount", "I", false)
  | 1 => ("OneWhistle$Hill", "shutBits", "I", false)
  | 2 => ("OneWhistle$Hill", "goal", "I", false)
  | 3 => ("OneWhistle$Hill", "barkBits", "I", false)
  | 4 => ("OneWhistle$Hill", "breath0", "I", false)
  | 5 => ("OneWhistle$Hill", "breath1", "I", false)
  | 6 => ("OneWhistle$Hill", "dogCount", "I", false)
  | _ => ("OneWhistle$Hill", "dogs", "[LOneWhistle$Plain;", true)
def tyX2 : Nat → FieldType := fun k => match k with
  | 0 => .int
  | 1 => .int
  | 2 => .int
  | 3 => .int
  | 4 => .int
  | 5 => .int
  | 6 => .int
  | _ => .array (.object "OneWhistle$Plain")
abbrev wsX20 : List Cond := u_ws RX2 TX2 8
theorem nmX2 : ∀ a, a < 8 → ∀ b, b < 8 → a ≠ b → (TX2 a).2.1 ≠ (TX2 b).2.1 := by decide +kernel
theorem tyX2_ok : ∀ k, k < 8 → parseFieldDescriptor (TX2 k).2.2.1 = some (tyX2 k) := by decide +kernel
abbrev cX2_init : ByteArray := prog_4_method_1_code
def yX2_init : MethodName := ⟨RX2, "<init>", "()V"⟩
abbrev cX2_copy : ByteArray := prog_4_method_2_code
def yX2_copy : MethodName := ⟨RX2, "copy", "()LOneWhistle$Hill;"⟩
abbrev cX2_settle : ByteArray := prog_4_method_3_code
def yX2_settle : MethodName := ⟨RX2, "settle", "(I)V"⟩
abbrev cX2_isPlace : ByteArray := prog_4_method_4_code
def yX2_isPlace : MethodName := ⟨RX2, "isPlace", "(I)Z"⟩
abbrev cX2_allPlaces : ByteArray := prog_4_method_5_code
def yX2_allPlaces : MethodName := ⟨RX2, "allPlaces", "()I"⟩
abbrev cX2_isRow : ByteArray := prog_4_method_6_code
def yX2_isRow : MethodName := ⟨RX2, "isRow", "(I)Z"⟩
abbrev cX2_isFull : ByteArray := prog_4_method_7_code
def yX2_isFull : MethodName := ⟨RX2, "isFull", "()Z"⟩
abbrev cX2_addDog : ByteArray := prog_4_method_8_code
def yX2_addDog : MethodName := ⟨RX2, "addDog", "(LOneWhistle$Plain;)I"⟩
abbrev cX2_dogAt : ByteArray := prog_4_method_9_code
def yX2_dogAt : MethodName := ⟨RX2, "dogAt", "(I)LOneWhistle$Plain;"⟩
abbrev cX2_areDogs : ByteArray := prog_4_method_10_code
def yX2_areDogs : MethodName := ⟨RX2, "areDogs", "(I)Z"⟩
def RX3 : String := "OneWhistle$Keen"
def TX3 : u_T := fun k => match k with
  | 0 => ("OneWhistle$Pup", "then0", "I", true)
  | 1 => ("OneWhistle$Pup", "then1", "I", true)
  | 2 => ("OneWhistle$Pup", "m", "I", true)
  | 3 => ("OneWhistle$Plain", "kind", "I", true)
  | 4 => ("OneWhistle$Plain", "row0", "I", true)
  | _ => ("OneWhistle$Plain", "row1", "I", true)
def tyX3 : Nat → FieldType := fun k => match k with
  | 0 => .int
  | 1 => .int
  | 2 => .int
  | 3 => .int
  | 4 => .int
  | _ => .int
abbrev wsX30 : List Cond := u_ws RX3 TX3 6
theorem nmX3 : ∀ a, a < 6 → ∀ b, b < 6 → a ≠ b → (TX3 a).2.1 ≠ (TX3 b).2.1 := by decide +kernel
theorem tyX3_ok : ∀ k, k < 6 → parseFieldDescriptor (TX3 k).2.2.1 = some (tyX3 k) := by decide +kernel
abbrev cX3_init : ByteArray := prog_5_method_1_code
def yX3_init : MethodName := ⟨RX3, "<init>", "(IIIIII)V"⟩
abbrev cX3_next : ByteArray := prog_5_method_2_code
def yX3_next : MethodName := ⟨RX3, "next", "(IIII)I"⟩
def RX4 : String := "OneWhistle$Lane"
def TX4 : u_T := fun k => match k with
  | 0 => ("OneWhistle$Lane", "steps", "[I", true)
  | 1 => ("OneWhistle$Lane", "ends", "[I", true)
  | 2 => ("OneWhistle$Lane", "meetings", "[I", true)
  | _ => ("OneWhistle$Lane", "setCount", "I", false)
def tyX4 : Nat → FieldType := fun k => match k with
  | 0 => .array .int
  | 1 => .array .int
  | 2 => .array .int
  | _ => .int
abbrev wsX40 : List Cond := u_ws RX4 TX4 4
theorem nmX4 : ∀ a, a < 4 → ∀ b, b < 4 → a ≠ b → (TX4 a).2.1 ≠ (TX4 b).2.1 := by decide +kernel
theorem tyX4_ok : ∀ k, k < 4 → parseFieldDescriptor (TX4 k).2.2.1 = some (tyX4 k) := by decide +kernel
abbrev cX4_init : ByteArray := prog_6_method_1_code
def yX4_init : MethodName := ⟨RX4, "<init>", "()V"⟩
abbrev cX4_learn : ByteArray := prog_6_method_2_code
def yX4_learn : MethodName := ⟨RX4, "learn", "(LOneWhistle$Plain;II)V"⟩
abbrev cX4_joinSets : ByteArray := prog_6_method_3_code
def yX4_joinSets : MethodName := ⟨RX4, "joinSets", "(I)V"⟩
abbrev cX4_rowOf : ByteArray := prog_6_method_4_code
def yX4_rowOf : MethodName := ⟨RX4, "rowOf", "(II)I"⟩
abbrev cX4_behind : ByteArray := prog_6_method_5_code
def yX4_behind : MethodName := ⟨RX4, "behind", "(III)I"⟩
abbrev cX4_findEnds : ByteArray := prog_6_method_6_code
def yX4_findEnds : MethodName := ⟨RX4, "findEnds", "(I)V"⟩
abbrev cX4_endsFrom : ByteArray := prog_6_method_7_code
def yX4_endsFrom : MethodName := ⟨RX4, "endsFrom", "(II)I"⟩
abbrev cX4_findMeetings : ByteArray := prog_6_method_8_code
def yX4_findMeetings : MethodName := ⟨RX4, "findMeetings", "()V"⟩
abbrev cX4_growMeetings : ByteArray := prog_6_method_9_code
def yX4_growMeetings : MethodName := ⟨RX4, "growMeetings", "()Z"⟩
abbrev cX4_canMeet : ByteArray := prog_6_method_10_code
def yX4_canMeet : MethodName := ⟨RX4, "canMeet", "(II)Z"⟩
def RX5 : String := "OneWhistle$Plain"
def TX5 : u_T := fun k => match k with
  | 0 => ("OneWhistle$Plain", "kind", "I", true)
  | 1 => ("OneWhistle$Plain", "row0", "I", true)
  | _ => ("OneWhistle$Plain", "row1", "I", true)
def tyX5 : Nat → FieldType := fun k => match k with
  | 0 => .int
  | 1 => .int
  | _ => .int
abbrev wsX50 : List Cond := u_ws RX5 TX5 3
theorem nmX5 : ∀ a, a < 3 → ∀ b, b < 3 → a ≠ b → (TX5 a).2.1 ≠ (TX5 b).2.1 := by decide +kernel
theorem tyX5_ok : ∀ k, k < 3 → parseFieldDescriptor (TX5 k).2.2.1 = some (tyX5 k) := by decide +kernel
abbrev cX5_init : ByteArray := prog_7_method_1_code
def yX5_init : MethodName := ⟨RX5, "<init>", "(III)V"⟩
abbrev cX5_next : ByteArray := prog_7_method_2_code
def yX5_next : MethodName := ⟨RX5, "next", "(IIII)I"⟩
abbrev cX5_byRows : ByteArray := prog_7_method_3_code
def yX5_byRows : MethodName := ⟨RX5, "byRows", "(IIII)I"⟩
abbrev cX5_rowFor : ByteArray := prog_7_method_4_code
def yX5_rowFor : MethodName := ⟨RX5, "rowFor", "(II)I"⟩
abbrev cX5_heedsOdd : ByteArray := prog_7_method_5_code
def yX5_heedsOdd : MethodName := ⟨RX5, "heedsOdd", "()Z"⟩
abbrev cX5_behind : ByteArray := prog_7_method_6_code
def yX5_behind : MethodName := ⟨RX5, "behind", "(IIII)I"⟩
abbrev cX5_digested : ByteArray := prog_7_method_7_code
def yX5_digested : MethodName := ⟨RX5, "digested", "(J)J"⟩
abbrev cX5_withRows : ByteArray := prog_7_method_8_code
def yX5_withRows : MethodName := ⟨RX5, "withRows", "(J)J"⟩
abbrev cX5_withLearnt : ByteArray := prog_7_method_9_code
def yX5_withLearnt : MethodName := ⟨RX5, "withLearnt", "(JIII)J"⟩
def RX6 : String := "OneWhistle$Pup"
def TX6 : u_T := fun k => match k with
  | 0 => ("OneWhistle$Plain", "kind", "I", true)
  | 1 => ("OneWhistle$Plain", "row0", "I", true)
  | 2 => ("OneWhistle$Plain", "row1", "I", true)
  | 3 => ("OneWhistle$Pup", "then0", "I", true)
  | 4 => ("OneWhistle$Pup", "then1", "I", true)
  | _ => ("OneWhistle$Pup", "m", "I", true)
def tyX6 : Nat → FieldType := fun k => match k with
  | 0 => .int
  | 1 => .int
  | 2 => .int
  | 3 => .int
  | 4 => .int
  | _ => .int
abbrev wsX60 : List Cond := u_ws RX6 TX6 6
theorem nmX6 : ∀ a, a < 6 → ∀ b, b < 6 → a ≠ b → (TX6 a).2.1 ≠ (TX6 b).2.1 := by decide +kernel
theorem tyX6_ok : ∀ k, k < 6 → parseFieldDescriptor (TX6 k).2.2.1 = some (tyX6 k) := by decide +kernel
abbrev cX6_init : ByteArray := prog_8_method_1_code
def yX6_init : MethodName := ⟨RX6, "<init>", "(IIIIII)V"⟩
abbrev cX6_rowFor : ByteArray := prog_8_method_2_code
def yX6_rowFor : MethodName := ⟨RX6, "rowFor", "(II)I"⟩
abbrev cX6_digested : ByteArray := prog_8_method_3_code
def yX6_digested : MethodName := ⟨RX6, "digested", "(J)J"⟩
def RX7 : String := "OneWhistle$Reader"
def TX7 : u_T := fun k => match k with
  | 0 => ("OneWhistle$Reader", "told", "LOneWhistle$Hill;", true)
  | 1 => ("OneWhistle$Reader", "fault", "I", false)
  | 2 => ("OneWhistle$Reader", "text", "[B", true)
  | 3 => ("OneWhistle$Reader", "length", "I", true)
  | 4 => ("OneWhistle$Reader", "kind", "I", false)
  | 5 => ("OneWhistle$Reader", "start", "I", false)
  | _ => ("OneWhistle$Reader", "end", "I", false)
def tyX7 : Nat → FieldType := fun k => match k with
  | 0 => .object "OneWhistle$Hill"
  | 1 => .int
  | 2 => .array .byte
  | 3 => .int
  | 4 => .int
  | 5 => .int
  | _ => .int
abbrev wsX70 : List Cond := u_ws RX7 TX7 7
theorem nmX7 : ∀ a, a < 7 → ∀ b, b < 7 → a ≠ b → (TX7 a).2.1 ≠ (TX7 b).2.1 := by decide +kernel
theorem tyX7_ok : ∀ k, k < 7 → parseFieldDescriptor (TX7 k).2.2.1 = some (tyX7 k) := by decide +kernel
abbrev cX7_init : ByteArray := prog_9_method_1_code
def yX7_init : MethodName := ⟨RX7, "<init>", "([BI)V"⟩
abbrev cX7_readHill : ByteArray := prog_9_method_2_code
def yX7_readHill : MethodName := ⟨RX7, "readHill", "()V"⟩
abbrev cX7_readItem : ByteArray := prog_9_method_3_code
def yX7_readItem : MethodName := ⟨RX7, "readItem", "()V"⟩
abbrev cX7_readBreath : ByteArray := prog_9_method_4_code
def yX7_readBreath : MethodName := ⟨RX7, "readBreath", "()V"⟩
abbrev cX7_readDog : ByteArray := prog_9_method_5_code
def yX7_readDog : MethodName := ⟨RX7, "readDog", "()V"⟩
abbrev cX7_takeNumber : ByteArray := prog_9_method_6_code
def yX7_takeNumber : MethodName := ⟨RX7, "takeNumber", "(II)I"⟩
abbrev cX7_takePlaceBit : ByteArray := prog_9_method_7_code
def yX7_takePlaceBit : MethodName := ⟨RX7, "takePlaceBit", "()I"⟩
abbrev cX7_takeRow : ByteArray := prog_9_method_8_code
def yX7_takeRow : MethodName := ⟨RX7, "takeRow", "()I"⟩
abbrev cX7_takeMark : ByteArray := prog_9_method_9_code
def yX7_takeMark : MethodName := ⟨RX7, "takeMark", "()V"⟩
abbrev cX7_fail : ByteArray := prog_9_method_10_code
def yX7_fail : MethodName := ⟨RX7, "fail", "()V"⟩
abbrev cX7_isWord : ByteArray := prog_9_method_11_code
def yX7_isWord : MethodName := ⟨RX7, "isWord", "(Ljava/lang/String;)Z"⟩
abbrev cX7_advance : ByteArray := prog_9_method_12_code
def yX7_advance : MethodName := ⟨RX7, "advance", "()V"⟩
abbrev cX7_kindOf : ByteArray := prog_9_method_13_code
def yX7_kindOf : MethodName := ⟨RX7, "kindOf", "(I)I"⟩
abbrev cX7_byteAt : ByteArray := prog_9_method_14_code
def yX7_byteAt : MethodName := ⟨RX7, "byteAt", "(I)I"⟩
def RX8 : String := "OneWhistle$Seen"
def TX8 : u_T := fun k => match k with
  | 0 => ("OneWhistle$Seen", "slots", "[J", false)
  | 1 => ("OneWhistle$Seen", "used", "I", false)
  | _ => ("OneWhistle$Seen", "search", "J", false)
def tyX8 : Nat → FieldType := fun k => match k with
  | 0 => .array .long
  | 1 => .int
  | _ => .long
abbrev wsX80 : List Cond := u_ws RX8 TX8 3
theorem nmX8 : ∀ a, a < 3 → ∀ b, b < 3 → a ≠ b → (TX8 a).2.1 ≠ (TX8 b).2.1 := by decide +kernel
theorem tyX8_ok : ∀ k, k < 3 → parseFieldDescriptor (TX8 k).2.2.1 = some (tyX8 k) := by decide +kernel
abbrev cX8_init : ByteArray := prog_10_method_1_code
def yX8_init : MethodName := ⟨RX8, "<init>", "()V"⟩
abbrev cX8_forget : ByteArray := prog_10_method_2_code
def yX8_forget : MethodName := ⟨RX8, "forget", "()V"⟩
abbrev cX8_leastFor : ByteArray := prog_10_method_3_code
def yX8_leastFor : MethodName := ⟨RX8, "leastFor", "(I)I"⟩
abbrev cX8_isLess : ByteArray := prog_10_method_4_code
def yX8_isLess : MethodName := ⟨RX8, "isLess", "(II)Z"⟩
abbrev cX8_isOurs : ByteArray := prog_10_method_5_code
def yX8_isOurs : MethodName := ⟨RX8, "isOurs", "(J)Z"⟩
abbrev cX8_breathOf : ByteArray := prog_10_method_6_code
def yX8_breathOf : MethodName := ⟨RX8, "breathOf", "(J)I"⟩
abbrev cX8_keyOf : ByteArray := prog_10_method_7_code
def yX8_keyOf : MethodName := ⟨RX8, "keyOf", "(J)I"⟩
abbrev cX8_slotFor : ByteArray := prog_10_method_8_code
def yX8_slotFor : MethodName := ⟨RX8, "slotFor", "(I)I"⟩
abbrev cX8_grow : ByteArray := prog_10_method_9_code
def yX8_grow : MethodName := ⟨RX8, "grow", "()V"⟩
def RX9 : String := "OneWhistle$Stubborn"
def TX9 : u_T := fun k => match k with
  | 0 => ("OneWhistle$Plain", "kind", "I", true)
  | 1 => ("OneWhistle$Plain", "row0", "I", true)
  | _ => ("OneWhistle$Plain", "row1", "I", true)
def tyX9 : Nat → FieldType := fun k => match k with
  | 0 => .int
  | 1 => .int
  | _ => .int
abbrev wsX90 : List Cond := u_ws RX9 TX9 3
theorem nmX9 : ∀ a, a < 3 → ∀ b, b < 3 → a ≠ b → (TX9 a).2.1 ≠ (TX9 b).2.1 := by decide +kernel
theorem tyX9_ok : ∀ k, k < 3 → parseFieldDescriptor (TX9 k).2.2.1 = some (tyX9 k) := by decide +kernel
abbrev cX9_init : ByteArray := prog_11_method_1_code
def yX9_init : MethodName := ⟨RX9, "<init>", "(III)V"⟩
abbrev cX9_next : ByteArray := prog_11_method_2_code
def yX9_next : MethodName := ⟨RX9, "next", "(IIII)I"⟩
def RX10 : String := "OneWhistle$Teller"
def TX10 : u_T := fun k => match k with
  | 0 => ("OneWhistle$Teller", "fewest", "[I", true)
  | _ => ("OneWhistle$Teller", "barkBits", "I", false)
def tyX10 : Nat → FieldType := fun k => match k with
  | 0 => .array .int
  | _ => .int
abbrev wsX100 : List Cond := u_ws RX10 TX10 2
theorem nmX10 : ∀ a, a < 2 → ∀ b, b < 2 → a ≠ b → (TX10 a).2.1 ≠ (TX10 b).2.1 := by decide +kernel
theorem tyX10_ok : ∀ k, k < 2 → parseFieldDescriptor (TX10 k).2.2.1 = some (tyX10 k) := by decide +kernel
abbrev cX10_init : ByteArray := prog_12_method_1_code
def yX10_init : MethodName := ⟨RX10, "<init>", "()V"⟩
abbrev cX10_weigh : ByteArray := prog_12_method_2_code
def yX10_weigh : MethodName := ⟨RX10, "weigh", "(LOneWhistle$Lane;II)V"⟩
abbrev cX10_fewestFor : ByteArray := prog_12_method_3_code
def yX10_fewestFor : MethodName := ⟨RX10, "fewestFor", "(II)I"⟩
abbrev cX10_neededBy : ByteArray := prog_12_method_4_code
def yX10_neededBy : MethodName := ⟨RX10, "neededBy", "(LOneWhistle$Lane;III)I"⟩
abbrev cX10_firstWhistle : ByteArray := prog_12_method_5_code
def yX10_firstWhistle : MethodName := ⟨RX10, "firstWhistle", "(LOneWhistle$Lane;I)I"⟩
def RX11 : String := "OneWhistle"
def TX11 : u_T := fun k => match k with
  | 0 => ("OneWhistle", "hill", "LOneWhistle$Hill;", false)
  | 1 => ("OneWhistle", "images", "[LOneWhistle$Hill;", true)
  | 2 => ("OneWhistle", "text", "[B", true)
  | 3 => ("OneWhistle", "textLength", "I", false)
  | 4 => ("OneWhistle", "above", "J", false)
  | 5 => ("OneWhistle", "below", "J", false)
  | 6 => ("OneWhistle", "badCount", "I", false)
  | 7 => ("OneWhistle", "noCount", "I", false)
  | 8 => ("OneWhistle", "fullCount", "I", false)
  | 9 => ("OneWhistle", "chase", "LOneWhistle$Chase;", true)
  | 10 => ("OneWhistle", "lane", "LOneWhistle$Lane;", true)
  | 11 => ("OneWhistle", "teller", "LOneWhistle$Teller;", true)
  | 12 => ("OneWhistle", "weights", "[J", true)
  | _ => ("OneWhistle", "laterWeights", "[J", true)
def tyX11 : Nat → FieldType := fun k => match k with
  | 0 => .object "OneWhistle$Hill"
  | 1 => .array (.object "OneWhistle$Hill")
  | 2 => .array .byte
  | 3 => .int
  | 4 => .long
  | 5 => .long
  | 6 => .int
  | 7 => .int
  | 8 => .int
  | 9 => .object "OneWhistle$Chase"
  | 10 => .object "OneWhistle$Lane"
  | 11 => .object "OneWhistle$Teller"
  | 12 => .array .long
  | _ => .array .long
abbrev wsX110 : List Cond := u_ws RX11 TX11 14
theorem nmX11 : ∀ a, a < 14 → ∀ b, b < 14 → a ≠ b → (TX11 a).2.1 ≠ (TX11 b).2.1 := by decide +kernel
theorem tyX11_ok : ∀ k, k < 14 → parseFieldDescriptor (TX11 k).2.2.1 = some (tyX11 k) := by decide +kernel
abbrev cX11_init : ByteArray := prog_1_method_1_code
def yX11_init : MethodName := ⟨RX11, "<init>", "()V"⟩
abbrev cX11_places : ByteArray := prog_1_method_2_code
def yX11_places : MethodName := ⟨RX11, "places", "(I)I"⟩
abbrev cX11_dog : ByteArray := prog_1_method_3_code
def yX11_dog : MethodName := ⟨RX11, "dog", "(III)I"⟩
abbrev cX11_pup : ByteArray := prog_1_method_4_code
def yX11_pup : MethodName := ⟨RX11, "pup", "(IIIIII)I"⟩
abbrev cX11_shut : ByteArray := prog_1_method_5_code
def yX11_shut : MethodName := ⟨RX11, "shut", "(IZ)I"⟩
abbrev cX11_put : ByteArray := prog_1_method_6_code
def yX11_put : MethodName := ⟨RX11, "put", "(II)I"⟩
abbrev cX11_type : ByteArray := prog_1_method_7_code
def yX11_type : MethodName := ⟨RX11, "type", "(JI)I"⟩
abbrev cX11_clear : ByteArray := prog_1_method_8_code
def yX11_clear : MethodName := ⟨RX11, "clear", "()I"⟩
abbrev cX11_read : ByteArray := prog_1_method_9_code
def yX11_read : MethodName := ⟨RX11, "read", "()I"⟩
abbrev cX11_goes : ByteArray := prog_1_method_10_code
def yX11_goes : MethodName := ⟨RX11, "goes", "(IIII)I"⟩
abbrev cX11_run : ByteArray := prog_1_method_11_code
def yX11_run : MethodName := ⟨RX11, "run", "(IIII)I"⟩
abbrev cX11_meets : ByteArray := prog_1_method_12_code
def yX11_meets : MethodName := ⟨RX11, "meets", "(III)I"⟩
abbrev cX11_tame : ByteArray := prog_1_method_13_code
def yX11_tame : MethodName := ⟨RX11, "tame", "(II)I"⟩
abbrev cX11_quiet : ByteArray := prog_1_method_14_code
def yX11_quiet : MethodName := ⟨RX11, "quiet", "(I)I"⟩
abbrev cX11_apart : ByteArray := prog_1_method_15_code
def yX11_apart : MethodName := ⟨RX11, "apart", "(I)I"⟩
abbrev cX11_shuts : ByteArray := prog_1_method_16_code
def yX11_shuts : MethodName := ⟨RX11, "shuts", "(I)I"⟩
abbrev cX11_neighbour : ByteArray := prog_1_method_17_code
def yX11_neighbour : MethodName := ⟨RX11, "neighbour", "(IIII)I"⟩
abbrev cX11_tells : ByteArray := prog_1_method_18_code
def yX11_tells : MethodName := ⟨RX11, "tells", "(III)I"⟩
abbrev cX11_which : ByteArray := prog_1_method_19_code
def yX11_which : MethodName := ⟨RX11, "which", "(III)I"⟩
abbrev cX11_starts : ByteArray := prog_1_method_20_code
def yX11_starts : MethodName := ⟨RX11, "starts", "(IIII)I"⟩
abbrev cX11_drawn : ByteArray := prog_1_method_21_code
def yX11_drawn : MethodName := ⟨RX11, "drawn", "(III)I"⟩
abbrev cX11_part : ByteArray := prog_1_method_22_code
def yX11_part : MethodName := ⟨RX11, "part", "(I)J"⟩
abbrev cX11_image : ByteArray := prog_1_method_23_code
def yX11_image : MethodName := ⟨RX11, "image", "(I)I"⟩
abbrev cX11_from : ByteArray := prog_1_method_24_code
def yX11_from : MethodName := ⟨RX11, "from", "(I)I"⟩
abbrev cX11_status : ByteArray := prog_1_method_25_code
def yX11_status : MethodName := ⟨RX11, "status", "(I)I"⟩
abbrev cX11_count : ByteArray := prog_1_method_26_code
def yX11_count : MethodName := ⟨RX11, "count", "(I)I"⟩
abbrev cX11_digest : ByteArray := prog_1_method_27_code
def yX11_digest : MethodName := ⟨RX11, "digest", "()J"⟩
abbrev cX11_refusedBad : ByteArray := prog_1_method_28_code
def yX11_refusedBad : MethodName := ⟨RX11, "refusedBad", "(I)I"⟩
abbrev cX11_refusedNo : ByteArray := prog_1_method_29_code
def yX11_refusedNo : MethodName := ⟨RX11, "refusedNo", "()I"⟩
abbrev cX11_refusedFull : ByteArray := prog_1_method_30_code
def yX11_refusedFull : MethodName := ⟨RX11, "refusedFull", "()I"⟩
abbrev cX11_canPut : ByteArray := prog_1_method_31_code
def yX11_canPut : MethodName := ⟨RX11, "canPut", "(II)Z"⟩
abbrev cX11_isTune : ByteArray := prog_1_method_32_code
def yX11_isTune : MethodName := ⟨RX11, "isTune", "(II)Z"⟩
abbrev cX11_isHeard : ByteArray := prog_1_method_33_code
def yX11_isHeard : MethodName := ⟨RX11, "isHeard", "(III)Z"⟩
abbrev cX11_areBits : ByteArray := prog_1_method_34_code
def yX11_areBits : MethodName := ⟨RX11, "areBits", "(II)Z"⟩
abbrev cX11_holds : ByteArray := prog_1_method_35_code
def yX11_holds : MethodName := ⟨RX11, "holds", "(II)Z"⟩
abbrev cX11_origins : ByteArray := prog_1_method_36_code
def yX11_origins : MethodName := ⟨RX11, "origins", "(LOneWhistle$Plain;III)I"⟩
abbrev cX11_soundsSo : ByteArray := prog_1_method_37_code
def yX11_soundsSo : MethodName := ⟨RX11, "soundsSo", "(LOneWhistle$Plain;IIII)Z"⟩
abbrev cX11_drawOne : ByteArray := prog_1_method_38_code
def yX11_drawOne : MethodName := ⟨RX11, "drawOne", "(LOneWhistle$Plain;II)V"⟩
abbrev cX11_keepFraction : ByteArray := prog_1_method_39_code
def yX11_keepFraction : MethodName := ⟨RX11, "keepFraction", "(JJ)V"⟩
abbrev cX11_commonDivisor : ByteArray := prog_1_method_40_code
def yX11_commonDivisor : MethodName := ⟨RX11, "commonDivisor", "(JJ)J"⟩
abbrev cX11_isRowsKind : ByteArray := prog_1_method_41_code
def yX11_isRowsKind : MethodName := ⟨RX11, "isRowsKind", "(I)Z"⟩
abbrev cX11_isLearningKind : ByteArray := prog_1_method_42_code
def yX11_isLearningKind : MethodName := ⟨RX11, "isLearningKind", "(I)Z"⟩
abbrev cX11_bred : ByteArray := prog_1_method_43_code
def yX11_bred : MethodName := ⟨RX11, "bred", "(III)LOneWhistle$Plain;"⟩
abbrev cX11_bredLearning : ByteArray := prog_1_method_44_code
def yX11_bredLearning : MethodName := ⟨RX11, "bredLearning", "(IIIIII)LOneWhistle$Plain;"⟩
abbrev cX11_phaseOf : ByteArray := prog_1_method_45_code
def yX11_phaseOf : MethodName := ⟨RX11, "phaseOf", "(I)I"⟩
abbrev cX11_lowestBitIndex : ByteArray := prog_1_method_46_code
def yX11_lowestBitIndex : MethodName := ⟨RX11, "lowestBitIndex", "(I)I"⟩
def RX12 : String := "OneWhistleModel"
def TX12 : u_T := fun k => match k with
  | 0 => ("OneWhistleModel", "book", "[I", true)
  | 1 => ("OneWhistleModel", "draft", "[I", true)
  | 2 => ("OneWhistleModel", "images", "[I", true)
  | 3 => ("OneWhistleModel", "kept", "[Z", true)
  | 4 => ("OneWhistleModel", "text", "[I", true)
  | 5 => ("OneWhistleModel", "length", "I", false)
  | 6 => ("OneWhistleModel", "refused", "[I", true)
  | 7 => ("OneWhistleModel", "above", "J", false)
  | 8 => ("OneWhistleModel", "below", "J", false)
  | 9 => ("OneWhistleModel", "at", "I", false)
  | 10 => ("OneWhistleModel", "sort", "I", false)
  | 11 => ("OneWhistleModel", "start", "I", false)
  | 12 => ("OneWhistleModel", "size", "I", false)
  | 13 => ("OneWhistleModel", "best", "[I", true)
  | 14 => ("OneWhistleModel", "waits", "[I", true)
  | 15 => ("OneWhistleModel", "many", "[I", true)
  | 16 => ("OneWhistleModel", "reachedBy", "I", false)
  | 17 => ("OneWhistleModel", "reachedWorth", "I", false)
  | 18 => ("OneWhistleModel", "meet", "[Z", true)
  | 19 => ("OneWhistleModel", "takes", "[I", true)
  | _ => ("OneWhistleModel", "ends", "[J", true)
def tyX12 : Nat → FieldType := fun k => match k with
  | 0 => .array .int
  | 1 => .array .int
  | 2 => .array .int
  | 3 => .array .boolean
  | 4 => .array .int
  | 5 => .int
  | 6 => .array .int
  | 7 => .long
  | 8 => .long
  | 9 => .int
  | 10 => .int
  | 11 => .int
  | 12 => .int
  | 13 => .array .int
  | 14 => .array .int
  | 15 => .array .int
  | 16 => .int
  | 17 => .int
  | 18 => .array .boolean
  | 19 => .array .int
  | _ => .array .long
abbrev wsX120 : List Cond := u_ws RX12 TX12 21
theorem nmX12 : ∀ a, a < 21 → ∀ b, b < 21 → a ≠ b → (TX12 a).2.1 ≠ (TX12 b).2.1 := by decide +kernel
theorem tyX12_ok : ∀ k, k < 21 → parseFieldDescriptor (TX12 k).2.2.1 = some (tyX12 k) := by decide +kernel
abbrev cX12_init : ByteArray := prog_14_method_1_code
def yX12_init : MethodName := ⟨RX12, "<init>", "()V"⟩
abbrev cX12_in : ByteArray := prog_14_method_3_code
def yX12_in : MethodName := ⟨RX12, "in", "(III)Z"⟩
abbrev cX12_refuses : ByteArray := prog_14_method_4_code
def yX12_refuses : MethodName := ⟨RX12, "refuses", "(II)I"⟩
abbrev cX12_bad : ByteArray := prog_14_method_5_code
def yX12_bad : MethodName := ⟨RX12, "bad", "()I"⟩
abbrev cX12_isPlace : ByteArray := prog_14_method_6_code
def yX12_isPlace : MethodName := ⟨RX12, "isPlace", "(I)Z"⟩
abbrev cX12_isDog : ByteArray := prog_14_method_7_code
def yX12_isDog : MethodName := ⟨RX12, "isDog", "(I)Z"⟩
abbrev cX12_isSet : ByteArray := prog_14_method_8_code
def yX12_isSet : MethodName := ⟨RX12, "isSet", "(I)Z"⟩
abbrev cX12_isTune : ByteArray := prog_14_method_9_code
def yX12_isTune : MethodName := ⟨RX12, "isTune", "(II)Z"⟩
abbrev cX12_places : ByteArray := prog_14_method_10_code
def yX12_places : MethodName := ⟨RX12, "places", "(I)I"⟩
abbrev cX12_isRow : ByteArray := prog_14_method_11_code
def yX12_isRow : MethodName := ⟨RX12, "isRow", "(I)Z"⟩
abbrev cX12_comes : ByteArray := prog_14_method_12_code
def yX12_comes : MethodName := ⟨RX12, "comes", "(IIIIII)I"⟩
abbrev cX12_dog : ByteArray := prog_14_method_13_code
def yX12_dog : MethodName := ⟨RX12, "dog", "(III)I"⟩
abbrev cX12_pup : ByteArray := prog_14_method_14_code
def yX12_pup : MethodName := ⟨RX12, "pup", "(IIIIII)I"⟩
abbrev cX12_shut : ByteArray := prog_14_method_15_code
def yX12_shut : MethodName := ⟨RX12, "shut", "(IZ)I"⟩
abbrev cX12_put : ByteArray := prog_14_method_16_code
def yX12_put : MethodName := ⟨RX12, "put", "(II)I"⟩
abbrev cX12_type : ByteArray := prog_14_method_17_code
def yX12_type : MethodName := ⟨RX12, "type", "(JI)I"⟩
abbrev cX12_clear : ByteArray := prog_14_method_18_code
def yX12_clear : MethodName := ⟨RX12, "clear", "()I"⟩
abbrev cX12_byteAt : ByteArray := prog_14_method_19_code
def yX12_byteAt : MethodName := ⟨RX12, "byteAt", "(I)I"⟩
abbrev cX12_sortOf : ByteArray := prog_14_method_20_code
def yX12_sortOf : MethodName := ⟨RX12, "sortOf", "(I)I"⟩
abbrev cX12_token : ByteArray := prog_14_method_21_code
def yX12_token : MethodName := ⟨RX12, "token", "()V"⟩
abbrev cX12_verb : ByteArray := prog_14_method_22_code
def yX12_verb : MethodName := ⟨RX12, "verb", "()I"⟩
abbrev cX12_figure : ByteArray := prog_14_method_23_code
def yX12_figure : MethodName := ⟨RX12, "figure", "(II)I"⟩
abbrev cX12_row : ByteArray := prog_14_method_24_code
def yX12_row : MethodName := ⟨RX12, "row", "()I"⟩
abbrev cX12_readsDog : ByteArray := prog_14_method_25_code
def yX12_readsDog : MethodName := ⟨RX12, "readsDog", "()Z"⟩
abbrev cX12_readsItem : ByteArray := prog_14_method_26_code
def yX12_readsItem : MethodName := ⟨RX12, "readsItem", "(I)Z"⟩
abbrev cX12_reads : ByteArray := prog_14_method_27_code
def yX12_reads : MethodName := ⟨RX12, "reads", "()Z"⟩
abbrev cX12_read : ByteArray := prog_14_method_28_code
def yX12_read : MethodName := ⟨RX12, "read", "()I"⟩
abbrev cX12_step : ByteArray := prog_14_method_29_code
def yX12_step : MethodName := ⟨RX12, "step", "(II)I"⟩
abbrev cX12_go : ByteArray := prog_14_method_30_code
def yX12_go : MethodName := ⟨RX12, "go", "(IIII)I"⟩
abbrev cX12_goes : ByteArray := prog_14_method_31_code
def yX12_goes : MethodName := ⟨RX12, "goes", "(IIII)I"⟩
abbrev cX12_ran : ByteArray := prog_14_method_32_code
def yX12_ran : MethodName := ⟨RX12, "ran", "(IIII)I"⟩
abbrev cX12_run : ByteArray := prog_14_method_33_code
def yX12_run : MethodName := ⟨RX12, "run", "(IIII)I"⟩
abbrev cX12_meets : ByteArray := prog_14_method_34_code
def yX12_meets : MethodName := ⟨RX12, "meets", "(III)I"⟩
abbrev cX12_after : ByteArray := prog_14_method_35_code
def yX12_after : MethodName := ⟨RX12, "after", "(III)I"⟩
abbrev cX12_comesTo : ByteArray := prog_14_method_36_code
def yX12_comesTo : MethodName := ⟨RX12, "comesTo", "(III)V"⟩
abbrev cX12_layer : ByteArray := prog_14_method_37_code
def yX12_layer : MethodName := ⟨RX12, "layer", "(IZ)V"⟩
abbrev cX12_empties : ByteArray := prog_14_method_38_code
def yX12_empties : MethodName := ⟨RX12, "empties", "()V"⟩
abbrev cX12_leads : ByteArray := prog_14_method_39_code
def yX12_leads : MethodName := ⟨RX12, "leads", "(IIZ)Z"⟩
abbrev cX12_all : ByteArray := prog_14_method_40_code
def yX12_all : MethodName := ⟨RX12, "all", "(II)I"⟩
abbrev cX12_tames : ByteArray := prog_14_method_41_code
def yX12_tames : MethodName := ⟨RX12, "tames", "(IZ)Z"⟩
abbrev cX12_tune : ByteArray := prog_14_method_42_code
def yX12_tune : MethodName := ⟨RX12, "tune", "()I"⟩
abbrev cX12_tame : ByteArray := prog_14_method_43_code
def yX12_tame : MethodName := ⟨RX12, "tame", "(II)I"⟩
abbrev cX12_quiet : ByteArray := prog_14_method_44_code
def yX12_quiet : MethodName := ⟨RX12, "quiet", "(I)I"⟩
abbrev cX12_shuts : ByteArray := prog_14_method_45_code
def yX12_shuts : MethodName := ⟨RX12, "shuts", "(I)I"⟩
abbrev cX12_neighbour : ByteArray := prog_14_method_46_code
def yX12_neighbour : MethodName := ⟨RX12, "neighbour", "(IIII)I"⟩
abbrev cX12_bits : ByteArray := prog_14_method_47_code
def yX12_bits : MethodName := ⟨RX12, "bits", "(I)I"⟩
abbrev cX12_apart : ByteArray := prog_14_method_48_code
def yX12_apart : MethodName := ⟨RX12, "apart", "(I)I"⟩
abbrev cX12_takesBy : ByteArray := prog_14_method_49_code
def yX12_takesBy : MethodName := ⟨RX12, "takesBy", "(IIII)I"⟩
abbrev cX12_allTakes : ByteArray := prog_14_method_50_code
def yX12_allTakes : MethodName := ⟨RX12, "allTakes", "(I)V"⟩
abbrev cX12_tells : ByteArray := prog_14_method_51_code
def yX12_tells : MethodName := ⟨RX12, "tells", "(III)I"⟩
abbrev cX12_heard : ByteArray := prog_14_method_52_code
def yX12_heard : MethodName := ⟨RX12, "heard", "(IIIII)Z"⟩
abbrev cX12_begins : ByteArray := prog_14_method_53_code
def yX12_begins : MethodName := ⟨RX12, "begins", "(IIII)I"⟩
abbrev cX12_which : ByteArray := prog_14_method_54_code
def yX12_which : MethodName := ⟨RX12, "which", "(III)I"⟩
abbrev cX12_starts : ByteArray := prog_14_method_55_code
def yX12_starts : MethodName := ⟨RX12, "starts", "(IIII)I"⟩
abbrev cX12_drawn : ByteArray := prog_14_method_56_code
def yX12_drawn : MethodName := ⟨RX12, "drawn", "(III)I"⟩
abbrev cX12_part : ByteArray := prog_14_method_57_code
def yX12_part : MethodName := ⟨RX12, "part", "(I)J"⟩
abbrev cX12_image : ByteArray := prog_14_method_58_code
def yX12_image : MethodName := ⟨RX12, "image", "(I)I"⟩
abbrev cX12_from : ByteArray := prog_14_method_59_code
def yX12_from : MethodName := ⟨RX12, "from", "(I)I"⟩
abbrev cX12_status : ByteArray := prog_14_method_60_code
def yX12_status : MethodName := ⟨RX12, "status", "(I)I"⟩
abbrev cX12_counted : ByteArray := prog_14_method_61_code
def yX12_counted : MethodName := ⟨RX12, "counted", "(I)I"⟩
abbrev cX12_count : ByteArray := prog_14_method_62_code
def yX12_count : MethodName := ⟨RX12, "count", "(I)I"⟩
abbrev cX12_digest : ByteArray := prog_14_method_63_code
def yX12_digest : MethodName := ⟨RX12, "digest", "()J"⟩
def RJx145de : String := "java/io/Serializable"
def TJx145de : u_T := fun k => match k with
  | _ => ("", "", "", false)
def tyJx145de : Nat → FieldType := fun k => match k with
  | _ => .int
theorem nmJx145de : ∀ a, a < 0 → ∀ b, b < 0 → a ≠ b → (TJx145de a).2.1 ≠ (TJx145de b).2.1 := by decide +kernel
theorem tyJx145de_ok : ∀ k, k < 0 → parseFieldDescriptor (TJx145de k).2.2.1 = some (tyJx145de k) := by decide +kernel
def RJx9f9b0 : String := "java/lang/CharSequence"
def TJx9f9b0 : u_T := fun k => match k with
  | _ => ("", "", "", false)
def tyJx9f9b0 : Nat → FieldType := fun k => match k with
  | _ => .int
theorem nmJx9f9b0 : ∀ a, a < 0 → ∀ b, b < 0 → a ≠ b → (TJx9f9b0 a).2.1 ≠ (TJx9f9b0 b).2.1 := by decide +kernel
theorem tyJx9f9b0_ok : ∀ k, k < 0 → parseFieldDescriptor (TJx9f9b0 k).2.2.1 = some (tyJx9f9b0 k) := by decide +kernel
def RJx8e188 : String := "java/lang/Cloneable"
def TJx8e188 : u_T := fun k => match k with
  | _ => ("", "", "", false)
def tyJx8e188 : Nat → FieldType := fun k => match k with
  | _ => .int
theorem nmJx8e188 : ∀ a, a < 0 → ∀ b, b < 0 → a ≠ b → (TJx8e188 a).2.1 ≠ (TJx8e188 b).2.1 := by decide +kernel
theorem tyJx8e188_ok : ∀ k, k < 0 → parseFieldDescriptor (TJx8e188 k).2.2.1 = some (tyJx8e188 k) := by decide +kernel
def RJxb160c : String := "java/lang/Comparable"
def TJxb160c : u_T := fun k => match k with
  | _ => ("", "", "", false)
def tyJxb160c : Nat → FieldType := fun k => match k with
  | _ => .int
theorem nmJxb160c : ∀ a, a < 0 → ∀ b, b < 0 → a ≠ b → (TJxb160c a).2.1 ≠ (TJxb160c b).2.1 := by decide +kernel
theorem tyJxb160c_ok : ∀ k, k < 0 → parseFieldDescriptor (TJxb160c k).2.2.1 = some (tyJxb160c k) := by decide +kernel
def RJ6 : String := "java/lang/Integer"
def TJ6 : u_T := fun k => match k with
  | _ => ("", "", "", false)
def tyJ6 : Nat → FieldType := fun k => match k with
  | _ => .int
theorem nmJ6 : ∀ a, a < 0 → ∀ b, b < 0 → a ≠ b → (TJ6 a).2.1 ≠ (TJ6 b).2.1 := by decide +kernel
theorem tyJ6_ok : ∀ k, k < 0 → parseFieldDescriptor (TJ6 k).2.2.1 = some (tyJ6 k) := by decide +kernel
abbrev cJ6_bitCount_0f7a4 : ByteArray := prog_16_method_49_code
def yJ6_bitCount_0f7a4 : MethodName := ⟨RJ6, "bitCount", "(I)I"⟩
def RJ9 : String := "java/lang/Math"
def TJ9 : u_T := fun k => match k with
  | _ => ("", "", "", false)
def tyJ9 : Nat → FieldType := fun k => match k with
  | _ => .int
theorem nmJ9 : ∀ a, a < 0 → ∀ b, b < 0 → a ≠ b → (TJ9 a).2.1 ≠ (TJ9 b).2.1 := by decide +kernel
theorem tyJ9_ok : ∀ k, k < 0 → parseFieldDescriptor (TJ9 k).2.2.1 = some (tyJ9 k) := by decide +kernel
abbrev cJ9_max_7cf53 : ByteArray := prog_17_method_65_code
def yJ9_max_7cf53 : MethodName := ⟨RJ9, "max", "(II)I"⟩
abbrev cJ9_min_7cf53 : ByteArray := prog_17_method_69_code
def yJ9_min_7cf53 : MethodName := ⟨RJ9, "min", "(II)I"⟩
def RJ0 : String := "java/lang/String"
def TJ0 : u_T := fun k => match k with
  | _ => ("", "", "", false)
def tyJ0 : Nat → FieldType := fun k => match k with
  | _ => .int
theorem nmJ0 : ∀ a, a < 0 → ∀ b, b < 0 → a ≠ b → (TJ0 a).2.1 ≠ (TJ0 b).2.1 := by decide +kernel
theorem tyJ0_ok : ∀ k, k < 0 → parseFieldDescriptor (TJ0 k).2.2.1 = some (tyJ0 k) := by decide +kernel
abbrev cJ0_length_8abf5 : ByteArray := prog_18_method_54_code
def yJ0_length_8abf5 : MethodName := ⟨RJ0, "length", "()I"⟩
abbrev cJ0_charAt_5068e : ByteArray := prog_18_method_56_code
def yJ0_charAt_5068e : MethodName := ⟨RJ0, "charAt", "(I)C"⟩
abbrev cJ0_coder_7d493 : ByteArray := prog_18_method_152_code
def yJ0_coder_7d493 : MethodName := ⟨RJ0, "coder", "()B"⟩
abbrev cJ0_isLatin1_aae02 : ByteArray := prog_18_method_154_code
def yJ0_isLatin1_aae02 : MethodName := ⟨RJ0, "isLatin1", "()Z"⟩
abbrev cJ0_checkIndex_df160 : ByteArray := prog_18_method_155_code
def yJ0_checkIndex_df160 : MethodName := ⟨RJ0, "checkIndex", "(II)V"⟩
def RJ1 : String := "java/lang/StringLatin1"
def TJ1 : u_T := fun k => match k with
  | _ => ("", "", "", false)
def tyJ1 : Nat → FieldType := fun k => match k with
  | _ => .int
theorem nmJ1 : ∀ a, a < 0 → ∀ b, b < 0 → a ≠ b → (TJ1 a).2.1 ≠ (TJ1 b).2.1 := by decide +kernel
theorem tyJ1_ok : ∀ k, k < 0 → parseFieldDescriptor (TJ1 k).2.2.1 = some (tyJ1 k) := by decide +kernel
abbrev cJ1_charAt_3b067 : ByteArray := prog_19_method_2_code
def yJ1_charAt_3b067 : MethodName := ⟨RJ1, "charAt", "([BI)C"⟩
def RJ2 : String := "java/lang/StringUTF16"
def TJ2 : u_T := fun k => match k with
  | _ => ("", "", "", false)
def tyJ2 : Nat → FieldType := fun k => match k with
  | _ => .int
theorem nmJ2 : ∀ a, a < 0 → ∀ b, b < 0 → a ≠ b → (TJ2 a).2.1 ≠ (TJ2 b).2.1 := by decide +kernel
theorem tyJ2_ok : ∀ k, k < 0 → parseFieldDescriptor (TJ2 k).2.2.1 = some (tyJ2 k) := by decide +kernel
abbrev cJ2_getChar_3b067 : ByteArray := prog_20_method_5_code
def yJ2_getChar_3b067 : MethodName := ⟨RJ2, "getChar", "([BI)C"⟩
abbrev cJ2_length_9d52b : ByteArray := prog_20_method_6_code
def yJ2_length_9d52b : MethodName := ⟨RJ2, "length", "([B)I"⟩
abbrev cJ2_charAt_3b067 : ByteArray := prog_20_method_83_code
def yJ2_charAt_3b067 : MethodName := ⟨RJ2, "charAt", "([BI)C"⟩
abbrev cJ2_checkIndex_2214a : ByteArray := prog_20_method_91_code
def yJ2_checkIndex_2214a : MethodName := ⟨RJ2, "checkIndex", "(I[B)V"⟩
def RJ10 : String := "java/lang/System"
def TJ10 : u_T := fun k => match k with
  | _ => ("", "", "", false)
def tyJ10 : Nat → FieldType := fun k => match k with
  | _ => .int
theorem nmJ10 : ∀ a, a < 0 → ∀ b, b < 0 → a ≠ b → (TJ10 a).2.1 ≠ (TJ10 b).2.1 := by decide +kernel
theorem tyJ10_ok : ∀ k, k < 0 → parseFieldDescriptor (TJ10 k).2.2.1 = some (tyJ10 k) := by decide +kernel
def RJxfd54e : String := "java/lang/constant/Constable"
def TJxfd54e : u_T := fun k => match k with
  | _ => ("", "", "", false)
def tyJxfd54e : Nat → FieldType := fun k => match k with
  | _ => .int
theorem nmJxfd54e : ∀ a, a < 0 → ∀ b, b < 0 → a ≠ b → (TJxfd54e a).2.1 ≠ (TJxfd54e b).2.1 := by decide +kernel
theorem tyJxfd54e_ok : ∀ k, k < 0 → parseFieldDescriptor (TJxfd54e k).2.2.1 = some (tyJxfd54e k) := by decide +kernel
def RJx3cf43 : String := "java/lang/constant/ConstantDesc"
def TJx3cf43 : u_T := fun k => match k with
  | _ => ("", "", "", false)
def tyJx3cf43 : Nat → FieldType := fun k => match k with
  | _ => .int
theorem nmJx3cf43 : ∀ a, a < 0 → ∀ b, b < 0 → a ≠ b → (TJx3cf43 a).2.1 ≠ (TJx3cf43 b).2.1 := by decide +kernel
theorem tyJx3cf43_ok : ∀ k, k < 0 → parseFieldDescriptor (TJx3cf43 k).2.2.1 = some (tyJx3cf43 k) := by decide +kernel
def RJ7 : String := "java/util/Arrays"
def TJ7 : u_T := fun k => match k with
  | _ => ("", "", "", false)
def tyJ7 : Nat → FieldType := fun k => match k with
  | _ => .int
theorem nmJ7 : ∀ a, a < 0 → ∀ b, b < 0 → a ≠ b → (TJ7 a).2.1 ≠ (TJ7 b).2.1 := by decide +kernel
theorem tyJ7_ok : ∀ k, k < 0 → parseFieldDescriptor (TJ7 k).2.2.1 = some (tyJ7 k) := by decide +kernel
abbrev cJ7_fill_d0a16 : ByteArray := prog_22_method_101_code
def yJ7_fill_d0a16 : MethodName := ⟨RJ7, "fill", "([JJ)V"⟩
abbrev cJ7_fill_53178 : ByteArray := prog_22_method_103_code
def yJ7_fill_53178 : MethodName := ⟨RJ7, "fill", "([II)V"⟩
abbrev cJ7_copyOf_c38d5 : ByteArray := prog_22_method_124_code
def yJ7_copyOf_c38d5 : MethodName := ⟨RJ7, "copyOf", "([JI)[J"⟩
def RJ3 : String := "jdk/internal/util/Preconditions"
def TJ3 : u_T := fun k => match k with
  | _ => ("", "", "", false)
def tyJ3 : Nat → FieldType := fun k => match k with
  | _ => .int
theorem nmJ3 : ∀ a, a < 0 → ∀ b, b < 0 → a ≠ b → (TJ3 a).2.1 ≠ (TJ3 b).2.1 := by decide +kernel
theorem tyJ3_ok : ∀ k, k < 0 → parseFieldDescriptor (TJ3 k).2.2.1 = some (tyJ3 k) := by decide +kernel
abbrev cJ3_checkIndex_8e157 : ByteArray := prog_23_method_11_code
def yJ3_checkIndex_8e157 : MethodName := ⟨RJ3, "checkIndex", "(IILjava/util/function/BiFunction;)I"⟩
def RL : String := "OneWhistleLaw"
abbrev cL_law : ByteArray := code
def yL_law : MethodName := ⟨RL, "law", "([I)Z"⟩
abbrev vwCl : List vw_C := [(RX0, TX0, 11), (RX1, TX1, 3), (RX2, TX2, 8), (RX3, TX3, 6), (RX4, TX4, 4), (RX5, TX5, 3), (RX6, TX6, 6), (RX7, TX7, 7), (RX8, TX8, 3), (RX9, TX9, 3), (RX10, TX10, 2), (RX11, TX11, 14), (RX12, TX12, 21)]
end
section
theorem dX0_init_0 : decode cX0_init 0 = .ok (.aload_n 0, 1) := by decide +kernel
theorem dX0_init_1 : decode cX0_init 1 = .ok (.invokespecial 3, 3) := by decide +kernel
theorem dX0_init_4 : decode cX0_init 4 = .ok (.aload_n 0, 1) := by decide +kernel
theorem dX0_init_5 : decode cX0_init 5 = .ok (.iconst 3, 1) := by decide +kernel
theorem dX0_init_6 : decode cX0_init 6 = .ok (.anewarray 9, 3) := by decide +kernel
theorem dX0_init_9 : decode cX0_init 9 = .ok (.dup, 1) := by decide +kernel
theorem dX0_init_10 : decode cX0_init 10 = .ok (.iconst 0, 1) := by decide +kernel
theorem dX0_init_11 : decode cX0_init 11 = .ok (.new 9, 3) := by decide +kernel
theorem dX0_init_14 : decode cX0_init 14 = .ok (.dup, 1) := by decide +kernel
theorem dX0_init_15 : decode cX0_init 15 = .ok (.invokespecial 11, 3) := by decide +kernel
theorem dX0_init_18 : decode cX0_init 18 = .ok (.aastore, 1) := by decide +kernel
theorem dX0_init_19 : decode cX0_init 19 = .ok (.dup, 1) := by decide +kernel
theorem dX0_init_20 : decode cX0_init 20 = .ok (.iconst 1, 1) := by decide +kernel
theorem dX0_init_21 : decode cX0_init 21 = .ok (.new 9, 3) := by decide +kernel
theorem dX0_init_24 : decode cX0_init 24 = .ok (.dup, 1) := by decide +kernel
theorem dX0_init_25 : decode cX0_init 25 = .ok (.invokespecial 11, 3) := by decide +kernel
theorem dX0_init_28 : decode cX0_init 28 = .ok (.aastore, 1) := by decide +kernel
theorem dX0_init_29 : decode cX0_init 29 = .ok (.dup, 1) := by decide +kernel
theorem dX0_init_30 : decode cX0_init 30 = .ok (.iconst 2, 1) := by decide +kernel
theorem dX0_init_31 : decode cX0_init 31 = .ok (.new 9, 3) := by decide +kernel
theorem dX0_init_34 : decode cX0_init 34 = .ok (.dup, 1) := by decide +kernel
theorem dX0_init_35 : decode cX0_init 35 = .ok (.invokespecial 11, 3) := by decide +kernel
theorem dX0_init_38 : decode cX0_init 38 = .ok (.aastore, 1) := by decide +kernel
theorem dX0_init_39 : decode cX0_init 39 = .ok (.putfield 12, 3) := by decide +kernel
theorem dX0_init_42 : decode cX0_init 42 = .ok (.aload_n 0, 1) := by decide +kernel
theorem dX0_init_43 : decode cX0_init 43 = .ok (.new 18, 3) := by decide +kernel
theorem dX0_init_46 : decode cX0_init 46 = .ok (.dup, 1) := by decide +kernel
theorem dX0_init_47 : decode cX0_init 47 = .ok (.invokespecial 20, 3) := by decide +kernel
theorem dX0_init_50 : decode cX0_init 50 = .ok (.putfield 21, 3) := by decide +kernel
theorem dX0_init_53 : decode cX0_init 53 = .ok (.aload_n 0, 1) := by decide +kernel
theorem dX0_init_54 : decode cX0_init 54 = .ok (.iconst 0, 1) := by decide +kernel
theorem dX0_init_55 : decode cX0_init 55 = .ok (.putfield 25, 3) := by decide +kernel
theorem dX0_init_58 : decode cX0_init 58 = .ok (.aload_n 0, 1) := by decide +kernel
theorem dX0_init_59 : decode cX0_init 59 = .ok (.iconst 0, 1) := by decide +kernel
theorem dX0_init_60 : decode cX0_init 60 = .ok (.putfield 29, 3) := by decide +kernel
theorem dX0_init_63 : decode cX0_init 63 = .ok (.aload_n 0, 1) := by decide +kernel
theorem dX0_init_64 : decode cX0_init 64 = .ok (.iconst 0, 1) := by decide +kernel
theorem dX0_init_65 : decode cX0_init 65 = .ok (.putfield 32, 3) := by decide +kernel
theorem dX0_init_68 : decode cX0_init 68 = .ok (.aload_n 0, 1) := by decide +kernel
theorem dX0_init_69 : decode cX0_init 69 = .ok (.bipush 32, 2) := by decide +kernel
theorem dX0_init_71 : decode cX0_init 71 = .ok (.newarray .long, 2) := by decide +kernel
theorem dX0_init_73 : decode cX0_init 73 = .ok (.putfield 36, 3) := by decide +kernel
theorem dX0_init_76 : decode cX0_init 76 = .ok (.aload_n 0, 1) := by decide +kernel
theorem dX0_init_77 : decode cX0_init 77 = .ok (.bipush 32, 2) := by decide +kernel
theorem dX0_init_79 : decode cX0_init 79 = .ok (.newarray .long, 2) := by decide +kernel
theorem dX0_init_81 : decode cX0_init 81 = .ok (.putfield 40, 3) := by decide +kernel
theorem dX0_init_84 : decode cX0_init 84 = .ok (.aload_n 0, 1) := by decide +kernel
theorem dX0_init_85 : decode cX0_init 85 = .ok (.iconst 0, 1) := by decide +kernel
theorem dX0_init_86 : decode cX0_init 86 = .ok (.putfield 43, 3) := by decide +kernel
theorem dX0_init_89 : decode cX0_init 89 = .ok (.aload_n 0, 1) := by decide +kernel
theorem dX0_init_90 : decode cX0_init 90 = .ok (.iconst 1, 1) := by decide +kernel
theorem dX0_init_91 : decode cX0_init 91 = .ok (.putfield 46, 3) := by decide +kernel
theorem dX0_init_94 : decode cX0_init 94 = .ok (.aload_n 0, 1) := by decide +kernel
theorem dX0_init_95 : decode cX0_init 95 = .ok (.ldc 49, 2) := by decide +kernel
theorem dX0_init_97 : decode cX0_init 97 = .ok (.putfield 50, 3) := by decide +kernel
theorem dX0_init_100 : decode cX0_init 100 = .ok (.aload_n 0, 1) := by decide +kernel
theorem dX0_init_101 : decode cX0_init 101 = .ok (.iconst 0, 1) := by decide +kernel
theorem dX0_init_102 : decode cX0_init 102 = .ok (.putfield 53, 3) := by decide +kernel
theorem dX0_init_105 : decode cX0_init 105 = .ok (.return_, 1) := by decide +kernel
theorem dX0_follow_0 : decode cX0_follow 0 = .ok (.aload_n 0, 1) := by decide +kernel
theorem dX0_follow_1 : decode cX0_follow 1 = .ok (.iconst 0, 1) := by decide +kernel
theorem dX0_follow_2 : decode cX0_follow 2 = .ok (.putfield 25, 3) := by decide +kernel
theorem dX0_follow_5 : decode cX0_follow 5 = .ok (.aload_n 0, 1) := by decide +kernel
theorem dX0_follow_6 : decode cX0_follow 6 = .ok (.iconst 0, 1) := by decide +kernel
theorem dX0_follow_7 : decode cX0_follow 7 = .ok (.putfield 29, 3) := by decide +kernel
theorem dX0_follow_10 : decode cX0_follow 10 = .ok (.aload_n 0, 1) := by decide +kernel
theorem dX0_follow_11 : decode cX0_follow 11 = .ok (.iconst 0, 1) := by decide +kernel
theorem dX0_follow_12 : decode cX0_follow 12 = .ok (.putfield 32, 3) := by decide +kernel
theorem dX0_follow_15 : decode cX0_follow 15 = .ok (.iconst 0, 1) := by decide +kernel
theorem dX0_follow_16 : decode cX0_follow 16 = .ok (.istore 4, 2) := by decide +kernel
theorem dX0_follow_18 : decode cX0_follow 18 = .ok (.iload 4, 2) := by decide +kernel
theorem dX0_follow_20 : decode cX0_follow 20 = .ok (.iconst 3, 1) := by decide +kernel
theorem dX0_follow_21 : decode cX0_follow 21 = .ok (.if_icmp .ge 49, 3) := by decide +kernel
theorem dX0_follow_24 : decode cX0_follow 24 = .ok (.aload_n 1, 1) := by decide +kernel
theorem dX0_follow_25 : decode cX0_follow 25 = .ok (.iload 4, 2) := by decide +kernel
theorem dX0_follow_27 : decode cX0_follow 27 = .ok (.invokevirtual 56, 3) := by decide +kernel
theorem dX0_follow_30 : decode cX0_follow 30 = .ok (.astore 5, 2) := by decide +kernel
theorem dX0_follow_32 : decode cX0_follow 32 = .ok (.aload 5, 2) := by decide +kernel
theorem dX0_follow_34 : decode cX0_follow 34 = .ok (.ifnull 30, 3) := by decide +kernel
theorem dX0_follow_37 : decode cX0_follow 37 = .ok (.iload_n 2, 1) := by decide +kernel
theorem dX0_follow_38 : decode cX0_follow 38 = .ok (.iload 4, 2) := by decide +kernel
theorem dX0_follow_40 : decode cX0_follow 40 = .ok (.invokestatic 62, 3) := by decide +kernel
theorem dX0_follow_43 : decode cX0_follow 43 = .ok (.ifCond .eq 21, 3) := by decide +kernel
theorem dX0_follow_46 : decode cX0_follow 46 = .ok (.aload_n 0, 1) := by decide +kernel
theorem dX0_follow_47 : decode cX0_follow 47 = .ok (.aload 5, 2) := by decide +kernel
theorem dX0_follow_49 : decode cX0_follow 49 = .ok (.aload_n 1, 1) := by decide +kernel
theorem dX0_follow_50 : decode cX0_follow 50 = .ok (.iload_n 3, 1) := by decide +kernel
theorem dX0_follow_51 : decode cX0_follow 51 = .ok (.aload_n 1, 1) := by decide +kernel
theorem dX0_follow_52 : decode cX0_follow 52 = .ok (.invokevirtual 66, 3) := by decide +kernel
theorem dX0_follow_55 : decode cX0_follow 55 = .ok (.iconst 1, 1) := by decide +kernel
theorem dX0_follow_56 : decode cX0_follow 56 = .ok (.aload_n 1, 1) := by decide +kernel
theorem dX0_follow_57 : decode cX0_follow 57 = .ok (.getfield 70, 3) := by decide +kernel
theorem dX0_follow_60 : decode cX0_follow 60 = .ok (.ishl, 1) := by decide +kernel
theorem dX0_follow_61 : decode cX0_follow 61 = .ok (.invokevirtual 73, 3) := by decide +kernel
theorem dX0_follow_64 : decode cX0_follow 64 = .ok (.iinc 4 1, 3) := by decide +kernel
theorem dX0_follow_67 : decode cX0_follow 67 = .ok (.goto (-49), 3) := by decide +kernel
theorem dX0_follow_70 : decode cX0_follow 70 = .ok (.return_, 1) := by decide +kernel
theorem dX0_addLane_0 : decode cX0_addLane 0 = .ok (.aload_n 0, 1) := by decide +kernel
theorem dX0_addLane_1 : decode cX0_addLane 1 = .ok (.getfield 25, 3) := by decide +kernel
theorem dX0_addLane_4 : decode cX0_addLane 4 = .ok (.iconst 3, 1) := by decide +kernel
theorem dX0_addLane_5 : decode cX0_addLane 5 = .ok (.if_icmp .lt 4, 3) := by decide +kernel
theorem dX0_addLane_8 : decode cX0_addLane 8 = .ok (.return_, 1) := by decide +kernel
theorem dX0_addLane_9 : decode cX0_addLane 9 = .ok (.aload_n 0, 1) := by decide +kernel
theorem dX0_addLane_10 : decode cX0_addLane 10 = .ok (.getfield 12, 3) := by decide +kernel
theorem dX0_addLane_13 : decode cX0_addLane 13 = .ok (.aload_n 0, 1) := by decide +kernel
theorem dX0_addLane_14 : decode cX0_addLane 14 = .ok (.getfield 25, 3) := by decide +kernel
theorem dX0_addLane_17 : decode cX0_addLane 17 = .ok (.aaload, 1) := by decide +kernel
theorem dX0_addLane_18 : decode cX0_addLane 18 = .ok (.astore 6, 2) := by decide +kernel
theorem dX0_addLane_20 : decode cX0_addLane 20 = .ok (.aload 6, 2) := by decide +kernel
theorem dX0_addLane_22 : decode cX0_addLane 22 = .ok (.aload_n 1, 1) := by decide +kernel
theorem dX0_addLane_23 : decode cX0_addLane 23 = .ok (.aload_n 2, 1) := by decide +kernel
theorem dX0_addLane_24 : decode cX0_addLane 24 = .ok (.getfield 77, 3) := by decide +kernel
theorem dX0_addLane_27 : decode cX0_addLane 27 = .ok (.iload_n 3, 1) := by decide +kernel
theorem dX0_addLane_28 : decode cX0_addLane 28 = .ok (.invokevirtual 80, 3) := by decide +kernel
theorem dX0_addLane_31 : decode cX0_addLane 31 = .ok (.aload 6, 2) := by decide +kernel
theorem dX0_addLane_33 : decode cX0_addLane 33 = .ok (.iload 5, 2) := by decide +kernel
theorem dX0_addLane_35 : decode cX0_addLane 35 = .ok (.invokevirtual 84, 3) := by decide +kernel
theorem dX0_addLane_38 : decode cX0_addLane 38 = .ok (.aload_n 0, 1) := by decide +kernel
theorem dX0_addLane_39 : decode cX0_addLane 39 = .ok (.dup, 1) := by decide +kernel
theorem dX0_addLane_40 : decode cX0_addLane 40 = .ok (.getfield 29, 3) := by decide +kernel
theorem dX0_addLane_43 : decode cX0_addLane 43 = .ok (.iload 4, 2) := by decide +kernel
theorem dX0_addLane_45 : decode cX0_addLane 45 = .ok (.iconst 5, 1) := by decide +kernel
theorem dX0_addLane_46 : decode cX0_addLane 46 = .ok (.aload_n 0, 1) := by decide +kernel
theorem dX0_addLane_47 : decode cX0_addLane 47 = .ok (.getfield 25, 3) := by decide +kernel
theorem dX0_addLane_50 : decode cX0_addLane 50 = .ok (.imul, 1) := by decide +kernel
theorem dX0_addLane_51 : decode cX0_addLane 51 = .ok (.ishl, 1) := by decide +kernel
theorem dX0_addLane_52 : decode cX0_addLane 52 = .ok (.ior, 1) := by decide +kernel
theorem dX0_addLane_53 : decode cX0_addLane 53 = .ok (.putfield 29, 3) := by decide +kernel
theorem dX0_addLane_56 : decode cX0_addLane 56 = .ok (.aload_n 0, 1) := by decide +kernel
theorem dX0_addLane_57 : decode cX0_addLane 57 = .ok (.dup, 1) := by decide +kernel
theorem dX0_addLane_58 : decode cX0_addLane 58 = .ok (.getfield 32, 3) := by decide +kernel
theorem dX0_addLane_61 : decode cX0_addLane 61 = .ok (.aload_n 1, 1) := by decide +kernel
theorem dX0_addLane_62 : decode cX0_addLane 62 = .ok (.invokevirtual 88, 3) := by decide +kernel
theorem dX0_addLane_65 : decode cX0_addLane 65 = .ok (.ior, 1) := by decide +kernel
theorem dX0_addLane_66 : decode cX0_addLane 66 = .ok (.putfield 32, 3) := by decide +kernel
theorem dX0_addLane_69 : decode cX0_addLane 69 = .ok (.aload_n 0, 1) := by decide +kernel
theorem dX0_addLane_70 : decode cX0_addLane 70 = .ok (.dup, 1) := by decide +kernel
theorem dX0_addLane_71 : decode cX0_addLane 71 = .ok (.getfield 25, 3) := by decide +kernel
theorem dX0_addLane_74 : decode cX0_addLane 74 = .ok (.iconst 1, 1) := by decide +kernel
theorem dX0_addLane_75 : decode cX0_addLane 75 = .ok (.iadd, 1) := by decide +kernel
theorem dX0_addLane_76 : decode cX0_addLane 76 = .ok (.putfield 25, 3) := by decide +kernel
theorem dX0_addLane_79 : decode cX0_addLane 79 = .ok (.return_, 1) := by decide +kernel
theorem dX0_seek_0 : decode cX0_seek 0 = .ok (.aload_n 0, 1) := by decide +kernel
theorem dX0_seek_1 : decode cX0_seek 1 = .ok (.getfield 21, 3) := by decide +kernel
theorem dX0_seek_4 : decode cX0_seek 4 = .ok (.invokevirtual 93, 3) := by decide +kernel
theorem dX0_seek_7 : decode cX0_seek 7 = .ok (.aload_n 0, 1) := by decide +kernel
theorem dX0_seek_8 : decode cX0_seek 8 = .ok (.iload_n 1, 1) := by decide +kernel
theorem dX0_seek_9 : decode cX0_seek 9 = .ok (.iload_n 2, 1) := by decide +kernel
theorem dX0_seek_10 : decode cX0_seek 10 = .ok (.invokestatic 96, 3) := by decide +kernel
theorem dX0_seek_13 : decode cX0_seek 13 = .ok (.putfield 46, 3) := by decide +kernel
theorem dX0_seek_16 : decode cX0_seek 16 = .ok (.aload_n 0, 1) := by decide +kernel
theorem dX0_seek_17 : decode cX0_seek 17 = .ok (.ldc 49, 2) := by decide +kernel
theorem dX0_seek_19 : decode cX0_seek 19 = .ok (.putfield 50, 3) := by decide +kernel
theorem dX0_seek_22 : decode cX0_seek 22 = .ok (.aload_n 0, 1) := by decide +kernel
theorem dX0_seek_23 : decode cX0_seek 23 = .ok (.iconst 0, 1) := by decide +kernel
theorem dX0_seek_24 : decode cX0_seek 24 = .ok (.putfield 53, 3) := by decide +kernel
theorem dX0_seek_27 : decode cX0_seek 27 = .ok (.aload_n 0, 1) := by decide +kernel
theorem dX0_seek_28 : decode cX0_seek 28 = .ok (.iconst 0, 1) := by decide +kernel
theorem dX0_seek_29 : decode cX0_seek 29 = .ok (.putfield 43, 3) := by decide +kernel
theorem dX0_seek_32 : decode cX0_seek 32 = .ok (.aload_n 0, 1) := by decide +kernel
theorem dX0_seek_33 : decode cX0_seek 33 = .ok (.iconst 0, 1) := by decide +kernel
theorem dX0_seek_34 : decode cX0_seek 34 = .ok (.aload_n 0, 1) := by decide +kernel
theorem dX0_seek_35 : decode cX0_seek 35 = .ok (.getfield 29, 3) := by decide +kernel
theorem dX0_seek_38 : decode cX0_seek 38 = .ok (.iconst 0, 1) := by decide +kernel
theorem dX0_seek_39 : decode cX0_seek 39 = .ok (.iconst 0, 1) := by decide +kernel
theorem dX0_seek_40 : decode cX0_seek 40 = .ok (.invokevirtual 102, 3) := by decide +kernel
theorem dX0_seek_43 : decode cX0_seek 43 = .ok (.iconst 0, 1) := by decide +kernel
theorem dX0_seek_44 : decode cX0_seek 44 = .ok (.istore_n 3, 1) := by decide +kernel
theorem dX0_seek_45 : decode cX0_seek 45 = .ok (.iload_n 3, 1) := by decide +kernel
theorem dX0_seek_46 : decode cX0_seek 46 = .ok (.bipush 20, 2) := by decide +kernel
theorem dX0_seek_48 : decode cX0_seek 48 = .ok (.if_icmp .ge 63, 3) := by decide +kernel
theorem dX0_seek_51 : decode cX0_seek 51 = .ok (.aload_n 0, 1) := by decide +kernel
theorem dX0_seek_52 : decode cX0_seek 52 = .ok (.getfield 43, 3) := by decide +kernel
theorem dX0_seek_55 : decode cX0_seek 55 = .ok (.ifCond .le 56, 3) := by decide +kernel
theorem dX0_seek_58 : decode cX0_seek 58 = .ok (.aload_n 0, 1) := by decide +kernel
theorem dX0_seek_59 : decode cX0_seek 59 = .ok (.iload_n 3, 1) := by decide +kernel
theorem dX0_seek_60 : decode cX0_seek 60 = .ok (.invokevirtual 106, 3) := by decide +kernel
theorem dX0_seek_63 : decode cX0_seek 63 = .ok (.istore 4, 2) := by decide +kernel
theorem dX0_seek_65 : decode cX0_seek 65 = .ok (.iconst 0, 1) := by decide +kernel
theorem dX0_seek_66 : decode cX0_seek 66 = .ok (.istore 5, 2) := by decide +kernel
theorem dX0_seek_68 : decode cX0_seek 68 = .ok (.iload 5, 2) := by decide +kernel
theorem dX0_seek_70 : decode cX0_seek 70 = .ok (.iload 4, 2) := by decide +kernel
theorem dX0_seek_72 : decode cX0_seek 72 = .ok (.if_icmp .ge 33, 3) := by decide +kernel
theorem dX0_seek_75 : decode cX0_seek 75 = .ok (.iload 5, 2) := by decide +kernel
theorem dX0_seek_77 : decode cX0_seek 77 = .ok (.aload_n 0, 1) := by decide +kernel
theorem dX0_seek_78 : decode cX0_seek 78 = .ok (.getfield 36, 3) := by decide +kernel
theorem dX0_seek_81 : decode cX0_seek 81 = .ok (.arraylength, 1) := by decide +kernel
theorem dX0_seek_82 : decode cX0_seek 82 = .ok (.if_icmp .ge 23, 3) := by decide +kernel
theorem dX0_seek_85 : decode cX0_seek 85 = .ok (.aload_n 0, 1) := by decide +kernel
theorem dX0_seek_86 : decode cX0_seek 86 = .ok (.iload_n 3, 1) := by decide +kernel
theorem dX0_seek_87 : decode cX0_seek 87 = .ok (.aload_n 0, 1) := by decide +kernel
theorem dX0_seek_88 : decode cX0_seek 88 = .ok (.getfield 36, 3) := by decide +kernel
theorem dX0_seek_91 : decode cX0_seek 91 = .ok (.iload 5, 2) := by decide +kernel
theorem dX0_seek_93 : decode cX0_seek 93 = .ok (.laload, 1) := by decide +kernel
theorem dX0_seek_94 : decode cX0_seek 94 = .ok (.iload_n 1, 1) := by decide +kernel
theorem dX0_seek_95 : decode cX0_seek 95 = .ok (.iload_n 2, 1) := by decide +kernel
theorem dX0_seek_96 : decode cX0_seek 96 = .ok (.invokevirtual 110, 3) := by decide +kernel
theorem dX0_seek_99 : decode cX0_seek 99 = .ok (.iinc 5 1, 3) := by decide +kernel
theorem dX0_seek_102 : decode cX0_seek 102 = .ok (.goto (-34), 3) := by decide +kernel
theorem dX0_seek_105 : decode cX0_seek 105 = .ok (.iinc 3 1, 3) := by decide +kernel
theorem dX0_seek_108 : decode cX0_seek 108 = .ok (.goto (-63), 3) := by decide +kernel
theorem dX0_seek_111 : decode cX0_seek 111 = .ok (.aload_n 0, 1) := by decide +kernel
theorem dX0_seek_112 : decode cX0_seek 112 = .ok (.getfield 50, 3) := by decide +kernel
theorem dX0_seek_115 : decode cX0_seek 115 = .ok (.ldc 49, 2) := by decide +kernel
theorem dX0_seek_117 : decode cX0_seek 117 = .ok (.if_icmp .eq 7, 3) := by decide +kernel
theorem dX0_seek_120 : decode cX0_seek 120 = .ok (.iconst 1, 1) := by decide +kernel
theorem dX0_seek_121 : decode cX0_seek 121 = .ok (.goto 4, 3) := by decide +kernel
theorem dX0_seek_124 : decode cX0_seek 124 = .ok (.iconst 0, 1) := by decide +kernel
theorem dX0_seek_125 : decode cX0_seek 125 = .ok (.ireturn, 1) := by decide +kernel
theorem dX0_leastBreathFound_0 : decode cX0_leastBreathFound 0 = .ok (.aload_n 0, 1) := by decide +kernel
theorem dX0_leastBreathFound_1 : decode cX0_leastBreathFound 1 = .ok (.getfield 50, 3) := by decide +kernel
theorem dX0_leastBreathFound_4 : decode cX0_leastBreathFound 4 = .ok (.ireturn, 1) := by decide +kernel
theorem dX0_shortest_0 : decode cX0_shortest 0 = .ok (.iload_n 1, 1) := by decide +kernel
theorem dX0_shortest_1 : decode cX0_shortest 1 = .ok (.ifCond .ne 10, 3) := by decide +kernel
theorem dX0_shortest_4 : decode cX0_shortest 4 = .ok (.aload_n 0, 1) := by decide +kernel
theorem dX0_shortest_5 : decode cX0_shortest 5 = .ok (.getfield 50, 3) := by decide +kernel
theorem dX0_shortest_8 : decode cX0_shortest 8 = .ok (.goto 7, 3) := by decide +kernel
theorem dX0_shortest_11 : decode cX0_shortest 11 = .ok (.aload_n 0, 1) := by decide +kernel
theorem dX0_shortest_12 : decode cX0_shortest 12 = .ok (.getfield 53, 3) := by decide +kernel
theorem dX0_shortest_15 : decode cX0_shortest 15 = .ok (.ireturn, 1) := by decide +kernel
theorem dX0_takeLater_0 : decode cX0_takeLater 0 = .ok (.aload_n 0, 1) := by decide +kernel
theorem dX0_takeLater_1 : decode cX0_takeLater 1 = .ok (.getfield 36, 3) := by decide +kernel
theorem dX0_takeLater_4 : decode cX0_takeLater 4 = .ok (.astore_n 2, 1) := by decide +kernel
theorem dX0_takeLater_5 : decode cX0_takeLater 5 = .ok (.aload_n 0, 1) := by decide +kernel
theorem dX0_takeLater_6 : decode cX0_takeLater 6 = .ok (.aload_n 0, 1) := by decide +kernel
theorem dX0_takeLater_7 : decode cX0_takeLater 7 = .ok (.getfield 40, 3) := by decide +kernel
theorem dX0_takeLater_10 : decode cX0_takeLater 10 = .ok (.putfield 36, 3) := by decide +kernel
theorem dX0_takeLater_13 : decode cX0_takeLater 13 = .ok (.aload_n 0, 1) := by decide +kernel
theorem dX0_takeLater_14 : decode cX0_takeLater 14 = .ok (.aload_n 2, 1) := by decide +kernel
theorem dX0_takeLater_15 : decode cX0_takeLater 15 = .ok (.putfield 40, 3) := by decide +kernel
theorem dX0_takeLater_18 : decode cX0_takeLater 18 = .ok (.iconst 0, 1) := by decide +kernel
theorem dX0_takeLater_19 : decode cX0_takeLater 19 = .ok (.istore_n 3, 1) := by decide +kernel
theorem dX0_takeLater_20 : decode cX0_takeLater 20 = .ok (.iconst 0, 1) := by decide +kernel
theorem dX0_takeLater_21 : decode cX0_takeLater 21 = .ok (.istore 4, 2) := by decide +kernel
theorem dX0_takeLater_23 : decode cX0_takeLater 23 = .ok (.iload 4, 2) := by decide +kernel
theorem dX0_takeLater_25 : decode cX0_takeLater 25 = .ok (.aload_n 0, 1) := by decide +kernel
theorem dX0_takeLater_26 : decode cX0_takeLater 26 = .ok (.getfield 43, 3) := by decide +kernel
theorem dX0_takeLater_29 : decode cX0_takeLater 29 = .ok (.if_icmp .ge 69, 3) := by decide +kernel
theorem dX0_takeLater_32 : decode cX0_takeLater 32 = .ok (.iload 4, 2) := by decide +kernel
theorem dX0_takeLater_34 : decode cX0_takeLater 34 = .ok (.aload_n 0, 1) := by decide +kernel
theorem dX0_takeLater_35 : decode cX0_takeLater 35 = .ok (.getfield 36, 3) := by decide +kernel
theorem dX0_takeLater_38 : decode cX0_takeLater 38 = .ok (.arraylength, 1) := by decide +kernel
theorem dX0_takeLater_39 : decode cX0_takeLater 39 = .ok (.if_icmp .ge 59, 3) := by decide +kernel
theorem dX0_takeLater_42 : decode cX0_takeLater 42 = .ok (.aload_n 0, 1) := by decide +kernel
theorem dX0_takeLater_43 : decode cX0_takeLater 43 = .ok (.getfield 36, 3) := by decide +kernel
theorem dX0_takeLater_46 : decode cX0_takeLater 46 = .ok (.iload 4, 2) := by decide +kernel
theorem dX0_takeLater_48 : decode cX0_takeLater 48 = .ok (.laload, 1) := by decide +kernel
theorem dX0_takeLater_49 : decode cX0_takeLater 49 = .ok (.lstore 5, 2) := by decide +kernel
theorem dX0_takeLater_51 : decode cX0_takeLater 51 = .ok (.iload_n 1, 1) := by decide +kernel
theorem dX0_takeLater_52 : decode cX0_takeLater 52 = .ok (.iconst 3, 1) := by decide +kernel
theorem dX0_takeLater_53 : decode cX0_takeLater 53 = .ok (.if_icmp .lt 28, 3) := by decide +kernel
theorem dX0_takeLater_56 : decode cX0_takeLater 56 = .ok (.lload 5, 2) := by decide +kernel
theorem dX0_takeLater_58 : decode cX0_takeLater 58 = .ok (.invokestatic 114, 3) := by decide +kernel
theorem dX0_takeLater_61 : decode cX0_takeLater 61 = .ok (.aload_n 0, 1) := by decide +kernel
theorem dX0_takeLater_62 : decode cX0_takeLater 62 = .ok (.getfield 21, 3) := by decide +kernel
theorem dX0_takeLater_65 : decode cX0_takeLater 65 = .ok (.aload_n 0, 1) := by decide +kernel
theorem dX0_takeLater_66 : decode cX0_takeLater 66 = .ok (.iload_n 1, 1) := by decide +kernel
theorem dX0_takeLater_67 : decode cX0_takeLater 67 = .ok (.lload 5, 2) := by decide +kernel
theorem dX0_takeLater_69 : decode cX0_takeLater 69 = .ok (.invokestatic 118, 3) := by decide +kernel
theorem dX0_takeLater_72 : decode cX0_takeLater 72 = .ok (.invokevirtual 121, 3) := by decide +kernel
theorem dX0_takeLater_75 : decode cX0_takeLater 75 = .ok (.invokevirtual 124, 3) := by decide +kernel
theorem dX0_takeLater_78 : decode cX0_takeLater 78 = .ok (.if_icmp .gt 14, 3) := by decide +kernel
theorem dX0_takeLater_81 : decode cX0_takeLater 81 = .ok (.aload_n 0, 1) := by decide +kernel
theorem dX0_takeLater_82 : decode cX0_takeLater 82 = .ok (.getfield 36, 3) := by decide +kernel
theorem dX0_takeLater_85 : decode cX0_takeLater 85 = .ok (.iload_n 3, 1) := by decide +kernel
theorem dX0_takeLater_86 : decode cX0_takeLater 86 = .ok (.lload 5, 2) := by decide +kernel
theorem dX0_takeLater_88 : decode cX0_takeLater 88 = .ok (.lastore, 1) := by decide +kernel
theorem dX0_takeLater_89 : decode cX0_takeLater 89 = .ok (.iinc 3 1, 3) := by decide +kernel
theorem dX0_takeLater_92 : decode cX0_takeLater 92 = .ok (.iinc 4 1, 3) := by decide +kernel
theorem dX0_takeLater_95 : decode cX0_takeLater 95 = .ok (.goto (-72), 3) := by decide +kernel
theorem dX0_takeLater_98 : decode cX0_takeLater 98 = .ok (.aload_n 0, 1) := by decide +kernel
theorem dX0_takeLater_99 : decode cX0_takeLater 99 = .ok (.iconst 0, 1) := by decide +kernel
theorem dX0_takeLater_100 : decode cX0_takeLater 100 = .ok (.putfield 43, 3) := by decide +kernel
theorem dX0_takeLater_103 : decode cX0_takeLater 103 = .ok (.iload_n 3, 1) := by decide +kernel
theorem dX0_takeLater_104 : decode cX0_takeLater 104 = .ok (.ireturn, 1) := by decide +kernel
theorem dX0_whistleOn_0 : decode cX0_whistleOn 0 = .ok (.lload_n 2, 1) := by decide +kernel
theorem dX0_whistleOn_1 : decode cX0_whistleOn 1 = .ok (.invokestatic 118, 3) := by decide +kernel
theorem dX0_whistleOn_4 : decode cX0_whistleOn 4 = .ok (.istore 6, 2) := by decide +kernel
theorem dX0_whistleOn_6 : decode cX0_whistleOn 6 = .ok (.lload_n 2, 1) := by decide +kernel
theorem dX0_whistleOn_7 : decode cX0_whistleOn 7 = .ok (.invokestatic 127, 3) := by decide +kernel
theorem dX0_whistleOn_10 : decode cX0_whistleOn 10 = .ok (.istore 7, 2) := by decide +kernel
theorem dX0_whistleOn_12 : decode cX0_whistleOn 12 = .ok (.lload_n 2, 1) := by decide +kernel
theorem dX0_whistleOn_13 : decode cX0_whistleOn 13 = .ok (.invokestatic 114, 3) := by decide +kernel
theorem dX0_whistleOn_16 : decode cX0_whistleOn 16 = .ok (.istore 8, 2) := by decide +kernel
theorem dX0_whistleOn_18 : decode cX0_whistleOn 18 = .ok (.aload_n 0, 1) := by decide +kernel
theorem dX0_whistleOn_19 : decode cX0_whistleOn 19 = .ok (.iload_n 1, 1) := by decide +kernel
theorem dX0_whistleOn_20 : decode cX0_whistleOn 20 = .ok (.iconst 1, 1) := by decide +kernel
theorem dX0_whistleOn_21 : decode cX0_whistleOn 21 = .ok (.iadd, 1) := by decide +kernel
theorem dX0_whistleOn_22 : decode cX0_whistleOn 22 = .ok (.aload_n 0, 1) := by decide +kernel
theorem dX0_whistleOn_23 : decode cX0_whistleOn 23 = .ok (.iload_n 1, 1) := by decide +kernel
theorem dX0_whistleOn_24 : decode cX0_whistleOn 24 = .ok (.iconst 0, 1) := by decide +kernel
theorem dX0_whistleOn_25 : decode cX0_whistleOn 25 = .ok (.iload 6, 2) := by decide +kernel
theorem dX0_whistleOn_27 : decode cX0_whistleOn 27 = .ok (.invokevirtual 130, 3) := by decide +kernel
theorem dX0_whistleOn_30 : decode cX0_whistleOn 30 = .ok (.iload 7, 2) := by decide +kernel
theorem dX0_whistleOn_32 : decode cX0_whistleOn 32 = .ok (.iload 8, 2) := by decide +kernel
theorem dX0_whistleOn_34 : decode cX0_whistleOn 34 = .ok (.iload 4, 2) := by decide +kernel
theorem dX0_whistleOn_36 : decode cX0_whistleOn 36 = .ok (.iadd, 1) := by decide +kernel
theorem dX0_whistleOn_37 : decode cX0_whistleOn 37 = .ok (.invokevirtual 102, 3) := by decide +kernel
theorem dX0_whistleOn_40 : decode cX0_whistleOn 40 = .ok (.aload_n 0, 1) := by decide +kernel
theorem dX0_whistleOn_41 : decode cX0_whistleOn 41 = .ok (.iload_n 1, 1) := by decide +kernel
theorem dX0_whistleOn_42 : decode cX0_whistleOn 42 = .ok (.iconst 1, 1) := by decide +kernel
theorem dX0_whistleOn_43 : decode cX0_whistleOn 43 = .ok (.iadd, 1) := by decide +kernel
theorem dX0_whistleOn_44 : decode cX0_whistleOn 44 = .ok (.aload_n 0, 1) := by decide +kernel
theorem dX0_whistleOn_45 : decode cX0_whistleOn 45 = .ok (.iload_n 1, 1) := by decide +kernel
theorem dX0_whistleOn_46 : decode cX0_whistleOn 46 = .ok (.iconst 1, 1) := by decide +kernel
theorem dX0_whistleOn_47 : decode cX0_whistleOn 47 = .ok (.iload 6, 2) := by decide +kernel
theorem dX0_whistleOn_49 : decode cX0_whistleOn 49 = .ok (.invokevirtual 130, 3) := by decide +kernel
theorem dX0_whistleOn_52 : decode cX0_whistleOn 52 = .ok (.iload 7, 2) := by decide +kernel
theorem dX0_whistleOn_54 : decode cX0_whistleOn 54 = .ok (.iconst 1, 1) := by decide +kernel
theorem dX0_whistleOn_55 : decode cX0_whistleOn 55 = .ok (.iload_n 1, 1) := by decide +kernel
theorem dX0_whistleOn_56 : decode cX0_whistleOn 56 = .ok (.ishl, 1) := by decide +kernel
theorem dX0_whistleOn_57 : decode cX0_whistleOn 57 = .ok (.ior, 1) := by decide +kernel
theorem dX0_whistleOn_58 : decode cX0_whistleOn 58 = .ok (.iload 8, 2) := by decide +kernel
theorem dX0_whistleOn_60 : decode cX0_whistleOn 60 = .ok (.iload 5, 2) := by decide +kernel
theorem dX0_whistleOn_62 : decode cX0_whistleOn 62 = .ok (.iadd, 1) := by decide +kernel
theorem dX0_whistleOn_63 : decode cX0_whistleOn 63 = .ok (.invokevirtual 102, 3) := by decide +kernel
theorem dX0_whistleOn_66 : decode cX0_whistleOn 66 = .ok (.return_, 1) := by decide +kernel
theorem dX0_packOf_0 : decode cX0_packOf 0 = .ok (.lload_n 0, 1) := by decide +kernel
theorem dX0_packOf_1 : decode cX0_packOf 1 = .ok (.l2i, 1) := by decide +kernel
theorem dX0_packOf_2 : decode cX0_packOf 2 = .ok (.sipush 32767, 3) := by decide +kernel
theorem dX0_packOf_5 : decode cX0_packOf 5 = .ok (.iand, 1) := by decide +kernel
theorem dX0_packOf_6 : decode cX0_packOf 6 = .ok (.ireturn, 1) := by decide +kernel
theorem dX0_tuneOf_0 : decode cX0_tuneOf 0 = .ok (.lload_n 0, 1) := by decide +kernel
theorem dX0_tuneOf_1 : decode cX0_tuneOf 1 = .ok (.bipush 15, 2) := by decide +kernel
theorem dX0_tuneOf_3 : decode cX0_tuneOf 3 = .ok (.lshr, 1) := by decide +kernel
theorem dX0_tuneOf_4 : decode cX0_tuneOf 4 = .ok (.l2i, 1) := by decide +kernel
theorem dX0_tuneOf_5 : decode cX0_tuneOf 5 = .ok (.ldc 134, 2) := by decide +kernel
theorem dX0_tuneOf_7 : decode cX0_tuneOf 7 = .ok (.iand, 1) := by decide +kernel
theorem dX0_tuneOf_8 : decode cX0_tuneOf 8 = .ok (.ireturn, 1) := by decide +kernel
theorem dX0_breathOf_0 : decode cX0_breathOf 0 = .ok (.lload_n 0, 1) := by decide +kernel
theorem dX0_breathOf_1 : decode cX0_breathOf 1 = .ok (.bipush 35, 2) := by decide +kernel
theorem dX0_breathOf_3 : decode cX0_breathOf 3 = .ok (.lshr, 1) := by decide +kernel
theorem dX0_breathOf_4 : decode cX0_breathOf 4 = .ok (.l2i, 1) := by decide +kernel
theorem dX0_breathOf_5 : decode cX0_breathOf 5 = .ok (.ireturn, 1) := by decide +kernel
theorem dX0_packBehind_0 : decode cX0_packBehind 0 = .ok (.iconst 0, 1) := by decide +kernel
theorem dX0_packBehind_1 : decode cX0_packBehind 1 = .ok (.istore 4, 2) := by decide +kernel
theorem dX0_packBehind_3 : decode cX0_packBehind 3 = .ok (.iconst 0, 1) := by decide +kernel
theorem dX0_packBehind_4 : decode cX0_packBehind 4 = .ok (.istore 5, 2) := by decide +kernel
theorem dX0_packBehind_6 : decode cX0_packBehind 6 = .ok (.iload 5, 2) := by decide +kernel
theorem dX0_packBehind_8 : decode cX0_packBehind 8 = .ok (.aload_n 0, 1) := by decide +kernel
theorem dX0_packBehind_9 : decode cX0_packBehind 9 = .ok (.getfield 25, 3) := by decide +kernel
theorem dX0_packBehind_12 : decode cX0_packBehind 12 = .ok (.if_icmp .ge 42, 3) := by decide +kernel
theorem dX0_packBehind_15 : decode cX0_packBehind 15 = .ok (.iconst 5, 1) := by decide +kernel
theorem dX0_packBehind_16 : decode cX0_packBehind 16 = .ok (.iload 5, 2) := by decide +kernel
theorem dX0_packBehind_18 : decode cX0_packBehind 18 = .ok (.imul, 1) := by decide +kernel
theorem dX0_packBehind_19 : decode cX0_packBehind 19 = .ok (.istore 6, 2) := by decide +kernel
theorem dX0_packBehind_21 : decode cX0_packBehind 21 = .ok (.iload 4, 2) := by decide +kernel
theorem dX0_packBehind_23 : decode cX0_packBehind 23 = .ok (.aload_n 0, 1) := by decide +kernel
theorem dX0_packBehind_24 : decode cX0_packBehind 24 = .ok (.getfield 12, 3) := by decide +kernel
theorem dX0_packBehind_27 : decode cX0_packBehind 27 = .ok (.iload 5, 2) := by decide +kernel
theorem dX0_packBehind_29 : decode cX0_packBehind 29 = .ok (.aaload, 1) := by decide +kernel
theorem dX0_packBehind_30 : decode cX0_packBehind 30 = .ok (.iload_n 1, 1) := by decide +kernel
theorem dX0_packBehind_31 : decode cX0_packBehind 31 = .ok (.iload_n 2, 1) := by decide +kernel
theorem dX0_packBehind_32 : decode cX0_packBehind 32 = .ok (.iload_n 3, 1) := by decide +kernel
theorem dX0_packBehind_33 : decode cX0_packBehind 33 = .ok (.iload 6, 2) := by decide +kernel
theorem dX0_packBehind_35 : decode cX0_packBehind 35 = .ok (.ishr, 1) := by decide +kernel
theorem dX0_packBehind_36 : decode cX0_packBehind 36 = .ok (.bipush 31, 2) := by decide +kernel
theorem dX0_packBehind_38 : decode cX0_packBehind 38 = .ok (.iand, 1) := by decide +kernel
theorem dX0_packBehind_39 : decode cX0_packBehind 39 = .ok (.invokevirtual 135, 3) := by decide +kernel
theorem dX0_packBehind_42 : decode cX0_packBehind 42 = .ok (.iload 6, 2) := by decide +kernel
theorem dX0_packBehind_44 : decode cX0_packBehind 44 = .ok (.ishl, 1) := by decide +kernel
theorem dX0_packBehind_45 : decode cX0_packBehind 45 = .ok (.ior, 1) := by decide +kernel
theorem dX0_packBehind_46 : decode cX0_packBehind 46 = .ok (.istore 4, 2) := by decide +kernel
theorem dX0_packBehind_48 : decode cX0_packBehind 48 = .ok (.iinc 5 1, 3) := by decide +kernel
theorem dX0_packBehind_51 : decode cX0_packBehind 51 = .ok (.goto (-45), 3) := by decide +kernel
theorem dX0_packBehind_54 : decode cX0_packBehind 54 = .ok (.iload 4, 2) := by decide +kernel
theorem dX0_packBehind_56 : decode cX0_packBehind 56 = .ok (.ireturn, 1) := by decide +kernel
theorem dX0_offer_0 : decode cX0_offer 0 = .ok (.iconst (-1), 1) := by decide +kernel
theorem dX0_offer_1 : decode cX0_offer 1 = .ok (.istore 5, 2) := by decide +kernel
theorem dX0_offer_3 : decode cX0_offer 3 = .ok (.iconst 0, 1) := by decide +kernel
theorem dX0_offer_4 : decode cX0_offer 4 = .ok (.istore 6, 2) := by decide +kernel
theorem dX0_offer_6 : decode cX0_offer 6 = .ok (.iload 6, 2) := by decide +kernel
theorem dX0_offer_8 : decode cX0_offer 8 = .ok (.aload_n 0, 1) := by decide +kernel
theorem dX0_offer_9 : decode cX0_offer 9 = .ok (.getfield 25, 3) := by decide +kernel
theorem dX0_offer_12 : decode cX0_offer 12 = .ok (.if_icmp .ge 34, 3) := by decide +kernel
theorem dX0_offer_15 : decode cX0_offer 15 = .ok (.iload 5, 2) := by decide +kernel
theorem dX0_offer_17 : decode cX0_offer 17 = .ok (.aload_n 0, 1) := by decide +kernel
theorem dX0_offer_18 : decode cX0_offer 18 = .ok (.getfield 12, 3) := by decide +kernel
theorem dX0_offer_21 : decode cX0_offer 21 = .ok (.iload 6, 2) := by decide +kernel
theorem dX0_offer_23 : decode cX0_offer 23 = .ok (.aaload, 1) := by decide +kernel
theorem dX0_offer_24 : decode cX0_offer 24 = .ok (.iload_n 1, 1) := by decide +kernel
theorem dX0_offer_25 : decode cX0_offer 25 = .ok (.iload_n 2, 1) := by decide +kernel
theorem dX0_offer_26 : decode cX0_offer 26 = .ok (.iconst 5, 1) := by decide +kernel
theorem dX0_offer_27 : decode cX0_offer 27 = .ok (.iload 6, 2) := by decide +kernel
theorem dX0_offer_29 : decode cX0_offer 29 = .ok (.imul, 1) := by decide +kernel
theorem dX0_offer_30 : decode cX0_offer 30 = .ok (.ishr, 1) := by decide +kernel
theorem dX0_offer_31 : decode cX0_offer 31 = .ok (.bipush 31, 2) := by decide +kernel
theorem dX0_offer_33 : decode cX0_offer 33 = .ok (.iand, 1) := by decide +kernel
theorem dX0_offer_34 : decode cX0_offer 34 = .ok (.invokevirtual 138, 3) := by decide +kernel
theorem dX0_offer_37 : decode cX0_offer 37 = .ok (.iand, 1) := by decide +kernel
theorem dX0_offer_38 : decode cX0_offer 38 = .ok (.istore 5, 2) := by decide +kernel
theorem dX0_offer_40 : decode cX0_offer 40 = .ok (.iinc 6 1, 3) := by decide +kernel
theorem dX0_offer_43 : decode cX0_offer 43 = .ok (.goto (-37), 3) := by decide +kernel
theorem dX0_offer_46 : decode cX0_offer 46 = .ok (.iload 5, 2) := by decide +kernel
theorem dX0_offer_48 : decode cX0_offer 48 = .ok (.ifCond .ne 4, 3) := by decide +kernel
theorem dX0_offer_51 : decode cX0_offer 51 = .ok (.return_, 1) := by decide +kernel
theorem dX0_offer_52 : decode cX0_offer 52 = .ok (.iload 5, 2) := by decide +kernel
theorem dX0_offer_54 : decode cX0_offer 54 = .ok (.invokestatic 141, 3) := by decide +kernel
theorem dX0_offer_57 : decode cX0_offer 57 = .ok (.iload_n 1, 1) := by decide +kernel
theorem dX0_offer_58 : decode cX0_offer 58 = .ok (.isub, 1) := by decide +kernel
theorem dX0_offer_59 : decode cX0_offer 59 = .ok (.istore 6, 2) := by decide +kernel
theorem dX0_offer_61 : decode cX0_offer 61 = .ok (.iload 4, 2) := by decide +kernel
theorem dX0_offer_63 : decode cX0_offer 63 = .ok (.iload 6, 2) := by decide +kernel
theorem dX0_offer_65 : decode cX0_offer 65 = .ok (.aload_n 0, 1) := by decide +kernel
theorem dX0_offer_66 : decode cX0_offer 66 = .ok (.getfield 46, 3) := by decide +kernel
theorem dX0_offer_69 : decode cX0_offer 69 = .ok (.imul, 1) := by decide +kernel
theorem dX0_offer_70 : decode cX0_offer 70 = .ok (.iadd, 1) := by decide +kernel
theorem dX0_offer_71 : decode cX0_offer 71 = .ok (.aload_n 0, 1) := by decide +kernel
theorem dX0_offer_72 : decode cX0_offer 72 = .ok (.getfield 50, 3) := by decide +kernel
theorem dX0_offer_75 : decode cX0_offer 75 = .ok (.if_icmp .lt 4, 3) := by decide +kernel
theorem dX0_offer_78 : decode cX0_offer 78 = .ok (.return_, 1) := by decide +kernel
theorem dX0_offer_79 : decode cX0_offer 79 = .ok (.iload 6, 2) := by decide +kernel
theorem dX0_offer_81 : decode cX0_offer 81 = .ok (.ifCond .ne 17, 3) := by decide +kernel
theorem dX0_offer_84 : decode cX0_offer 84 = .ok (.aload_n 0, 1) := by decide +kernel
theorem dX0_offer_85 : decode cX0_offer 85 = .ok (.iload 4, 2) := by decide +kernel
theorem dX0_offer_87 : decode cX0_offer 87 = .ok (.putfield 50, 3) := by decide +kernel
theorem dX0_offer_90 : decode cX0_offer 90 = .ok (.aload_n 0, 1) := by decide +kernel
theorem dX0_offer_91 : decode cX0_offer 91 = .ok (.iload_n 3, 1) := by decide +kernel
theorem dX0_offer_92 : decode cX0_offer 92 = .ok (.putfield 53, 3) := by decide +kernel
theorem dX0_offer_95 : decode cX0_offer 95 = .ok (.goto 34, 3) := by decide +kernel
theorem dX0_offer_98 : decode cX0_offer 98 = .ok (.iload_n 1, 1) := by decide +kernel
theorem dX0_offer_99 : decode cX0_offer 99 = .ok (.iconst 3, 1) := by decide +kernel
theorem dX0_offer_100 : decode cX0_offer 100 = .ok (.if_icmp .lt 21, 3) := by decide +kernel
theorem dX0_offer_103 : decode cX0_offer 103 = .ok (.aload_n 0, 1) := by decide +kernel
theorem dX0_offer_104 : decode cX0_offer 104 = .ok (.getfield 21, 3) := by decide +kernel
theorem dX0_offer_107 : decode cX0_offer 107 = .ok (.aload_n 0, 1) := by decide +kernel
theorem dX0_offer_108 : decode cX0_offer 108 = .ok (.iload_n 1, 1) := by decide +kernel
theorem dX0_offer_109 : decode cX0_offer 109 = .ok (.iload_n 2, 1) := by decide +kernel
theorem dX0_offer_110 : decode cX0_offer 110 = .ok (.invokevirtual 121, 3) := by decide +kernel
theorem dX0_offer_113 : decode cX0_offer 113 = .ok (.iload 4, 2) := by decide +kernel
theorem dX0_offer_115 : decode cX0_offer 115 = .ok (.invokevirtual 144, 3) := by decide +kernel
theorem dX0_offer_118 : decode cX0_offer 118 = .ok (.ifCond .eq 11, 3) := by decide +kernel
theorem dX0_offer_121 : decode cX0_offer 121 = .ok (.aload_n 0, 1) := by decide +kernel
theorem dX0_offer_122 : decode cX0_offer 122 = .ok (.iload_n 2, 1) := by decide +kernel
theorem dX0_offer_123 : decode cX0_offer 123 = .ok (.iload_n 3, 1) := by decide +kernel
theorem dX0_offer_124 : decode cX0_offer 124 = .ok (.iload 4, 2) := by decide +kernel
theorem dX0_offer_126 : decode cX0_offer 126 = .ok (.invokevirtual 147, 3) := by decide +kernel
theorem dX0_offer_129 : decode cX0_offer 129 = .ok (.return_, 1) := by decide +kernel
theorem dX0_keyOf_0 : decode cX0_keyOf 0 = .ok (.iconst 2, 1) := by decide +kernel
theorem dX0_keyOf_1 : decode cX0_keyOf 1 = .ok (.iload_n 2, 1) := by decide +kernel
theorem dX0_keyOf_2 : decode cX0_keyOf 2 = .ok (.imul, 1) := by decide +kernel
theorem dX0_keyOf_3 : decode cX0_keyOf 3 = .ok (.aload_n 0, 1) := by decide +kernel
theorem dX0_keyOf_4 : decode cX0_keyOf 4 = .ok (.getfield 32, 3) := by decide +kernel
theorem dX0_keyOf_7 : decode cX0_keyOf 7 = .ok (.ifCond .eq 9, 3) := by decide +kernel
theorem dX0_keyOf_10 : decode cX0_keyOf 10 = .ok (.iload_n 1, 1) := by decide +kernel
theorem dX0_keyOf_11 : decode cX0_keyOf 11 = .ok (.iconst 1, 1) := by decide +kernel
theorem dX0_keyOf_12 : decode cX0_keyOf 12 = .ok (.iand, 1) := by decide +kernel
theorem dX0_keyOf_13 : decode cX0_keyOf 13 = .ok (.goto 4, 3) := by decide +kernel
theorem dX0_keyOf_16 : decode cX0_keyOf 16 = .ok (.iconst 0, 1) := by decide +kernel
theorem dX0_keyOf_17 : decode cX0_keyOf 17 = .ok (.iadd, 1) := by decide +kernel
theorem dX0_keyOf_18 : decode cX0_keyOf 18 = .ok (.ireturn, 1) := by decide +kernel
theorem dX0_keep_0 : decode cX0_keep 0 = .ok (.aload_n 0, 1) := by decide +kernel
theorem dX0_keep_1 : decode cX0_keep 1 = .ok (.getfield 43, 3) := by decide +kernel
theorem dX0_keep_4 : decode cX0_keep 4 = .ok (.ldc 151, 2) := by decide +kernel
theorem dX0_keep_6 : decode cX0_keep 6 = .ok (.if_icmp .lt 4, 3) := by decide +kernel
theorem dX0_keep_9 : decode cX0_keep 9 = .ok (.return_, 1) := by decide +kernel
theorem dX0_keep_10 : decode cX0_keep 10 = .ok (.aload_n 0, 1) := by decide +kernel
theorem dX0_keep_11 : decode cX0_keep 11 = .ok (.getfield 43, 3) := by decide +kernel
theorem dX0_keep_14 : decode cX0_keep 14 = .ok (.aload_n 0, 1) := by decide +kernel
theorem dX0_keep_15 : decode cX0_keep 15 = .ok (.getfield 40, 3) := by decide +kernel
theorem dX0_keep_18 : decode cX0_keep 18 = .ok (.arraylength, 1) := by decide +kernel
theorem dX0_keep_19 : decode cX0_keep 19 = .ok (.if_icmp .lt 21, 3) := by decide +kernel
theorem dX0_keep_22 : decode cX0_keep 22 = .ok (.aload_n 0, 1) := by decide +kernel
theorem dX0_keep_23 : decode cX0_keep 23 = .ok (.aload_n 0, 1) := by decide +kernel
theorem dX0_keep_24 : decode cX0_keep 24 = .ok (.getfield 40, 3) := by decide +kernel
theorem dX0_keep_27 : decode cX0_keep 27 = .ok (.iconst 2, 1) := by decide +kernel
theorem dX0_keep_28 : decode cX0_keep 28 = .ok (.aload_n 0, 1) := by decide +kernel
theorem dX0_keep_29 : decode cX0_keep 29 = .ok (.getfield 40, 3) := by decide +kernel
theorem dX0_keep_32 : decode cX0_keep 32 = .ok (.arraylength, 1) := by decide +kernel
theorem dX0_keep_33 : decode cX0_keep 33 = .ok (.imul, 1) := by decide +kernel
theorem dX0_keep_34 : decode cX0_keep 34 = .ok (.invokestatic 152, 3) := by decide +kernel
theorem dX0_keep_37 : decode cX0_keep 37 = .ok (.putfield 40, 3) := by decide +kernel
theorem dX0_keep_40 : decode cX0_keep 40 = .ok (.aload_n 0, 1) := by decide +kernel
theorem dX0_keep_41 : decode cX0_keep 41 = .ok (.getfield 40, 3) := by decide +kernel
theorem dX0_keep_44 : decode cX0_keep 44 = .ok (.aload_n 0, 1) := by decide +kernel
theorem dX0_keep_45 : decode cX0_keep 45 = .ok (.getfield 43, 3) := by decide +kernel
theorem dX0_keep_48 : decode cX0_keep 48 = .ok (.iload_n 3, 1) := by decide +kernel
theorem dX0_keep_49 : decode cX0_keep 49 = .ok (.i2l, 1) := by decide +kernel
theorem dX0_keep_50 : decode cX0_keep 50 = .ok (.bipush 20, 2) := by decide +kernel
theorem dX0_keep_52 : decode cX0_keep 52 = .ok (.lshl, 1) := by decide +kernel
theorem dX0_keep_53 : decode cX0_keep 53 = .ok (.iload_n 2, 1) := by decide +kernel
theorem dX0_keep_54 : decode cX0_keep 54 = .ok (.i2l, 1) := by decide +kernel
theorem dX0_keep_55 : decode cX0_keep 55 = .ok (.lor, 1) := by decide +kernel
theorem dX0_keep_56 : decode cX0_keep 56 = .ok (.bipush 15, 2) := by decide +kernel
theorem dX0_keep_58 : decode cX0_keep 58 = .ok (.lshl, 1) := by decide +kernel
theorem dX0_keep_59 : decode cX0_keep 59 = .ok (.iload_n 1, 1) := by decide +kernel
theorem dX0_keep_60 : decode cX0_keep 60 = .ok (.i2l, 1) := by decide +kernel
theorem dX0_keep_61 : decode cX0_keep 61 = .ok (.lor, 1) := by decide +kernel
theorem dX0_keep_62 : decode cX0_keep 62 = .ok (.lastore, 1) := by decide +kernel
theorem dX0_keep_63 : decode cX0_keep 63 = .ok (.aload_n 0, 1) := by decide +kernel
theorem dX0_keep_64 : decode cX0_keep 64 = .ok (.dup, 1) := by decide +kernel
theorem dX0_keep_65 : decode cX0_keep 65 = .ok (.getfield 43, 3) := by decide +kernel
theorem dX0_keep_68 : decode cX0_keep 68 = .ok (.iconst 1, 1) := by decide +kernel
theorem dX0_keep_69 : decode cX0_keep 69 = .ok (.iadd, 1) := by decide +kernel
theorem dX0_keep_70 : decode cX0_keep 70 = .ok (.putfield 43, 3) := by decide +kernel
theorem dX0_keep_73 : decode cX0_keep 73 = .ok (.return_, 1) := by decide +kernel
theorem dX1_init_0 : decode cX1_init 0 = .ok (.aload_n 0, 1) := by decide +kernel
theorem dX1_init_1 : decode cX1_init 1 = .ok (.iload_n 1, 1) := by decide +kernel
theorem dX1_init_2 : decode cX1_init 2 = .ok (.iload_n 2, 1) := by decide +kernel
theorem dX1_init_3 : decode cX1_init 3 = .ok (.iload_n 3, 1) := by decide +kernel
theorem dX1_init_4 : decode cX1_init 4 = .ok (.invokespecial 1, 3) := by decide +kernel
theorem dX1_init_7 : decode cX1_init 7 = .ok (.return_, 1) := by decide +kernel
theorem dX1_next_0 : decode cX1_next 0 = .ok (.iload_n 3, 1) := by decide +kernel
theorem dX1_next_1 : decode cX1_next 1 = .ok (.iconst 1, 1) := by decide +kernel
theorem dX1_next_2 : decode cX1_next 2 = .ok (.iand, 1) := by decide +kernel
theorem dX1_next_3 : decode cX1_next 3 = .ok (.ifCond .eq 7, 3) := by decide +kernel
theorem dX1_next_6 : decode cX1_next 6 = .ok (.iload_n 1, 1) := by decide +kernel
theorem dX1_next_7 : decode cX1_next 7 = .ok (.goto 12, 3) := by decide +kernel
theorem dX1_next_10 : decode cX1_next 10 = .ok (.aload_n 0, 1) := by decide +kernel
theorem dX1_next_11 : decode cX1_next 11 = .ok (.iload_n 1, 1) := by decide +kernel
theorem dX1_next_12 : decode cX1_next 12 = .ok (.iload_n 2, 1) := by decide +kernel
theorem dX1_next_13 : decode cX1_next 13 = .ok (.iload_n 3, 1) := by decide +kernel
theorem dX1_next_14 : decode cX1_next 14 = .ok (.iload 4, 2) := by decide +kernel
theorem dX1_next_16 : decode cX1_next 16 = .ok (.invokevirtual 7, 3) := by decide +kernel
theorem dX1_next_19 : decode cX1_next 19 = .ok (.ireturn, 1) := by decide +kernel
theorem dX1_heedsOdd_0 : decode cX1_heedsOdd 0 = .ok (.iconst 1, 1) := by decide +kernel
theorem dX1_heedsOdd_1 : decode cX1_heedsOdd 1 = .ok (.ireturn, 1) := by decide +kernel
theorem dX2_init_0 : decode cX2_init 0 = .ok (.aload_n 0, 1) := by decide +kernel
theorem dX2_init_1 : decode cX2_init 1 = .ok (.invokespecial 3, 3) := by decide +kernel
theorem dX2_init_4 : decode cX2_init 4 = .ok (.aload_n 0, 1) := by decide +kernel
theorem dX2_init_5 : decode cX2_init 5 = .ok (.iconst 5, 1) := by decide +kernel
theorem dX2_init_6 : decode cX2_init 6 = .ok (.putfield 9, 3) := by decide +kernel
theorem dX2_init_9 : decode cX2_init 9 = .ok (.aload_n 0, 1) := by decide +kernel
theorem dX2_init_10 : decode cX2_init 10 = .ok (.iconst 0, 1) := by decide +kernel
theorem dX2_init_11 : decode cX2_init 11 = .ok (.putfield 15, 3) := by decide +kernel
theorem dX2_init_14 : decode cX2_init 14 = .ok (.aload_n 0, 1) := by decide +kernel
theorem dX2_init_15 : decode cX2_init 15 = .ok (.iconst 0, 1) := by decide +kernel
theorem dX2_init_16 : decode cX2_init 16 = .ok (.putfield 18, 3) := by decide +kernel
theorem dX2_init_19 : decode cX2_init 19 = .ok (.aload_n 0, 1) := by decide +kernel
theorem dX2_init_20 : decode cX2_init 20 = .ok (.iconst 0, 1) := by decide +kernel
theorem dX2_init_21 : decode cX2_init 21 = .ok (.putfield 21, 3) := by decide +kernel
theorem dX2_init_24 : decode cX2_init 24 = .ok (.aload_n 0, 1) := by decide +kernel
theorem dX2_init_25 : decode cX2_init 25 = .ok (.iconst 1, 1) := by decide +kernel
theorem dX2_init_26 : decode cX2_init 26 = .ok (.putfield 24, 3) := by decide +kernel
theorem dX2_init_29 : decode cX2_init 29 = .ok (.aload_n 0, 1) := by decide +kernel
theorem dX2_init_30 : decode cX2_init 30 = .ok (.iconst 1, 1) := by decide +kernel
theorem dX2_init_31 : decode cX2_init 31 = .ok (.putfield 27, 3) := by decide +kernel
theorem dX2_init_34 : decode cX2_init 34 = .ok (.aload_n 0, 1) := by decide +kernel
theorem dX2_init_35 : decode cX2_init 35 = .ok (.iconst 0, 1) := by decide +kernel
theorem dX2_init_36 : decode cX2_init 36 = .ok (.putfield 30, 3) := by decide +kernel
theorem dX2_init_39 : decode cX2_init 39 = .ok (.aload_n 0, 1) := by decide +kernel
theorem dX2_init_40 : decode cX2_init 40 = .ok (.iconst 3, 1) := by decide +kernel
theorem dX2_init_41 : decode cX2_init 41 = .ok (.anewarray 33, 3) := by decide +kernel
theorem dX2_init_44 : decode cX2_init 44 = .ok (.putfield 35, 3) := by decide +kernel
theorem dX2_init_47 : decode cX2_init 47 = .ok (.return_, 1) := by decide +kernel
theorem dX2_copy_0 : decode cX2_copy 0 = .ok (.new 10, 3) := by decide +kernel
theorem dX2_copy_3 : decode cX2_copy 3 = .ok (.dup, 1) := by decide +kernel
theorem dX2_copy_4 : decode cX2_copy 4 = .ok (.invokespecial 39, 3) := by decide +kernel
theorem dX2_copy_7 : decode cX2_copy 7 = .ok (.astore_n 1, 1) := by decide +kernel
theorem dX2_copy_8 : decode cX2_copy 8 = .ok (.aload_n 1, 1) := by decide +kernel
theorem dX2_copy_9 : decode cX2_copy 9 = .ok (.aload_n 0, 1) := by decide +kernel
theorem dX2_copy_10 : decode cX2_copy 10 = .ok (.getfield 9, 3) := by decide +kernel
theorem dX2_copy_13 : decode cX2_copy 13 = .ok (.putfield 9, 3) := by decide +kernel
theorem dX2_copy_16 : decode cX2_copy 16 = .ok (.aload_n 1, 1) := by decide +kernel
theorem dX2_copy_17 : decode cX2_copy 17 = .ok (.aload_n 0, 1) := by decide +kernel
theorem dX2_copy_18 : decode cX2_copy 18 = .ok (.getfield 15, 3) := by decide +kernel
theorem dX2_copy_21 : decode cX2_copy 21 = .ok (.putfield 15, 3) := by decide +kernel
theorem dX2_copy_24 : decode cX2_copy 24 = .ok (.aload_n 1, 1) := by decide +kernel
theorem dX2_copy_25 : decode cX2_copy 25 = .ok (.aload_n 0, 1) := by decide +kernel
theorem dX2_copy_26 : decode cX2_copy 26 = .ok (.getfield 18, 3) := by decide +kernel
theorem dX2_copy_29 : decode cX2_copy 29 = .ok (.putfield 18, 3) := by decide +kernel
theorem dX2_copy_32 : decode cX2_copy 32 = .ok (.aload_n 1, 1) := by decide +kernel
theorem dX2_copy_33 : decode cX2_copy 33 = .ok (.aload_n 0, 1) := by decide +kernel
theorem dX2_copy_34 : decode cX2_copy 34 = .ok (.getfield 21, 3) := by decide +kernel
theorem dX2_copy_37 : decode cX2_copy 37 = .ok (.putfield 21, 3) := by decide +kernel
theorem dX2_copy_40 : decode cX2_copy 40 = .ok (.aload_n 1, 1) := by decide +kernel
theorem dX2_copy_41 : decode cX2_copy 41 = .ok (.aload_n 0, 1) := by decide +kernel
theorem dX2_copy_42 : decode cX2_copy 42 = .ok (.getfield 24, 3) := by decide +kernel
theorem dX2_copy_45 : decode cX2_copy 45 = .ok (.putfield 24, 3) := by decide +kernel
theorem dX2_copy_48 : decode cX2_copy 48 = .ok (.aload_n 1, 1) := by decide +kernel
theorem dX2_copy_49 : decode cX2_copy 49 = .ok (.aload_n 0, 1) := by decide +kernel
theorem dX2_copy_50 : decode cX2_copy 50 = .ok (.getfield 27, 3) := by decide +kernel
theorem dX2_copy_53 : decode cX2_copy 53 = .ok (.putfield 27, 3) := by decide +kernel
theorem dX2_copy_56 : decode cX2_copy 56 = .ok (.aload_n 1, 1) := by decide +kernel
theorem dX2_copy_57 : decode cX2_copy 57 = .ok (.aload_n 0, 1) := by decide +kernel
theorem dX2_copy_58 : decode cX2_copy 58 = .ok (.getfield 30, 3) := by decide +kernel
theorem dX2_copy_61 : decode cX2_copy 61 = .ok (.putfield 30, 3) := by decide +kernel
theorem dX2_copy_64 : decode cX2_copy 64 = .ok (.iconst 0, 1) := by decide +kernel
theorem dX2_copy_65 : decode cX2_copy 65 = .ok (.istore_n 2, 1) := by decide +kernel
theorem dX2_copy_66 : decode cX2_copy 66 = .ok (.iload_n 2, 1) := by decide +kernel
theorem dX2_copy_67 : decode cX2_copy 67 = .ok (.iconst 3, 1) := by decide +kernel
theorem dX2_copy_68 : decode cX2_copy 68 = .ok (.if_icmp .ge 21, 3) := by decide +kernel
theorem dX2_copy_71 : decode cX2_copy 71 = .ok (.aload_n 1, 1) := by decide +kernel
theorem dX2_copy_72 : decode cX2_copy 72 = .ok (.getfield 35, 3) := by decide +kernel
theorem dX2_copy_75 : decode cX2_copy 75 = .ok (.iload_n 2, 1) := by decide +kernel
theorem dX2_copy_76 : decode cX2_copy 76 = .ok (.aload_n 0, 1) := by decide +kernel
theorem dX2_copy_77 : decode cX2_copy 77 = .ok (.getfield 35, 3) := by decide +kernel
theorem dX2_copy_80 : decode cX2_copy 80 = .ok (.iload_n 2, 1) := by decide +kernel
theorem dX2_copy_81 : decode cX2_copy 81 = .ok (.aaload, 1) := by decide +kernel
theorem dX2_copy_82 : decode cX2_copy 82 = .ok (.aastore, 1) := by decide +kernel
theorem dX2_copy_83 : decode cX2_copy 83 = .ok (.iinc 2 1, 3) := by decide +kernel
theorem dX2_copy_86 : decode cX2_copy 86 = .ok (.goto (-20), 3) := by decide +kernel
theorem dX2_copy_89 : decode cX2_copy 89 = .ok (.aload_n 1, 1) := by decide +kernel
theorem dX2_copy_90 : decode cX2_copy 90 = .ok (.areturn, 1) := by decide +kernel
theorem dX2_settle_0 : decode cX2_settle 0 = .ok (.aload_n 0, 1) := by decide +kernel
theorem dX2_settle_1 : decode cX2_settle 1 = .ok (.iload_n 1, 1) := by decide +kernel
theorem dX2_settle_2 : decode cX2_settle 2 = .ok (.putfield 9, 3) := by decide +kernel
theorem dX2_settle_5 : decode cX2_settle 5 = .ok (.aload_n 0, 1) := by decide +kernel
theorem dX2_settle_6 : decode cX2_settle 6 = .ok (.iconst 0, 1) := by decide +kernel
theorem dX2_settle_7 : decode cX2_settle 7 = .ok (.putfield 15, 3) := by decide +kernel
theorem dX2_settle_10 : decode cX2_settle 10 = .ok (.aload_n 0, 1) := by decide +kernel
theorem dX2_settle_11 : decode cX2_settle 11 = .ok (.iconst 0, 1) := by decide +kernel
theorem dX2_settle_12 : decode cX2_settle 12 = .ok (.putfield 18, 3) := by decide +kernel
theorem dX2_settle_15 : decode cX2_settle 15 = .ok (.aload_n 0, 1) := by decide +kernel
theorem dX2_settle_16 : decode cX2_settle 16 = .ok (.iconst 0, 1) := by decide +kernel
theorem dX2_settle_17 : decode cX2_settle 17 = .ok (.putfield 21, 3) := by decide +kernel
theorem dX2_settle_20 : decode cX2_settle 20 = .ok (.aload_n 0, 1) := by decide +kernel
theorem dX2_settle_21 : decode cX2_settle 21 = .ok (.iconst 0, 1) := by decide +kernel
theorem dX2_settle_22 : decode cX2_settle 22 = .ok (.putfield 30, 3) := by decide +kernel
theorem dX2_settle_25 : decode cX2_settle 25 = .ok (.return_, 1) := by decide +kernel
theorem dX2_isPlace_0 : decode cX2_isPlace 0 = .ok (.iload_n 1, 1) := by decide +kernel
theorem dX2_isPlace_1 : decode cX2_isPlace 1 = .ok (.ifCond .lt 15, 3) := by decide +kernel
theorem dX2_isPlace_4 : decode cX2_isPlace 4 = .ok (.iload_n 1, 1) := by decide +kernel
theorem dX2_isPlace_5 : decode cX2_isPlace 5 = .ok (.aload_n 0, 1) := by decide +kernel
theorem dX2_isPlace_6 : decode cX2_isPlace 6 = .ok (.getfield 9, 3) := by decide +kernel
theorem dX2_isPlace_9 : decode cX2_isPlace 9 = .ok (.if_icmp .ge 7, 3) := by decide +kernel
theorem dX2_isPlace_12 : decode cX2_isPlace 12 = .ok (.iconst 1, 1) := by decide +kernel
theorem dX2_isPlace_13 : decode cX2_isPlace 13 = .ok (.goto 4, 3) := by decide +kernel
theorem dX2_isPlace_16 : decode cX2_isPlace 16 = .ok (.iconst 0, 1) := by decide +kernel
theorem dX2_isPlace_17 : decode cX2_isPlace 17 = .ok (.ireturn, 1) := by decide +kernel
theorem dX2_allPlaces_0 : decode cX2_allPlaces 0 = .ok (.iconst 1, 1) := by decide +kernel
theorem dX2_allPlaces_1 : decode cX2_allPlaces 1 = .ok (.aload_n 0, 1) := by decide +kernel
theorem dX2_allPlaces_2 : decode cX2_allPlaces 2 = .ok (.getfield 9, 3) := by decide +kernel
theorem dX2_allPlaces_5 : decode cX2_allPlaces 5 = .ok (.ishl, 1) := by decide +kernel
theorem dX2_allPlaces_6 : decode cX2_allPlaces 6 = .ok (.iconst 1, 1) := by decide +kernel
theorem dX2_allPlaces_7 : decode cX2_allPlaces 7 = .ok (.isub, 1) := by decide +kernel
theorem dX2_allPlaces_8 : decode cX2_allPlaces 8 = .ok (.ireturn, 1) := by decide +kernel
theorem dX2_isRow_0 : decode cX2_isRow 0 = .ok (.iload_n 1, 1) := by decide +kernel
theorem dX2_isRow_1 : decode cX2_isRow 1 = .ok (.ifCond .lt 14, 3) := by decide +kernel
theorem dX2_isRow_4 : decode cX2_isRow 4 = .ok (.iload_n 1, 1) := by decide +kernel
theorem dX2_isRow_5 : decode cX2_isRow 5 = .ok (.iconst 3, 1) := by decide +kernel
theorem dX2_isRow_6 : decode cX2_isRow 6 = .ok (.aload_n 0, 1) := by decide +kernel
theorem dX2_isRow_7 : decode cX2_isRow 7 = .ok (.getfield 9, 3) := by decide +kernel
theorem dX2_isRow_10 : decode cX2_isRow 10 = .ok (.imul, 1) := by decide +kernel
theorem dX2_isRow_11 : decode cX2_isRow 11 = .ok (.ishr, 1) := by decide +kernel
theorem dX2_isRow_12 : decode cX2_isRow 12 = .ok (.ifCond .eq 5, 3) := by decide +kernel
theorem dX2_isRow_15 : decode cX2_isRow 15 = .ok (.iconst 0, 1) := by decide +kernel
theorem dX2_isRow_16 : decode cX2_isRow 16 = .ok (.ireturn, 1) := by decide +kernel
theorem dX2_isRow_17 : decode cX2_isRow 17 = .ok (.iconst 0, 1) := by decide +kernel
theorem dX2_isRow_18 : decode cX2_isRow 18 = .ok (.istore_n 2, 1) := by decide +kernel
theorem dX2_isRow_19 : decode cX2_isRow 19 = .ok (.iload_n 2, 1) := by decide +kernel
theorem dX2_isRow_20 : decode cX2_isRow 20 = .ok (.aload_n 0, 1) := by decide +kernel
theorem dX2_isRow_21 : decode cX2_isRow 21 = .ok (.getfield 9, 3) := by decide +kernel
theorem dX2_isRow_24 : decode cX2_isRow 24 = .ok (.if_icmp .ge 26, 3) := by decide +kernel
theorem dX2_isRow_27 : decode cX2_isRow 27 = .ok (.iload_n 1, 1) := by decide +kernel
theorem dX2_isRow_28 : decode cX2_isRow 28 = .ok (.iconst 3, 1) := by decide +kernel
theorem dX2_isRow_29 : decode cX2_isRow 29 = .ok (.iload_n 2, 1) := by decide +kernel
theorem dX2_isRow_30 : decode cX2_isRow 30 = .ok (.imul, 1) := by decide +kernel
theorem dX2_isRow_31 : decode cX2_isRow 31 = .ok (.ishr, 1) := by decide +kernel
theorem dX2_isRow_32 : decode cX2_isRow 32 = .ok (.bipush 7, 2) := by decide +kernel
theorem dX2_isRow_34 : decode cX2_isRow 34 = .ok (.iand, 1) := by decide +kernel
theorem dX2_isRow_35 : decode cX2_isRow 35 = .ok (.aload_n 0, 1) := by decide +kernel
theorem dX2_isRow_36 : decode cX2_isRow 36 = .ok (.getfield 9, 3) := by decide +kernel
theorem dX2_isRow_39 : decode cX2_isRow 39 = .ok (.if_icmp .lt 5, 3) := by decide +kernel
theorem dX2_isRow_42 : decode cX2_isRow 42 = .ok (.iconst 0, 1) := by decide +kernel
theorem dX2_isRow_43 : decode cX2_isRow 43 = .ok (.ireturn, 1) := by decide +kernel
theorem dX2_isRow_44 : decode cX2_isRow 44 = .ok (.iinc 2 1, 3) := by decide +kernel
theorem dX2_isRow_47 : decode cX2_isRow 47 = .ok (.goto (-28), 3) := by decide +kernel
theorem dX2_isRow_50 : decode cX2_isRow 50 = .ok (.iconst 1, 1) := by decide +kernel
theorem dX2_isRow_51 : decode cX2_isRow 51 = .ok (.ireturn, 1) := by decide +kernel
theorem dX2_isFull_0 : decode cX2_isFull 0 = .ok (.aload_n 0, 1) := by decide +kernel
theorem dX2_isFull_1 : decode cX2_isFull 1 = .ok (.getfield 30, 3) := by decide +kernel
theorem dX2_isFull_4 : decode cX2_isFull 4 = .ok (.iconst 3, 1) := by decide +kernel
theorem dX2_isFull_5 : decode cX2_isFull 5 = .ok (.if_icmp .lt 7, 3) := by decide +kernel
theorem dX2_isFull_8 : decode cX2_isFull 8 = .ok (.iconst 1, 1) := by decide +kernel
theorem dX2_isFull_9 : decode cX2_isFull 9 = .ok (.goto 4, 3) := by decide +kernel
theorem dX2_isFull_12 : decode cX2_isFull 12 = .ok (.iconst 0, 1) := by decide +kernel
theorem dX2_isFull_13 : decode cX2_isFull 13 = .ok (.ireturn, 1) := by decide +kernel
theorem dX2_addDog_0 : decode cX2_addDog 0 = .ok (.aload_n 0, 1) := by decide +kernel
theorem dX2_addDog_1 : decode cX2_addDog 1 = .ok (.getfield 30, 3) := by decide +kernel
theorem dX2_addDog_4 : decode cX2_addDog 4 = .ok (.iconst 3, 1) := by decide +kernel
theorem dX2_addDog_5 : decode cX2_addDog 5 = .ok (.if_icmp .ge 23, 3) := by decide +kernel
theorem dX2_addDog_8 : decode cX2_addDog 8 = .ok (.aload_n 0, 1) := by decide +kernel
theorem dX2_addDog_9 : decode cX2_addDog 9 = .ok (.getfield 35, 3) := by decide +kernel
theorem dX2_addDog_12 : decode cX2_addDog 12 = .ok (.aload_n 0, 1) := by decide +kernel
theorem dX2_addDog_13 : decode cX2_addDog 13 = .ok (.getfield 30, 3) := by decide +kernel
theorem dX2_addDog_16 : decode cX2_addDog 16 = .ok (.aload_n 1, 1) := by decide +kernel
theorem dX2_addDog_17 : decode cX2_addDog 17 = .ok (.aastore, 1) := by decide +kernel
theorem dX2_addDog_18 : decode cX2_addDog 18 = .ok (.aload_n 0, 1) := by decide +kernel
theorem dX2_addDog_19 : decode cX2_addDog 19 = .ok (.dup, 1) := by decide +kernel
theorem dX2_addDog_20 : decode cX2_addDog 20 = .ok (.getfield 30, 3) := by decide +kernel
theorem dX2_addDog_23 : decode cX2_addDog 23 = .ok (.iconst 1, 1) := by decide +kernel
theorem dX2_addDog_24 : decode cX2_addDog 24 = .ok (.iadd, 1) := by decide +kernel
theorem dX2_addDog_25 : decode cX2_addDog 25 = .ok (.putfield 30, 3) := by decide +kernel
theorem dX2_addDog_28 : decode cX2_addDog 28 = .ok (.aload_n 0, 1) := by decide +kernel
theorem dX2_addDog_29 : decode cX2_addDog 29 = .ok (.getfield 30, 3) := by decide +kernel
theorem dX2_addDog_32 : decode cX2_addDog 32 = .ok (.iconst 1, 1) := by decide +kernel
theorem dX2_addDog_33 : decode cX2_addDog 33 = .ok (.isub, 1) := by decide +kernel
theorem dX2_addDog_34 : decode cX2_addDog 34 = .ok (.ireturn, 1) := by decide +kernel
theorem dX2_dogAt_0 : decode cX2_dogAt 0 = .ok (.iload_n 1, 1) := by decide +kernel
theorem dX2_dogAt_1 : decode cX2_dogAt 1 = .ok (.ifCond .lt 20, 3) := by decide +kernel
theorem dX2_dogAt_4 : decode cX2_dogAt 4 = .ok (.iload_n 1, 1) := by decide +kernel
theorem dX2_dogAt_5 : decode cX2_dogAt 5 = .ok (.aload_n 0, 1) := by decide +kernel
theorem dX2_dogAt_6 : decode cX2_dogAt 6 = .ok (.getfield 30, 3) := by decide +kernel
theorem dX2_dogAt_9 : decode cX2_dogAt 9 = .ok (.if_icmp .ge 12, 3) := by decide +kernel
theorem dX2_dogAt_12 : decode cX2_dogAt 12 = .ok (.aload_n 0, 1) := by decide +kernel
theorem dX2_dogAt_13 : decode cX2_dogAt 13 = .ok (.getfield 35, 3) := by decide +kernel
theorem dX2_dogAt_16 : decode cX2_dogAt 16 = .ok (.iload_n 1, 1) := by decide +kernel
theorem dX2_dogAt_17 : decode cX2_dogAt 17 = .ok (.aaload, 1) := by decide +kernel
theorem dX2_dogAt_18 : decode cX2_dogAt 18 = .ok (.goto 4, 3) := by decide +kernel
theorem dX2_dogAt_21 : decode cX2_dogAt 21 = .ok (.aconst_null, 1) := by decide +kernel
theorem dX2_dogAt_22 : decode cX2_dogAt 22 = .ok (.areturn, 1) := by decide +kernel
theorem dX2_areDogs_0 : decode cX2_areDogs 0 = .ok (.iload_n 1, 1) := by decide +kernel
theorem dX2_areDogs_1 : decode cX2_areDogs 1 = .ok (.aload_n 0, 1) := by decide +kernel
theorem dX2_areDogs_2 : decode cX2_areDogs 2 = .ok (.getfield 30, 3) := by decide +kernel
theorem dX2_areDogs_5 : decode cX2_areDogs 5 = .ok (.invokestatic 40, 3) := by decide +kernel
theorem dX2_areDogs_8 : decode cX2_areDogs 8 = .ok (.ireturn, 1) := by decide +kernel
theorem dX3_init_0 : decode cX3_init 0 = .ok (.aload_n 0, 1) := by decide +kernel
theorem dX3_init_1 : decode cX3_init 1 = .ok (.iload_n 1, 1) := by decide +kernel
theorem dX3_init_2 : decode cX3_init 2 = .ok (.iload_n 2, 1) := by decide +kernel
theorem dX3_init_3 : decode cX3_init 3 = .ok (.iload_n 3, 1) := by decide +kernel
theorem dX3_init_4 : decode cX3_init 4 = .ok (.iload 4, 2) := by decide +kernel
theorem dX3_init_6 : decode cX3_init 6 = .ok (.iload 5, 2) := by decide +kernel
theorem dX3_init_8 : decode cX3_init 8 = .ok (.iload 6, 2) := by decide +kernel
theorem dX3_init_10 : decode cX3_init 10 = .ok (.invokespecial 1, 3) := by decide +kernel
theorem dX3_init_13 : decode cX3_init 13 = .ok (.return_, 1) := by decide +kernel
theorem dX3_next_0 : decode cX3_next 0 = .ok (.aload_n 0, 1) := by decide +kernel
theorem dX3_next_1 : decode cX3_next 1 = .ok (.iload_n 1, 1) := by decide +kernel
theorem dX3_next_2 : decode cX3_next 2 = .ok (.iload_n 2, 1) := by decide +kernel
theorem dX3_next_3 : decode cX3_next 3 = .ok (.iload_n 3, 1) := by decide +kernel
theorem dX3_next_4 : decode cX3_next 4 = .ok (.iload 4, 2) := by decide +kernel
theorem dX3_next_6 : decode cX3_next 6 = .ok (.invokevirtual 7, 3) := by decide +kernel
theorem dX3_next_9 : decode cX3_next 9 = .ok (.istore 5, 2) := by decide +kernel
theorem dX3_next_11 : decode cX3_next 11 = .ok (.iload_n 3, 1) := by decide +kernel
theorem dX3_next_12 : decode cX3_next 12 = .ok (.aload_n 0, 1) := by decide +kernel
theorem dX3_next_13 : decode cX3_next 13 = .ok (.getfield 13, 3) := by decide +kernel
theorem dX3_next_16 : decode cX3_next 16 = .ok (.if_icmp .ge 8, 3) := by decide +kernel
theorem dX3_next_19 : decode cX3_next 19 = .ok (.iload 5, 2) := by decide +kernel
theorem dX3_next_21 : decode cX3_next 21 = .ok (.goto 13, 3) := by decide +kernel
theorem dX3_next_24 : decode cX3_next 24 = .ok (.aload_n 0, 1) := by decide +kernel
theorem dX3_next_25 : decode cX3_next 25 = .ok (.iload 5, 2) := by decide +kernel
theorem dX3_next_27 : decode cX3_next 27 = .ok (.iload_n 2, 1) := by decide +kernel
theorem dX3_next_28 : decode cX3_next 28 = .ok (.iload_n 3, 1) := by decide +kernel
theorem dX3_next_29 : decode cX3_next 29 = .ok (.iload 4, 2) := by decide +kernel
theorem dX3_next_31 : decode cX3_next 31 = .ok (.invokevirtual 7, 3) := by decide +kernel
theorem dX3_next_34 : decode cX3_next 34 = .ok (.ireturn, 1) := by decide +kernel
theorem dX4_init_0 : decode cX4_init 0 = .ok (.aload_n 0, 1) := by decide +kernel
theorem dX4_init_1 : decode cX4_init 1 = .ok (.invokespecial 3, 3) := by decide +kernel
theorem dX4_init_4 : decode cX4_init 4 = .ok (.aload_n 0, 1) := by decide +kernel
theorem dX4_init_5 : decode cX4_init 5 = .ok (.sipush 320, 3) := by decide +kernel
theorem dX4_init_8 : decode cX4_init 8 = .ok (.newarray .int, 2) := by decide +kernel
theorem dX4_init_10 : decode cX4_init 10 = .ok (.putfield 9, 3) := by decide +kernel
theorem dX4_init_13 : decode cX4_init 13 = .ok (.aload_n 0, 1) := by decide +kernel
theorem dX4_init_14 : decode cX4_init 14 = .ok (.sipush 672, 3) := by decide +kernel
theorem dX4_init_17 : decode cX4_init 17 = .ok (.newarray .int, 2) := by decide +kernel
theorem dX4_init_19 : decode cX4_init 19 = .ok (.putfield 15, 3) := by decide +kernel
theorem dX4_init_22 : decode cX4_init 22 = .ok (.aload_n 0, 1) := by decide +kernel
theorem dX4_init_23 : decode cX4_init 23 = .ok (.iconst 5, 1) := by decide +kernel
theorem dX4_init_24 : decode cX4_init 24 = .ok (.newarray .int, 2) := by decide +kernel
theorem dX4_init_26 : decode cX4_init 26 = .ok (.putfield 18, 3) := by decide +kernel
theorem dX4_init_29 : decode cX4_init 29 = .ok (.aload_n 0, 1) := by decide +kernel
theorem dX4_init_30 : decode cX4_init 30 = .ok (.iconst 0, 1) := by decide +kernel
theorem dX4_init_31 : decode cX4_init 31 = .ok (.putfield 21, 3) := by decide +kernel
theorem dX4_init_34 : decode cX4_init 34 = .ok (.return_, 1) := by decide +kernel
theorem dX4_learn_0 : decode cX4_learn 0 = .ok (.aload_n 0, 1) := by decide +kernel
theorem dX4_learn_1 : decode cX4_learn 1 = .ok (.iconst 1, 1) := by decide +kernel
theorem dX4_learn_2 : decode cX4_learn 2 = .ok (.iload_n 2, 1) := by decide +kernel
theorem dX4_learn_3 : decode cX4_learn 3 = .ok (.ishl, 1) := by decide +kernel
theorem dX4_learn_4 : decode cX4_learn 4 = .ok (.bipush 32, 2) := by decide +kernel
theorem dX4_learn_6 : decode cX4_learn 6 = .ok (.invokestatic 25, 3) := by decide +kernel
theorem dX4_learn_9 : decode cX4_learn 9 = .ok (.putfield 21, 3) := by decide +kernel
theorem dX4_learn_12 : decode cX4_learn 12 = .ok (.iconst 0, 1) := by decide +kernel
theorem dX4_learn_13 : decode cX4_learn 13 = .ok (.istore 4, 2) := by decide +kernel
theorem dX4_learn_15 : decode cX4_learn 15 = .ok (.iload 4, 2) := by decide +kernel
theorem dX4_learn_17 : decode cX4_learn 17 = .ok (.iconst 5, 1) := by decide +kernel
theorem dX4_learn_18 : decode cX4_learn 18 = .ok (.if_icmp .ge 85, 3) := by decide +kernel
theorem dX4_learn_21 : decode cX4_learn 21 = .ok (.iconst 0, 1) := by decide +kernel
theorem dX4_learn_22 : decode cX4_learn 22 = .ok (.istore 5, 2) := by decide +kernel
theorem dX4_learn_24 : decode cX4_learn 24 = .ok (.iload 5, 2) := by decide +kernel
theorem dX4_learn_26 : decode cX4_learn 26 = .ok (.iconst 2, 1) := by decide +kernel
theorem dX4_learn_27 : decode cX4_learn 27 = .ok (.if_icmp .ge 70, 3) := by decide +kernel
theorem dX4_learn_30 : decode cX4_learn 30 = .ok (.iload 4, 2) := by decide +kernel
theorem dX4_learn_32 : decode cX4_learn 32 = .ok (.iload 5, 2) := by decide +kernel
theorem dX4_learn_34 : decode cX4_learn 34 = .ok (.invokestatic 31, 3) := by decide +kernel
theorem dX4_learn_37 : decode cX4_learn 37 = .ok (.istore 6, 2) := by decide +kernel
theorem dX4_learn_39 : decode cX4_learn 39 = .ok (.iconst 0, 1) := by decide +kernel
theorem dX4_learn_40 : decode cX4_learn 40 = .ok (.istore 7, 2) := by decide +kernel
theorem dX4_learn_42 : decode cX4_learn 42 = .ok (.iload 7, 2) := by decide +kernel
theorem dX4_learn_44 : decode cX4_learn 44 = .ok (.iload_n 2, 1) := by decide +kernel
theorem dX4_learn_45 : decode cX4_learn 45 = .ok (.if_icmp .ge 40, 3) := by decide +kernel
theorem dX4_learn_48 : decode cX4_learn 48 = .ok (.iload 7, 2) := by decide +kernel
theorem dX4_learn_50 : decode cX4_learn 50 = .ok (.iconst 5, 1) := by decide +kernel
theorem dX4_learn_51 : decode cX4_learn 51 = .ok (.if_icmp .ge 34, 3) := by decide +kernel
theorem dX4_learn_54 : decode cX4_learn 54 = .ok (.aload_n 0, 1) := by decide +kernel
theorem dX4_learn_55 : decode cX4_learn 55 = .ok (.getfield 9, 3) := by decide +kernel
theorem dX4_learn_58 : decode cX4_learn 58 = .ok (.iload 6, 2) := by decide +kernel
theorem dX4_learn_60 : decode cX4_learn 60 = .ok (.iconst 1, 1) := by decide +kernel
theorem dX4_learn_61 : decode cX4_learn 61 = .ok (.iload 7, 2) := by decide +kernel
theorem dX4_learn_63 : decode cX4_learn 63 = .ok (.ishl, 1) := by decide +kernel
theorem dX4_learn_64 : decode cX4_learn 64 = .ok (.iadd, 1) := by decide +kernel
theorem dX4_learn_65 : decode cX4_learn 65 = .ok (.iconst 1, 1) := by decide +kernel
theorem dX4_learn_66 : decode cX4_learn 66 = .ok (.aload_n 1, 1) := by decide +kernel
theorem dX4_learn_67 : decode cX4_learn 67 = .ok (.iload 7, 2) := by decide +kernel
theorem dX4_learn_69 : decode cX4_learn 69 = .ok (.iload 5, 2) := by decide +kernel
theorem dX4_learn_71 : decode cX4_learn 71 = .ok (.iload 4, 2) := by decide +kernel
theorem dX4_learn_73 : decode cX4_learn 73 = .ok (.iload_n 3, 1) := by decide +kernel
theorem dX4_learn_74 : decode cX4_learn 74 = .ok (.invokevirtual 34, 3) := by decide +kernel
theorem dX4_learn_77 : decode cX4_learn 77 = .ok (.ishl, 1) := by decide +kernel
theorem dX4_learn_78 : decode cX4_learn 78 = .ok (.iastore, 1) := by decide +kernel
theorem dX4_learn_79 : decode cX4_learn 79 = .ok (.iinc 7 1, 3) := by decide +kernel
theorem dX4_learn_82 : decode cX4_learn 82 = .ok (.goto (-40), 3) := by decide +kernel
theorem dX4_learn_85 : decode cX4_learn 85 = .ok (.aload_n 0, 1) := by decide +kernel
theorem dX4_learn_86 : decode cX4_learn 86 = .ok (.iload 6, 2) := by decide +kernel
theorem dX4_learn_88 : decode cX4_learn 88 = .ok (.invokevirtual 40, 3) := by decide +kernel
theorem dX4_learn_91 : decode cX4_learn 91 = .ok (.iinc 5 1, 3) := by decide +kernel
theorem dX4_learn_94 : decode cX4_learn 94 = .ok (.goto (-70), 3) := by decide +kernel
theorem dX4_learn_97 : decode cX4_learn 97 = .ok (.iinc 4 1, 3) := by decide +kernel
theorem dX4_learn_100 : decode cX4_learn 100 = .ok (.goto (-85), 3) := by decide +kernel
theorem dX4_learn_103 : decode cX4_learn 103 = .ok (.return_, 1) := by decide +kernel
theorem dX4_joinSets_0 : decode cX4_joinSets 0 = .ok (.iconst 1, 1) := by decide +kernel
theorem dX4_joinSets_1 : decode cX4_joinSets 1 = .ok (.istore_n 2, 1) := by decide +kernel
theorem dX4_joinSets_2 : decode cX4_joinSets 2 = .ok (.iload_n 2, 1) := by decide +kernel
theorem dX4_joinSets_3 : decode cX4_joinSets 3 = .ok (.aload_n 0, 1) := by decide +kernel
theorem dX4_joinSets_4 : decode cX4_joinSets 4 = .ok (.getfield 21, 3) := by decide +kernel
theorem dX4_joinSets_7 : decode cX4_joinSets 7 = .ok (.if_icmp .ge 41, 3) := by decide +kernel
theorem dX4_joinSets_10 : decode cX4_joinSets 10 = .ok (.iload_n 2, 1) := by decide +kernel
theorem dX4_joinSets_11 : decode cX4_joinSets 11 = .ok (.iload_n 2, 1) := by decide +kernel
theorem dX4_joinSets_12 : decode cX4_joinSets 12 = .ok (.ineg, 1) := by decide +kernel
theorem dX4_joinSets_13 : decode cX4_joinSets 13 = .ok (.iand, 1) := by decide +kernel
theorem dX4_joinSets_14 : decode cX4_joinSets 14 = .ok (.istore_n 3, 1) := by decide +kernel
theorem dX4_joinSets_15 : decode cX4_joinSets 15 = .ok (.aload_n 0, 1) := by decide +kernel
theorem dX4_joinSets_16 : decode cX4_joinSets 16 = .ok (.getfield 9, 3) := by decide +kernel
theorem dX4_joinSets_19 : decode cX4_joinSets 19 = .ok (.iload_n 1, 1) := by decide +kernel
theorem dX4_joinSets_20 : decode cX4_joinSets 20 = .ok (.iload_n 2, 1) := by decide +kernel
theorem dX4_joinSets_21 : decode cX4_joinSets 21 = .ok (.iadd, 1) := by decide +kernel
theorem dX4_joinSets_22 : decode cX4_joinSets 22 = .ok (.aload_n 0, 1) := by decide +kernel
theorem dX4_joinSets_23 : decode cX4_joinSets 23 = .ok (.getfield 9, 3) := by decide +kernel
theorem dX4_joinSets_26 : decode cX4_joinSets 26 = .ok (.iload_n 1, 1) := by decide +kernel
theorem dX4_joinSets_27 : decode cX4_joinSets 27 = .ok (.iload_n 3, 1) := by decide +kernel
theorem dX4_joinSets_28 : decode cX4_joinSets 28 = .ok (.iadd, 1) := by decide +kernel
theorem dX4_joinSets_29 : decode cX4_joinSets 29 = .ok (.iaload, 1) := by decide +kernel
theorem dX4_joinSets_30 : decode cX4_joinSets 30 = .ok (.aload_n 0, 1) := by decide +kernel
theorem dX4_joinSets_31 : decode cX4_joinSets 31 = .ok (.getfield 9, 3) := by decide +kernel
theorem dX4_joinSets_34 : decode cX4_joinSets 34 = .ok (.iload_n 1, 1) := by decide +kernel
theorem dX4_joinSets_35 : decode cX4_joinSets 35 = .ok (.iload_n 2, 1) := by decide +kernel
theorem dX4_joinSets_36 : decode cX4_joinSets 36 = .ok (.iload_n 3, 1) := by decide +kernel
theorem dX4_joinSets_37 : decode cX4_joinSets 37 = .ok (.ixor, 1) := by decide +kernel
theorem dX4_joinSets_38 : decode cX4_joinSets 38 = .ok (.iadd, 1) := by decide +kernel
theorem dX4_joinSets_39 : decode cX4_joinSets 39 = .ok (.iaload, 1) := by decide +kernel
theorem dX4_joinSets_40 : decode cX4_joinSets 40 = .ok (.ior, 1) := by decide +kernel
theorem dX4_joinSets_41 : decode cX4_joinSets 41 = .ok (.iastore, 1) := by decide +kernel
theorem dX4_joinSets_42 : decode cX4_joinSets 42 = .ok (.iinc 2 1, 3) := by decide +kernel
theorem dX4_joinSets_45 : decode cX4_joinSets 45 = .ok (.goto (-43), 3) := by decide +kernel
theorem dX4_joinSets_48 : decode cX4_joinSets 48 = .ok (.return_, 1) := by decide +kernel
theorem dX4_rowOf_0 : decode cX4_rowOf 0 = .ok (.iload_n 0, 1) := by decide +kernel
theorem dX4_rowOf_1 : decode cX4_rowOf 1 = .ok (.iconst 2, 1) := by decide +kernel
theorem dX4_rowOf_2 : decode cX4_rowOf 2 = .ok (.imul, 1) := by decide +kernel
theorem dX4_rowOf_3 : decode cX4_rowOf 3 = .ok (.iload_n 1, 1) := by decide +kernel
theorem dX4_rowOf_4 : decode cX4_rowOf 4 = .ok (.iadd, 1) := by decide +kernel
theorem dX4_rowOf_5 : decode cX4_rowOf 5 = .ok (.bipush 32, 2) := by decide +kernel
theorem dX4_rowOf_7 : decode cX4_rowOf 7 = .ok (.imul, 1) := by decide +kernel
theorem dX4_rowOf_8 : decode cX4_rowOf 8 = .ok (.ireturn, 1) := by decide +kernel
theorem dX4_behind_0 : decode cX4_behind 0 = .ok (.iload_n 1, 1) := by decide +kernel
theorem dX4_behind_1 : decode cX4_behind 1 = .ok (.invokestatic 44, 3) := by decide +kernel
theorem dX4_behind_4 : decode cX4_behind 4 = .ok (.iload_n 2, 1) := by decide +kernel
theorem dX4_behind_5 : decode cX4_behind 5 = .ok (.invokestatic 31, 3) := by decide +kernel
theorem dX4_behind_8 : decode cX4_behind 8 = .ok (.iload_n 3, 1) := by decide +kernel
theorem dX4_behind_9 : decode cX4_behind 9 = .ok (.iadd, 1) := by decide +kernel
theorem dX4_behind_10 : decode cX4_behind 10 = .ok (.istore 4, 2) := by decide +kernel
theorem dX4_behind_12 : decode cX4_behind 12 = .ok (.iload 4, 2) := by decide +kernel
theorem dX4_behind_14 : decode cX4_behind 14 = .ok (.ifCond .lt 23, 3) := by decide +kernel
theorem dX4_behind_17 : decode cX4_behind 17 = .ok (.iload 4, 2) := by decide +kernel
theorem dX4_behind_19 : decode cX4_behind 19 = .ok (.aload_n 0, 1) := by decide +kernel
theorem dX4_behind_20 : decode cX4_behind 20 = .ok (.getfield 9, 3) := by decide +kernel
theorem dX4_behind_23 : decode cX4_behind 23 = .ok (.arraylength, 1) := by decide +kernel
theorem dX4_behind_24 : decode cX4_behind 24 = .ok (.if_icmp .ge 13, 3) := by decide +kernel
theorem dX4_behind_27 : decode cX4_behind 27 = .ok (.aload_n 0, 1) := by decide +kernel
theorem dX4_behind_28 : decode cX4_behind 28 = .ok (.getfield 9, 3) := by decide +kernel
theorem dX4_behind_31 : decode cX4_behind 31 = .ok (.iload 4, 2) := by decide +kernel
theorem dX4_behind_33 : decode cX4_behind 33 = .ok (.iaload, 1) := by decide +kernel
theorem dX4_behind_34 : decode cX4_behind 34 = .ok (.goto 4, 3) := by decide +kernel
theorem dX4_behind_37 : decode cX4_behind 37 = .ok (.iconst 0, 1) := by decide +kernel
theorem dX4_behind_38 : decode cX4_behind 38 = .ok (.ireturn, 1) := by decide +kernel
theorem dX4_findEnds_0 : decode cX4_findEnds 0 = .ok (.sipush 640, 3) := by decide +kernel
theorem dX4_findEnds_3 : decode cX4_findEnds 3 = .ok (.istore_n 2, 1) := by decide +kernel
theorem dX4_findEnds_4 : decode cX4_findEnds 4 = .ok (.iconst 1, 1) := by decide +kernel
theorem dX4_findEnds_5 : decode cX4_findEnds 5 = .ok (.istore_n 3, 1) := by decide +kernel
theorem dX4_findEnds_6 : decode cX4_findEnds 6 = .ok (.iload_n 3, 1) := by decide +kernel
theorem dX4_findEnds_7 : decode cX4_findEnds 7 = .ok (.aload_n 0, 1) := by decide +kernel
theorem dX4_findEnds_8 : decode cX4_findEnds 8 = .ok (.getfield 21, 3) := by decide +kernel
theorem dX4_findEnds_11 : decode cX4_findEnds 11 = .ok (.if_icmp .ge 28, 3) := by decide +kernel
theorem dX4_findEnds_14 : decode cX4_findEnds 14 = .ok (.aload_n 0, 1) := by decide +kernel
theorem dX4_findEnds_15 : decode cX4_findEnds 15 = .ok (.getfield 15, 3) := by decide +kernel
theorem dX4_findEnds_18 : decode cX4_findEnds 18 = .ok (.iload_n 2, 1) := by decide +kernel
theorem dX4_findEnds_19 : decode cX4_findEnds 19 = .ok (.iload_n 3, 1) := by decide +kernel
theorem dX4_findEnds_20 : decode cX4_findEnds 20 = .ok (.iadd, 1) := by decide +kernel
theorem dX4_findEnds_21 : decode cX4_findEnds 21 = .ok (.iload_n 3, 1) := by decide +kernel
theorem dX4_findEnds_22 : decode cX4_findEnds 22 = .ok (.iload_n 1, 1) := by decide +kernel
theorem dX4_findEnds_23 : decode cX4_findEnds 23 = .ok (.if_icmp .ne 8, 3) := by decide +kernel
theorem dX4_findEnds_26 : decode cX4_findEnds 26 = .ok (.ldc 48, 2) := by decide +kernel
theorem dX4_findEnds_28 : decode cX4_findEnds 28 = .ok (.goto 4, 3) := by decide +kernel
theorem dX4_findEnds_31 : decode cX4_findEnds 31 = .ok (.iconst 0, 1) := by decide +kernel
theorem dX4_findEnds_32 : decode cX4_findEnds 32 = .ok (.iastore, 1) := by decide +kernel
theorem dX4_findEnds_33 : decode cX4_findEnds 33 = .ok (.iinc 3 1, 3) := by decide +kernel
theorem dX4_findEnds_36 : decode cX4_findEnds 36 = .ok (.goto (-30), 3) := by decide +kernel
theorem dX4_findEnds_39 : decode cX4_findEnds 39 = .ok (.bipush 19, 2) := by decide +kernel
theorem dX4_findEnds_41 : decode cX4_findEnds 41 = .ok (.istore_n 3, 1) := by decide +kernel
theorem dX4_findEnds_42 : decode cX4_findEnds 42 = .ok (.iload_n 3, 1) := by decide +kernel
theorem dX4_findEnds_43 : decode cX4_findEnds 43 = .ok (.ifCond .lt 125, 3) := by decide +kernel
theorem dX4_findEnds_46 : decode cX4_findEnds 46 = .ok (.iload_n 3, 1) := by decide +kernel
theorem dX4_findEnds_47 : decode cX4_findEnds 47 = .ok (.invokestatic 44, 3) := by decide +kernel
theorem dX4_findEnds_50 : decode cX4_findEnds 50 = .ok (.iconst 0, 1) := by decide +kernel
theorem dX4_findEnds_51 : decode cX4_findEnds 51 = .ok (.invokestatic 31, 3) := by decide +kernel
theorem dX4_findEnds_54 : decode cX4_findEnds 54 = .ok (.istore 4, 2) := by decide +kernel
theorem dX4_findEnds_56 : decode cX4_findEnds 56 = .ok (.iload_n 3, 1) := by decide +kernel
theorem dX4_findEnds_57 : decode cX4_findEnds 57 = .ok (.invokestatic 44, 3) := by decide +kernel
theorem dX4_findEnds_60 : decode cX4_findEnds 60 = .ok (.iconst 1, 1) := by decide +kernel
theorem dX4_findEnds_61 : decode cX4_findEnds 61 = .ok (.invokestatic 31, 3) := by decide +kernel
theorem dX4_findEnds_64 : decode cX4_findEnds 64 = .ok (.istore 5, 2) := by decide +kernel
theorem dX4_findEnds_66 : decode cX4_findEnds 66 = .ok (.iload_n 3, 1) := by decide +kernel
theorem dX4_findEnds_67 : decode cX4_findEnds 67 = .ok (.bipush 32, 2) := by decide +kernel
theorem dX4_findEnds_69 : decode cX4_findEnds 69 = .ok (.imul, 1) := by decide +kernel
theorem dX4_findEnds_70 : decode cX4_findEnds 70 = .ok (.istore 6, 2) := by decide +kernel
theorem dX4_findEnds_72 : decode cX4_findEnds 72 = .ok (.iload 6, 2) := by decide +kernel
theorem dX4_findEnds_74 : decode cX4_findEnds 74 = .ok (.bipush 32, 2) := by decide +kernel
theorem dX4_findEnds_76 : decode cX4_findEnds 76 = .ok (.iadd, 1) := by decide +kernel
theorem dX4_findEnds_77 : decode cX4_findEnds 77 = .ok (.istore 7, 2) := by decide +kernel
theorem dX4_findEnds_79 : decode cX4_findEnds 79 = .ok (.iconst 1, 1) := by decide +kernel
theorem dX4_findEnds_80 : decode cX4_findEnds 80 = .ok (.istore 8, 2) := by decide +kernel
theorem dX4_findEnds_82 : decode cX4_findEnds 82 = .ok (.iload 8, 2) := by decide +kernel
theorem dX4_findEnds_84 : decode cX4_findEnds 84 = .ok (.aload_n 0, 1) := by decide +kernel
theorem dX4_findEnds_85 : decode cX4_findEnds 85 = .ok (.getfield 21, 3) := by decide +kernel
theorem dX4_findEnds_88 : decode cX4_findEnds 88 = .ok (.if_icmp .ge 74, 3) := by decide +kernel
theorem dX4_findEnds_91 : decode cX4_findEnds 91 = .ok (.iload 8, 2) := by decide +kernel
theorem dX4_findEnds_93 : decode cX4_findEnds 93 = .ok (.iload_n 1, 1) := by decide +kernel
theorem dX4_findEnds_94 : decode cX4_findEnds 94 = .ok (.if_icmp .ne 9, 3) := by decide +kernel
theorem dX4_findEnds_97 : decode cX4_findEnds 97 = .ok (.iconst 1, 1) := by decide +kernel
theorem dX4_findEnds_98 : decode cX4_findEnds 98 = .ok (.iload_n 3, 1) := by decide +kernel
theorem dX4_findEnds_99 : decode cX4_findEnds 99 = .ok (.ishl, 1) := by decide +kernel
theorem dX4_findEnds_100 : decode cX4_findEnds 100 = .ok (.goto 4, 3) := by decide +kernel
theorem dX4_findEnds_103 : decode cX4_findEnds 103 = .ok (.iconst 0, 1) := by decide +kernel
theorem dX4_findEnds_104 : decode cX4_findEnds 104 = .ok (.istore 9, 2) := by decide +kernel
theorem dX4_findEnds_106 : decode cX4_findEnds 106 = .ok (.aload_n 0, 1) := by decide +kernel
theorem dX4_findEnds_107 : decode cX4_findEnds 107 = .ok (.getfield 15, 3) := by decide +kernel
theorem dX4_findEnds_110 : decode cX4_findEnds 110 = .ok (.iload 6, 2) := by decide +kernel
theorem dX4_findEnds_112 : decode cX4_findEnds 112 = .ok (.iload 8, 2) := by decide +kernel
theorem dX4_findEnds_114 : decode cX4_findEnds 114 = .ok (.iadd, 1) := by decide +kernel
theorem dX4_findEnds_115 : decode cX4_findEnds 115 = .ok (.iload 9, 2) := by decide +kernel
theorem dX4_findEnds_117 : decode cX4_findEnds 117 = .ok (.aload_n 0, 1) := by decide +kernel
theorem dX4_findEnds_118 : decode cX4_findEnds 118 = .ok (.getfield 15, 3) := by decide +kernel
theorem dX4_findEnds_121 : decode cX4_findEnds 121 = .ok (.iload 7, 2) := by decide +kernel
theorem dX4_findEnds_123 : decode cX4_findEnds 123 = .ok (.aload_n 0, 1) := by decide +kernel
theorem dX4_findEnds_124 : decode cX4_findEnds 124 = .ok (.getfield 9, 3) := by decide +kernel
theorem dX4_findEnds_127 : decode cX4_findEnds 127 = .ok (.iload 4, 2) := by decide +kernel
theorem dX4_findEnds_129 : decode cX4_findEnds 129 = .ok (.iload 8, 2) := by decide +kernel
theorem dX4_findEnds_131 : decode cX4_findEnds 131 = .ok (.iadd, 1) := by decide +kernel
theorem dX4_findEnds_132 : decode cX4_findEnds 132 = .ok (.iaload, 1) := by decide +kernel
theorem dX4_findEnds_133 : decode cX4_findEnds 133 = .ok (.iadd, 1) := by decide +kernel
theorem dX4_findEnds_134 : decode cX4_findEnds 134 = .ok (.iaload, 1) := by decide +kernel
theorem dX4_findEnds_135 : decode cX4_findEnds 135 = .ok (.ior, 1) := by decide +kernel
theorem dX4_findEnds_136 : decode cX4_findEnds 136 = .ok (.aload_n 0, 1) := by decide +kernel
theorem dX4_findEnds_137 : decode cX4_findEnds 137 = .ok (.getfield 15, 3) := by decide +kernel
theorem dX4_findEnds_140 : decode cX4_findEnds 140 = .ok (.iload 7, 2) := by decide +kernel
theorem dX4_findEnds_142 : decode cX4_findEnds 142 = .ok (.aload_n 0, 1) := by decide +kernel
theorem dX4_findEnds_143 : decode cX4_findEnds 143 = .ok (.getfield 9, 3) := by decide +kernel
theorem dX4_findEnds_146 : decode cX4_findEnds 146 = .ok (.iload 5, 2) := by decide +kernel
theorem dX4_findEnds_148 : decode cX4_findEnds 148 = .ok (.iload 8, 2) := by decide +kernel
theorem dX4_findEnds_150 : decode cX4_findEnds 150 = .ok (.iadd, 1) := by decide +kernel
theorem dX4_findEnds_151 : decode cX4_findEnds 151 = .ok (.iaload, 1) := by decide +kernel
theorem dX4_findEnds_152 : decode cX4_findEnds 152 = .ok (.iadd, 1) := by decide +kernel
theorem dX4_findEnds_153 : decode cX4_findEnds 153 = .ok (.iaload, 1) := by decide +kernel
theorem dX4_findEnds_154 : decode cX4_findEnds 154 = .ok (.ior, 1) := by decide +kernel
theorem dX4_findEnds_155 : decode cX4_findEnds 155 = .ok (.iastore, 1) := by decide +kernel
theorem dX4_findEnds_156 : decode cX4_findEnds 156 = .ok (.iinc 8 1, 3) := by decide +kernel
theorem dX4_findEnds_159 : decode cX4_findEnds 159 = .ok (.goto (-77), 3) := by decide +kernel
theorem dX4_findEnds_162 : decode cX4_findEnds 162 = .ok (.iinc 3 (-1), 3) := by decide +kernel
theorem dX4_findEnds_165 : decode cX4_findEnds 165 = .ok (.goto (-123), 3) := by decide +kernel
theorem dX4_findEnds_168 : decode cX4_findEnds 168 = .ok (.return_, 1) := by decide +kernel
theorem dX4_endsFrom_0 : decode cX4_endsFrom 0 = .ok (.iload_n 1, 1) := by decide +kernel
theorem dX4_endsFrom_1 : decode cX4_endsFrom 1 = .ok (.bipush 32, 2) := by decide +kernel
theorem dX4_endsFrom_3 : decode cX4_endsFrom 3 = .ok (.imul, 1) := by decide +kernel
theorem dX4_endsFrom_4 : decode cX4_endsFrom 4 = .ok (.iload_n 2, 1) := by decide +kernel
theorem dX4_endsFrom_5 : decode cX4_endsFrom 5 = .ok (.iadd, 1) := by decide +kernel
theorem dX4_endsFrom_6 : decode cX4_endsFrom 6 = .ok (.istore_n 3, 1) := by decide +kernel
theorem dX4_endsFrom_7 : decode cX4_endsFrom 7 = .ok (.iload_n 3, 1) := by decide +kernel
theorem dX4_endsFrom_8 : decode cX4_endsFrom 8 = .ok (.ifCond .lt 21, 3) := by decide +kernel
theorem dX4_endsFrom_11 : decode cX4_endsFrom 11 = .ok (.iload_n 3, 1) := by decide +kernel
theorem dX4_endsFrom_12 : decode cX4_endsFrom 12 = .ok (.aload_n 0, 1) := by decide +kernel
theorem dX4_endsFrom_13 : decode cX4_endsFrom 13 = .ok (.getfield 15, 3) := by decide +kernel
theorem dX4_endsFrom_16 : decode cX4_endsFrom 16 = .ok (.arraylength, 1) := by decide +kernel
theorem dX4_endsFrom_17 : decode cX4_endsFrom 17 = .ok (.if_icmp .ge 12, 3) := by decide +kernel
theorem dX4_endsFrom_20 : decode cX4_endsFrom 20 = .ok (.aload_n 0, 1) := by decide +kernel
theorem dX4_endsFrom_21 : decode cX4_endsFrom 21 = .ok (.getfield 15, 3) := by decide +kernel
theorem dX4_endsFrom_24 : decode cX4_endsFrom 24 = .ok (.iload_n 3, 1) := by decide +kernel
theorem dX4_endsFrom_25 : decode cX4_endsFrom 25 = .ok (.iaload, 1) := by decide +kernel
theorem dX4_endsFrom_26 : decode cX4_endsFrom 26 = .ok (.goto 4, 3) := by decide +kernel
theorem dX4_endsFrom_29 : decode cX4_endsFrom 29 = .ok (.iconst 0, 1) := by decide +kernel
theorem dX4_endsFrom_30 : decode cX4_endsFrom 30 = .ok (.ireturn, 1) := by decide +kernel
theorem dX4_findMeetings_0 : decode cX4_findMeetings 0 = .ok (.iconst 0, 1) := by decide +kernel
theorem dX4_findMeetings_1 : decode cX4_findMeetings 1 = .ok (.istore_n 1, 1) := by decide +kernel
theorem dX4_findMeetings_2 : decode cX4_findMeetings 2 = .ok (.iconst 1, 1) := by decide +kernel
theorem dX4_findMeetings_3 : decode cX4_findMeetings 3 = .ok (.istore_n 2, 1) := by decide +kernel
theorem dX4_findMeetings_4 : decode cX4_findMeetings 4 = .ok (.iload_n 2, 1) := by decide +kernel
theorem dX4_findMeetings_5 : decode cX4_findMeetings 5 = .ok (.aload_n 0, 1) := by decide +kernel
theorem dX4_findMeetings_6 : decode cX4_findMeetings 6 = .ok (.getfield 21, 3) := by decide +kernel
theorem dX4_findMeetings_9 : decode cX4_findMeetings 9 = .ok (.if_icmp .ge 27, 3) := by decide +kernel
theorem dX4_findMeetings_12 : decode cX4_findMeetings 12 = .ok (.iload_n 1, 1) := by decide +kernel
theorem dX4_findMeetings_13 : decode cX4_findMeetings 13 = .ok (.iload_n 2, 1) := by decide +kernel
theorem dX4_findMeetings_14 : decode cX4_findMeetings 14 = .ok (.invokestatic 49, 3) := by decide +kernel
theorem dX4_findMeetings_17 : decode cX4_findMeetings 17 = .ok (.iconst 1, 1) := by decide +kernel
end
section
theorem dX4_findMeetings_18 : decode cX4_findMeetings 18 = .ok (.if_icmp .ne 9, 3) := by decide +kernel
theorem dX4_findMeetings_21 : decode cX4_findMeetings 21 = .ok (.iconst 1, 1) := by decide +kernel
theorem dX4_findMeetings_22 : decode cX4_findMeetings 22 = .ok (.iload_n 2, 1) := by decide +kernel
theorem dX4_findMeetings_23 : decode cX4_findMeetings 23 = .ok (.ishl, 1) := by decide +kernel
theorem dX4_findMeetings_24 : decode cX4_findMeetings 24 = .ok (.goto 4, 3) := by decide +kernel
theorem dX4_findMeetings_27 : decode cX4_findMeetings 27 = .ok (.iconst 0, 1) := by decide +kernel
theorem dX4_findMeetings_28 : decode cX4_findMeetings 28 = .ok (.ior, 1) := by decide +kernel
theorem dX4_findMeetings_29 : decode cX4_findMeetings 29 = .ok (.istore_n 1, 1) := by decide +kernel
theorem dX4_findMeetings_30 : decode cX4_findMeetings 30 = .ok (.iinc 2 1, 3) := by decide +kernel
theorem dX4_findMeetings_33 : decode cX4_findMeetings 33 = .ok (.goto (-29), 3) := by decide +kernel
theorem dX4_findMeetings_36 : decode cX4_findMeetings 36 = .ok (.aload_n 0, 1) := by decide +kernel
theorem dX4_findMeetings_37 : decode cX4_findMeetings 37 = .ok (.getfield 18, 3) := by decide +kernel
theorem dX4_findMeetings_40 : decode cX4_findMeetings 40 = .ok (.iload_n 1, 1) := by decide +kernel
theorem dX4_findMeetings_41 : decode cX4_findMeetings 41 = .ok (.invokestatic 54, 3) := by decide +kernel
theorem dX4_findMeetings_44 : decode cX4_findMeetings 44 = .ok (.iconst 1, 1) := by decide +kernel
theorem dX4_findMeetings_45 : decode cX4_findMeetings 45 = .ok (.istore_n 2, 1) := by decide +kernel
theorem dX4_findMeetings_46 : decode cX4_findMeetings 46 = .ok (.iconst 0, 1) := by decide +kernel
theorem dX4_findMeetings_47 : decode cX4_findMeetings 47 = .ok (.istore_n 3, 1) := by decide +kernel
theorem dX4_findMeetings_48 : decode cX4_findMeetings 48 = .ok (.iload_n 3, 1) := by decide +kernel
theorem dX4_findMeetings_49 : decode cX4_findMeetings 49 = .ok (.sipush 160, 3) := by decide +kernel
theorem dX4_findMeetings_52 : decode cX4_findMeetings 52 = .ok (.if_icmp .gt 18, 3) := by decide +kernel
theorem dX4_findMeetings_55 : decode cX4_findMeetings 55 = .ok (.iload_n 2, 1) := by decide +kernel
theorem dX4_findMeetings_56 : decode cX4_findMeetings 56 = .ok (.ifCond .eq 14, 3) := by decide +kernel
theorem dX4_findMeetings_59 : decode cX4_findMeetings 59 = .ok (.aload_n 0, 1) := by decide +kernel
theorem dX4_findMeetings_60 : decode cX4_findMeetings 60 = .ok (.invokevirtual 60, 3) := by decide +kernel
theorem dX4_findMeetings_63 : decode cX4_findMeetings 63 = .ok (.istore_n 2, 1) := by decide +kernel
theorem dX4_findMeetings_64 : decode cX4_findMeetings 64 = .ok (.iinc 3 1, 3) := by decide +kernel
theorem dX4_findMeetings_67 : decode cX4_findMeetings 67 = .ok (.goto (-19), 3) := by decide +kernel
theorem dX4_findMeetings_70 : decode cX4_findMeetings 70 = .ok (.return_, 1) := by decide +kernel
theorem dX4_growMeetings_0 : decode cX4_growMeetings 0 = .ok (.iconst 0, 1) := by decide +kernel
theorem dX4_growMeetings_1 : decode cX4_growMeetings 1 = .ok (.istore_n 1, 1) := by decide +kernel
theorem dX4_growMeetings_2 : decode cX4_growMeetings 2 = .ok (.iconst 4, 1) := by decide +kernel
theorem dX4_growMeetings_3 : decode cX4_growMeetings 3 = .ok (.istore_n 2, 1) := by decide +kernel
theorem dX4_growMeetings_4 : decode cX4_growMeetings 4 = .ok (.iload_n 2, 1) := by decide +kernel
theorem dX4_growMeetings_5 : decode cX4_growMeetings 5 = .ok (.ifCond .lt 110, 3) := by decide +kernel
theorem dX4_growMeetings_8 : decode cX4_growMeetings 8 = .ok (.aload_n 0, 1) := by decide +kernel
theorem dX4_growMeetings_9 : decode cX4_growMeetings 9 = .ok (.getfield 18, 3) := by decide +kernel
theorem dX4_growMeetings_12 : decode cX4_growMeetings 12 = .ok (.iload_n 2, 1) := by decide +kernel
theorem dX4_growMeetings_13 : decode cX4_growMeetings 13 = .ok (.iaload, 1) := by decide +kernel
theorem dX4_growMeetings_14 : decode cX4_growMeetings 14 = .ok (.istore_n 3, 1) := by decide +kernel
theorem dX4_growMeetings_15 : decode cX4_growMeetings 15 = .ok (.aload_n 0, 1) := by decide +kernel
theorem dX4_growMeetings_16 : decode cX4_growMeetings 16 = .ok (.getfield 18, 3) := by decide +kernel
theorem dX4_growMeetings_19 : decode cX4_growMeetings 19 = .ok (.iload_n 2, 1) := by decide +kernel
theorem dX4_growMeetings_20 : decode cX4_growMeetings 20 = .ok (.iconst 1, 1) := by decide +kernel
theorem dX4_growMeetings_21 : decode cX4_growMeetings 21 = .ok (.iadd, 1) := by decide +kernel
theorem dX4_growMeetings_22 : decode cX4_growMeetings 22 = .ok (.invokestatic 44, 3) := by decide +kernel
theorem dX4_growMeetings_25 : decode cX4_growMeetings 25 = .ok (.iaload, 1) := by decide +kernel
theorem dX4_growMeetings_26 : decode cX4_growMeetings 26 = .ok (.istore 4, 2) := by decide +kernel
theorem dX4_growMeetings_28 : decode cX4_growMeetings 28 = .ok (.iconst 1, 1) := by decide +kernel
theorem dX4_growMeetings_29 : decode cX4_growMeetings 29 = .ok (.istore 5, 2) := by decide +kernel
theorem dX4_growMeetings_31 : decode cX4_growMeetings 31 = .ok (.iload 5, 2) := by decide +kernel
theorem dX4_growMeetings_33 : decode cX4_growMeetings 33 = .ok (.aload_n 0, 1) := by decide +kernel
theorem dX4_growMeetings_34 : decode cX4_growMeetings 34 = .ok (.getfield 21, 3) := by decide +kernel
theorem dX4_growMeetings_37 : decode cX4_growMeetings 37 = .ok (.if_icmp .ge 54, 3) := by decide +kernel
theorem dX4_growMeetings_40 : decode cX4_growMeetings 40 = .ok (.iload 4, 2) := by decide +kernel
theorem dX4_growMeetings_42 : decode cX4_growMeetings 42 = .ok (.aload_n 0, 1) := by decide +kernel
theorem dX4_growMeetings_43 : decode cX4_growMeetings 43 = .ok (.iload_n 2, 1) := by decide +kernel
theorem dX4_growMeetings_44 : decode cX4_growMeetings 44 = .ok (.iconst 0, 1) := by decide +kernel
theorem dX4_growMeetings_45 : decode cX4_growMeetings 45 = .ok (.iload 5, 2) := by decide +kernel
theorem dX4_growMeetings_47 : decode cX4_growMeetings 47 = .ok (.invokevirtual 64, 3) := by decide +kernel
theorem dX4_growMeetings_50 : decode cX4_growMeetings 50 = .ok (.invokestatic 68, 3) := by decide +kernel
theorem dX4_growMeetings_53 : decode cX4_growMeetings 53 = .ok (.ifCond .ne 19, 3) := by decide +kernel
theorem dX4_growMeetings_56 : decode cX4_growMeetings 56 = .ok (.iload 4, 2) := by decide +kernel
theorem dX4_growMeetings_58 : decode cX4_growMeetings 58 = .ok (.aload_n 0, 1) := by decide +kernel
theorem dX4_growMeetings_59 : decode cX4_growMeetings 59 = .ok (.iload_n 2, 1) := by decide +kernel
theorem dX4_growMeetings_60 : decode cX4_growMeetings 60 = .ok (.iconst 1, 1) := by decide +kernel
theorem dX4_growMeetings_61 : decode cX4_growMeetings 61 = .ok (.iload 5, 2) := by decide +kernel
theorem dX4_growMeetings_63 : decode cX4_growMeetings 63 = .ok (.invokevirtual 64, 3) := by decide +kernel
theorem dX4_growMeetings_66 : decode cX4_growMeetings 66 = .ok (.invokestatic 68, 3) := by decide +kernel
theorem dX4_growMeetings_69 : decode cX4_growMeetings 69 = .ok (.ifCond .eq 16, 3) := by decide +kernel
theorem dX4_growMeetings_72 : decode cX4_growMeetings 72 = .ok (.aload_n 0, 1) := by decide +kernel
theorem dX4_growMeetings_73 : decode cX4_growMeetings 73 = .ok (.getfield 18, 3) := by decide +kernel
theorem dX4_growMeetings_76 : decode cX4_growMeetings 76 = .ok (.iload_n 2, 1) := by decide +kernel
theorem dX4_growMeetings_77 : decode cX4_growMeetings 77 = .ok (.dup2, 1) := by decide +kernel
theorem dX4_growMeetings_78 : decode cX4_growMeetings 78 = .ok (.iaload, 1) := by decide +kernel
theorem dX4_growMeetings_79 : decode cX4_growMeetings 79 = .ok (.iconst 1, 1) := by decide +kernel
theorem dX4_growMeetings_80 : decode cX4_growMeetings 80 = .ok (.iload 5, 2) := by decide +kernel
theorem dX4_growMeetings_82 : decode cX4_growMeetings 82 = .ok (.ishl, 1) := by decide +kernel
theorem dX4_growMeetings_83 : decode cX4_growMeetings 83 = .ok (.ior, 1) := by decide +kernel
theorem dX4_growMeetings_84 : decode cX4_growMeetings 84 = .ok (.iastore, 1) := by decide +kernel
theorem dX4_growMeetings_85 : decode cX4_growMeetings 85 = .ok (.iinc 5 1, 3) := by decide +kernel
theorem dX4_growMeetings_88 : decode cX4_growMeetings 88 = .ok (.goto (-57), 3) := by decide +kernel
theorem dX4_growMeetings_91 : decode cX4_growMeetings 91 = .ok (.iload_n 1, 1) := by decide +kernel
theorem dX4_growMeetings_92 : decode cX4_growMeetings 92 = .ok (.aload_n 0, 1) := by decide +kernel
theorem dX4_growMeetings_93 : decode cX4_growMeetings 93 = .ok (.getfield 18, 3) := by decide +kernel
theorem dX4_growMeetings_96 : decode cX4_growMeetings 96 = .ok (.iload_n 2, 1) := by decide +kernel
theorem dX4_growMeetings_97 : decode cX4_growMeetings 97 = .ok (.iaload, 1) := by decide +kernel
theorem dX4_growMeetings_98 : decode cX4_growMeetings 98 = .ok (.iload_n 3, 1) := by decide +kernel
theorem dX4_growMeetings_99 : decode cX4_growMeetings 99 = .ok (.if_icmp .eq 7, 3) := by decide +kernel
theorem dX4_growMeetings_102 : decode cX4_growMeetings 102 = .ok (.iconst 1, 1) := by decide +kernel
theorem dX4_growMeetings_103 : decode cX4_growMeetings 103 = .ok (.goto 4, 3) := by decide +kernel
theorem dX4_growMeetings_106 : decode cX4_growMeetings 106 = .ok (.iconst 0, 1) := by decide +kernel
theorem dX4_growMeetings_107 : decode cX4_growMeetings 107 = .ok (.ior, 1) := by decide +kernel
theorem dX4_growMeetings_108 : decode cX4_growMeetings 108 = .ok (.istore_n 1, 1) := by decide +kernel
theorem dX4_growMeetings_109 : decode cX4_growMeetings 109 = .ok (.iinc 2 (-1), 3) := by decide +kernel
theorem dX4_growMeetings_112 : decode cX4_growMeetings 112 = .ok (.goto (-108), 3) := by decide +kernel
theorem dX4_growMeetings_115 : decode cX4_growMeetings 115 = .ok (.iload_n 1, 1) := by decide +kernel
theorem dX4_growMeetings_116 : decode cX4_growMeetings 116 = .ok (.ireturn, 1) := by decide +kernel
theorem dX4_canMeet_0 : decode cX4_canMeet 0 = .ok (.aload_n 0, 1) := by decide +kernel
theorem dX4_canMeet_1 : decode cX4_canMeet 1 = .ok (.getfield 18, 3) := by decide +kernel
theorem dX4_canMeet_4 : decode cX4_canMeet 4 = .ok (.iconst 0, 1) := by decide +kernel
theorem dX4_canMeet_5 : decode cX4_canMeet 5 = .ok (.iaload, 1) := by decide +kernel
theorem dX4_canMeet_6 : decode cX4_canMeet 6 = .ok (.iconst 1, 1) := by decide +kernel
theorem dX4_canMeet_7 : decode cX4_canMeet 7 = .ok (.iload_n 1, 1) := by decide +kernel
theorem dX4_canMeet_8 : decode cX4_canMeet 8 = .ok (.ishl, 1) := by decide +kernel
theorem dX4_canMeet_9 : decode cX4_canMeet 9 = .ok (.iconst 1, 1) := by decide +kernel
theorem dX4_canMeet_10 : decode cX4_canMeet 10 = .ok (.iload_n 2, 1) := by decide +kernel
theorem dX4_canMeet_11 : decode cX4_canMeet 11 = .ok (.ishl, 1) := by decide +kernel
theorem dX4_canMeet_12 : decode cX4_canMeet 12 = .ok (.ior, 1) := by decide +kernel
theorem dX4_canMeet_13 : decode cX4_canMeet 13 = .ok (.invokestatic 68, 3) := by decide +kernel
theorem dX4_canMeet_16 : decode cX4_canMeet 16 = .ok (.ireturn, 1) := by decide +kernel
theorem dX5_init_0 : decode cX5_init 0 = .ok (.aload_n 0, 1) := by decide +kernel
theorem dX5_init_1 : decode cX5_init 1 = .ok (.invokespecial 1, 3) := by decide +kernel
theorem dX5_init_4 : decode cX5_init 4 = .ok (.aload_n 0, 1) := by decide +kernel
theorem dX5_init_5 : decode cX5_init 5 = .ok (.iload_n 1, 1) := by decide +kernel
theorem dX5_init_6 : decode cX5_init 6 = .ok (.putfield 7, 3) := by decide +kernel
theorem dX5_init_9 : decode cX5_init 9 = .ok (.aload_n 0, 1) := by decide +kernel
theorem dX5_init_10 : decode cX5_init 10 = .ok (.iload_n 2, 1) := by decide +kernel
theorem dX5_init_11 : decode cX5_init 11 = .ok (.putfield 13, 3) := by decide +kernel
theorem dX5_init_14 : decode cX5_init 14 = .ok (.aload_n 0, 1) := by decide +kernel
theorem dX5_init_15 : decode cX5_init 15 = .ok (.iload_n 3, 1) := by decide +kernel
theorem dX5_init_16 : decode cX5_init 16 = .ok (.putfield 16, 3) := by decide +kernel
theorem dX5_init_19 : decode cX5_init 19 = .ok (.return_, 1) := by decide +kernel
theorem dX5_next_0 : decode cX5_next 0 = .ok (.aload_n 0, 1) := by decide +kernel
theorem dX5_next_1 : decode cX5_next 1 = .ok (.iload_n 1, 1) := by decide +kernel
theorem dX5_next_2 : decode cX5_next 2 = .ok (.iload_n 2, 1) := by decide +kernel
theorem dX5_next_3 : decode cX5_next 3 = .ok (.iload_n 3, 1) := by decide +kernel
theorem dX5_next_4 : decode cX5_next 4 = .ok (.iload 4, 2) := by decide +kernel
theorem dX5_next_6 : decode cX5_next 6 = .ok (.invokevirtual 19, 3) := by decide +kernel
theorem dX5_next_9 : decode cX5_next 9 = .ok (.ireturn, 1) := by decide +kernel
theorem dX5_byRows_0 : decode cX5_byRows 0 = .ok (.aload_n 0, 1) := by decide +kernel
theorem dX5_byRows_1 : decode cX5_byRows 1 = .ok (.iload_n 2, 1) := by decide +kernel
theorem dX5_byRows_2 : decode cX5_byRows 2 = .ok (.iload_n 3, 1) := by decide +kernel
theorem dX5_byRows_3 : decode cX5_byRows 3 = .ok (.invokevirtual 23, 3) := by decide +kernel
theorem dX5_byRows_6 : decode cX5_byRows 6 = .ok (.iconst 3, 1) := by decide +kernel
theorem dX5_byRows_7 : decode cX5_byRows 7 = .ok (.iload_n 1, 1) := by decide +kernel
theorem dX5_byRows_8 : decode cX5_byRows 8 = .ok (.imul, 1) := by decide +kernel
theorem dX5_byRows_9 : decode cX5_byRows 9 = .ok (.ishr, 1) := by decide +kernel
theorem dX5_byRows_10 : decode cX5_byRows 10 = .ok (.bipush 7, 2) := by decide +kernel
theorem dX5_byRows_12 : decode cX5_byRows 12 = .ok (.iand, 1) := by decide +kernel
theorem dX5_byRows_13 : decode cX5_byRows 13 = .ok (.istore 5, 2) := by decide +kernel
theorem dX5_byRows_15 : decode cX5_byRows 15 = .ok (.iload 4, 2) := by decide +kernel
theorem dX5_byRows_17 : decode cX5_byRows 17 = .ok (.iload 5, 2) := by decide +kernel
theorem dX5_byRows_19 : decode cX5_byRows 19 = .ok (.invokestatic 27, 3) := by decide +kernel
theorem dX5_byRows_22 : decode cX5_byRows 22 = .ok (.ifCond .eq 7, 3) := by decide +kernel
theorem dX5_byRows_25 : decode cX5_byRows 25 = .ok (.iload_n 1, 1) := by decide +kernel
theorem dX5_byRows_26 : decode cX5_byRows 26 = .ok (.goto 5, 3) := by decide +kernel
theorem dX5_byRows_29 : decode cX5_byRows 29 = .ok (.iload 5, 2) := by decide +kernel
theorem dX5_byRows_31 : decode cX5_byRows 31 = .ok (.ireturn, 1) := by decide +kernel
theorem dX5_rowFor_0 : decode cX5_rowFor 0 = .ok (.iload_n 1, 1) := by decide +kernel
theorem dX5_rowFor_1 : decode cX5_rowFor 1 = .ok (.ifCond .ne 10, 3) := by decide +kernel
theorem dX5_rowFor_4 : decode cX5_rowFor 4 = .ok (.aload_n 0, 1) := by decide +kernel
theorem dX5_rowFor_5 : decode cX5_rowFor 5 = .ok (.getfield 13, 3) := by decide +kernel
theorem dX5_rowFor_8 : decode cX5_rowFor 8 = .ok (.goto 7, 3) := by decide +kernel
theorem dX5_rowFor_11 : decode cX5_rowFor 11 = .ok (.aload_n 0, 1) := by decide +kernel
theorem dX5_rowFor_12 : decode cX5_rowFor 12 = .ok (.getfield 16, 3) := by decide +kernel
theorem dX5_rowFor_15 : decode cX5_rowFor 15 = .ok (.ireturn, 1) := by decide +kernel
theorem dX5_heedsOdd_0 : decode cX5_heedsOdd 0 = .ok (.iconst 0, 1) := by decide +kernel
theorem dX5_heedsOdd_1 : decode cX5_heedsOdd 1 = .ok (.ireturn, 1) := by decide +kernel
theorem dX5_behind_0 : decode cX5_behind 0 = .ok (.iload_n 1, 1) := by decide +kernel
theorem dX5_behind_1 : decode cX5_behind 1 = .ok (.istore 5, 2) := by decide +kernel
theorem dX5_behind_3 : decode cX5_behind 3 = .ok (.iconst 0, 1) := by decide +kernel
theorem dX5_behind_4 : decode cX5_behind 4 = .ok (.istore 6, 2) := by decide +kernel
theorem dX5_behind_6 : decode cX5_behind 6 = .ok (.iload 6, 2) := by decide +kernel
theorem dX5_behind_8 : decode cX5_behind 8 = .ok (.iload_n 3, 1) := by decide +kernel
theorem dX5_behind_9 : decode cX5_behind 9 = .ok (.if_icmp .ge 27, 3) := by decide +kernel
theorem dX5_behind_12 : decode cX5_behind 12 = .ok (.aload_n 0, 1) := by decide +kernel
theorem dX5_behind_13 : decode cX5_behind 13 = .ok (.iload 5, 2) := by decide +kernel
theorem dX5_behind_15 : decode cX5_behind 15 = .ok (.iload_n 2, 1) := by decide +kernel
theorem dX5_behind_16 : decode cX5_behind 16 = .ok (.iload 6, 2) := by decide +kernel
theorem dX5_behind_18 : decode cX5_behind 18 = .ok (.ishr, 1) := by decide +kernel
theorem dX5_behind_19 : decode cX5_behind 19 = .ok (.iconst 1, 1) := by decide +kernel
theorem dX5_behind_20 : decode cX5_behind 20 = .ok (.iand, 1) := by decide +kernel
theorem dX5_behind_21 : decode cX5_behind 21 = .ok (.iload 6, 2) := by decide +kernel
theorem dX5_behind_23 : decode cX5_behind 23 = .ok (.iload 4, 2) := by decide +kernel
theorem dX5_behind_25 : decode cX5_behind 25 = .ok (.invokevirtual 33, 3) := by decide +kernel
theorem dX5_behind_28 : decode cX5_behind 28 = .ok (.istore 5, 2) := by decide +kernel
theorem dX5_behind_30 : decode cX5_behind 30 = .ok (.iinc 6 1, 3) := by decide +kernel
theorem dX5_behind_33 : decode cX5_behind 33 = .ok (.goto (-27), 3) := by decide +kernel
theorem dX5_behind_36 : decode cX5_behind 36 = .ok (.iload 5, 2) := by decide +kernel
theorem dX5_behind_38 : decode cX5_behind 38 = .ok (.ireturn, 1) := by decide +kernel
theorem dX5_digested_0 : decode cX5_digested 0 = .ok (.aload_n 0, 1) := by decide +kernel
theorem dX5_digested_1 : decode cX5_digested 1 = .ok (.lload_n 1, 1) := by decide +kernel
theorem dX5_digested_2 : decode cX5_digested 2 = .ok (.invokevirtual 36, 3) := by decide +kernel
theorem dX5_digested_5 : decode cX5_digested 5 = .ok (.iconst 0, 1) := by decide +kernel
theorem dX5_digested_6 : decode cX5_digested 6 = .ok (.iconst 0, 1) := by decide +kernel
theorem dX5_digested_7 : decode cX5_digested 7 = .ok (.iconst 0, 1) := by decide +kernel
theorem dX5_digested_8 : decode cX5_digested 8 = .ok (.invokestatic 40, 3) := by decide +kernel
theorem dX5_digested_11 : decode cX5_digested 11 = .ok (.lreturn, 1) := by decide +kernel
theorem dX5_withRows_0 : decode cX5_withRows 0 = .ok (.ldc2_w 44, 3) := by decide +kernel
theorem dX5_withRows_3 : decode cX5_withRows 3 = .ok (.lload_n 1, 1) := by decide +kernel
theorem dX5_withRows_4 : decode cX5_withRows 4 = .ok (.lmul, 1) := by decide +kernel
theorem dX5_withRows_5 : decode cX5_withRows 5 = .ok (.aload_n 0, 1) := by decide +kernel
theorem dX5_withRows_6 : decode cX5_withRows 6 = .ok (.getfield 7, 3) := by decide +kernel
theorem dX5_withRows_9 : decode cX5_withRows 9 = .ok (.i2l, 1) := by decide +kernel
theorem dX5_withRows_10 : decode cX5_withRows 10 = .ok (.ladd, 1) := by decide +kernel
theorem dX5_withRows_11 : decode cX5_withRows 11 = .ok (.lstore_n 3, 1) := by decide +kernel
theorem dX5_withRows_12 : decode cX5_withRows 12 = .ok (.ldc2_w 44, 3) := by decide +kernel
theorem dX5_withRows_15 : decode cX5_withRows 15 = .ok (.lload_n 3, 1) := by decide +kernel
theorem dX5_withRows_16 : decode cX5_withRows 16 = .ok (.lmul, 1) := by decide +kernel
theorem dX5_withRows_17 : decode cX5_withRows 17 = .ok (.aload_n 0, 1) := by decide +kernel
theorem dX5_withRows_18 : decode cX5_withRows 18 = .ok (.getfield 13, 3) := by decide +kernel
theorem dX5_withRows_21 : decode cX5_withRows 21 = .ok (.i2l, 1) := by decide +kernel
theorem dX5_withRows_22 : decode cX5_withRows 22 = .ok (.ladd, 1) := by decide +kernel
theorem dX5_withRows_23 : decode cX5_withRows 23 = .ok (.lstore_n 3, 1) := by decide +kernel
theorem dX5_withRows_24 : decode cX5_withRows 24 = .ok (.ldc2_w 44, 3) := by decide +kernel
theorem dX5_withRows_27 : decode cX5_withRows 27 = .ok (.lload_n 3, 1) := by decide +kernel
theorem dX5_withRows_28 : decode cX5_withRows 28 = .ok (.lmul, 1) := by decide +kernel
theorem dX5_withRows_29 : decode cX5_withRows 29 = .ok (.aload_n 0, 1) := by decide +kernel
theorem dX5_withRows_30 : decode cX5_withRows 30 = .ok (.getfield 16, 3) := by decide +kernel
theorem dX5_withRows_33 : decode cX5_withRows 33 = .ok (.i2l, 1) := by decide +kernel
theorem dX5_withRows_34 : decode cX5_withRows 34 = .ok (.ladd, 1) := by decide +kernel
theorem dX5_withRows_35 : decode cX5_withRows 35 = .ok (.lreturn, 1) := by decide +kernel
theorem dX5_withLearnt_0 : decode cX5_withLearnt 0 = .ok (.ldc2_w 44, 3) := by decide +kernel
theorem dX5_withLearnt_3 : decode cX5_withLearnt 3 = .ok (.lload_n 0, 1) := by decide +kernel
theorem dX5_withLearnt_4 : decode cX5_withLearnt 4 = .ok (.lmul, 1) := by decide +kernel
theorem dX5_withLearnt_5 : decode cX5_withLearnt 5 = .ok (.iload_n 2, 1) := by decide +kernel
theorem dX5_withLearnt_6 : decode cX5_withLearnt 6 = .ok (.i2l, 1) := by decide +kernel
theorem dX5_withLearnt_7 : decode cX5_withLearnt 7 = .ok (.ladd, 1) := by decide +kernel
theorem dX5_withLearnt_8 : decode cX5_withLearnt 8 = .ok (.lstore 5, 2) := by decide +kernel
theorem dX5_withLearnt_10 : decode cX5_withLearnt 10 = .ok (.ldc2_w 44, 3) := by decide +kernel
theorem dX5_withLearnt_13 : decode cX5_withLearnt 13 = .ok (.lload 5, 2) := by decide +kernel
theorem dX5_withLearnt_15 : decode cX5_withLearnt 15 = .ok (.lmul, 1) := by decide +kernel
theorem dX5_withLearnt_16 : decode cX5_withLearnt 16 = .ok (.iload_n 3, 1) := by decide +kernel
theorem dX5_withLearnt_17 : decode cX5_withLearnt 17 = .ok (.i2l, 1) := by decide +kernel
theorem dX5_withLearnt_18 : decode cX5_withLearnt 18 = .ok (.ladd, 1) := by decide +kernel
theorem dX5_withLearnt_19 : decode cX5_withLearnt 19 = .ok (.lstore 5, 2) := by decide +kernel
theorem dX5_withLearnt_21 : decode cX5_withLearnt 21 = .ok (.ldc2_w 44, 3) := by decide +kernel
theorem dX5_withLearnt_24 : decode cX5_withLearnt 24 = .ok (.lload 5, 2) := by decide +kernel
theorem dX5_withLearnt_26 : decode cX5_withLearnt 26 = .ok (.lmul, 1) := by decide +kernel
theorem dX5_withLearnt_27 : decode cX5_withLearnt 27 = .ok (.iload 4, 2) := by decide +kernel
theorem dX5_withLearnt_29 : decode cX5_withLearnt 29 = .ok (.i2l, 1) := by decide +kernel
theorem dX5_withLearnt_30 : decode cX5_withLearnt 30 = .ok (.ladd, 1) := by decide +kernel
theorem dX5_withLearnt_31 : decode cX5_withLearnt 31 = .ok (.lreturn, 1) := by decide +kernel
theorem dX6_init_0 : decode cX6_init 0 = .ok (.aload_n 0, 1) := by decide +kernel
theorem dX6_init_1 : decode cX6_init 1 = .ok (.iload_n 1, 1) := by decide +kernel
theorem dX6_init_2 : decode cX6_init 2 = .ok (.iload_n 2, 1) := by decide +kernel
theorem dX6_init_3 : decode cX6_init 3 = .ok (.iload_n 3, 1) := by decide +kernel
theorem dX6_init_4 : decode cX6_init 4 = .ok (.invokespecial 1, 3) := by decide +kernel
theorem dX6_init_7 : decode cX6_init 7 = .ok (.aload_n 0, 1) := by decide +kernel
theorem dX6_init_8 : decode cX6_init 8 = .ok (.iload 4, 2) := by decide +kernel
theorem dX6_init_10 : decode cX6_init 10 = .ok (.putfield 7, 3) := by decide +kernel
theorem dX6_init_13 : decode cX6_init 13 = .ok (.aload_n 0, 1) := by decide +kernel
theorem dX6_init_14 : decode cX6_init 14 = .ok (.iload 5, 2) := by decide +kernel
theorem dX6_init_16 : decode cX6_init 16 = .ok (.putfield 13, 3) := by decide +kernel
theorem dX6_init_19 : decode cX6_init 19 = .ok (.aload_n 0, 1) := by decide +kernel
theorem dX6_init_20 : decode cX6_init 20 = .ok (.iload 6, 2) := by decide +kernel
theorem dX6_init_22 : decode cX6_init 22 = .ok (.putfield 16, 3) := by decide +kernel
theorem dX6_init_25 : decode cX6_init 25 = .ok (.return_, 1) := by decide +kernel
theorem dX6_rowFor_0 : decode cX6_rowFor 0 = .ok (.iload_n 2, 1) := by decide +kernel
theorem dX6_rowFor_1 : decode cX6_rowFor 1 = .ok (.aload_n 0, 1) := by decide +kernel
theorem dX6_rowFor_2 : decode cX6_rowFor 2 = .ok (.getfield 16, 3) := by decide +kernel
theorem dX6_rowFor_5 : decode cX6_rowFor 5 = .ok (.if_icmp .ge 19, 3) := by decide +kernel
theorem dX6_rowFor_8 : decode cX6_rowFor 8 = .ok (.iload_n 1, 1) := by decide +kernel
theorem dX6_rowFor_9 : decode cX6_rowFor 9 = .ok (.ifCond .ne 10, 3) := by decide +kernel
theorem dX6_rowFor_12 : decode cX6_rowFor 12 = .ok (.aload_n 0, 1) := by decide +kernel
theorem dX6_rowFor_13 : decode cX6_rowFor 13 = .ok (.getfield 19, 3) := by decide +kernel
theorem dX6_rowFor_16 : decode cX6_rowFor 16 = .ok (.goto 7, 3) := by decide +kernel
theorem dX6_rowFor_19 : decode cX6_rowFor 19 = .ok (.aload_n 0, 1) := by decide +kernel
theorem dX6_rowFor_20 : decode cX6_rowFor 20 = .ok (.getfield 22, 3) := by decide +kernel
theorem dX6_rowFor_23 : decode cX6_rowFor 23 = .ok (.ireturn, 1) := by decide +kernel
theorem dX6_rowFor_24 : decode cX6_rowFor 24 = .ok (.iload_n 1, 1) := by decide +kernel
theorem dX6_rowFor_25 : decode cX6_rowFor 25 = .ok (.ifCond .ne 10, 3) := by decide +kernel
theorem dX6_rowFor_28 : decode cX6_rowFor 28 = .ok (.aload_n 0, 1) := by decide +kernel
theorem dX6_rowFor_29 : decode cX6_rowFor 29 = .ok (.getfield 7, 3) := by decide +kernel
theorem dX6_rowFor_32 : decode cX6_rowFor 32 = .ok (.goto 7, 3) := by decide +kernel
theorem dX6_rowFor_35 : decode cX6_rowFor 35 = .ok (.aload_n 0, 1) := by decide +kernel
theorem dX6_rowFor_36 : decode cX6_rowFor 36 = .ok (.getfield 13, 3) := by decide +kernel
theorem dX6_rowFor_39 : decode cX6_rowFor 39 = .ok (.ireturn, 1) := by decide +kernel
theorem dX6_digested_0 : decode cX6_digested 0 = .ok (.aload_n 0, 1) := by decide +kernel
theorem dX6_digested_1 : decode cX6_digested 1 = .ok (.lload_n 1, 1) := by decide +kernel
theorem dX6_digested_2 : decode cX6_digested 2 = .ok (.invokevirtual 25, 3) := by decide +kernel
theorem dX6_digested_5 : decode cX6_digested 5 = .ok (.aload_n 0, 1) := by decide +kernel
theorem dX6_digested_6 : decode cX6_digested 6 = .ok (.getfield 7, 3) := by decide +kernel
theorem dX6_digested_9 : decode cX6_digested 9 = .ok (.aload_n 0, 1) := by decide +kernel
theorem dX6_digested_10 : decode cX6_digested 10 = .ok (.getfield 13, 3) := by decide +kernel
theorem dX6_digested_13 : decode cX6_digested 13 = .ok (.aload_n 0, 1) := by decide +kernel
theorem dX6_digested_14 : decode cX6_digested 14 = .ok (.getfield 16, 3) := by decide +kernel
theorem dX6_digested_17 : decode cX6_digested 17 = .ok (.invokestatic 29, 3) := by decide +kernel
theorem dX6_digested_20 : decode cX6_digested 20 = .ok (.lreturn, 1) := by decide +kernel
theorem dX7_init_0 : decode cX7_init 0 = .ok (.aload_n 0, 1) := by decide +kernel
theorem dX7_init_1 : decode cX7_init 1 = .ok (.invokespecial 3, 3) := by decide +kernel
theorem dX7_init_4 : decode cX7_init 4 = .ok (.aload_n 0, 1) := by decide +kernel
theorem dX7_init_5 : decode cX7_init 5 = .ok (.new 9, 3) := by decide +kernel
theorem dX7_init_8 : decode cX7_init 8 = .ok (.dup, 1) := by decide +kernel
theorem dX7_init_9 : decode cX7_init 9 = .ok (.invokespecial 11, 3) := by decide +kernel
theorem dX7_init_12 : decode cX7_init 12 = .ok (.putfield 12, 3) := by decide +kernel
theorem dX7_init_15 : decode cX7_init 15 = .ok (.aload_n 0, 1) := by decide +kernel
theorem dX7_init_16 : decode cX7_init 16 = .ok (.iconst (-1), 1) := by decide +kernel
theorem dX7_init_17 : decode cX7_init 17 = .ok (.putfield 18, 3) := by decide +kernel
theorem dX7_init_20 : decode cX7_init 20 = .ok (.aload_n 0, 1) := by decide +kernel
theorem dX7_init_21 : decode cX7_init 21 = .ok (.iconst 0, 1) := by decide +kernel
theorem dX7_init_22 : decode cX7_init 22 = .ok (.putfield 22, 3) := by decide +kernel
theorem dX7_init_25 : decode cX7_init 25 = .ok (.aload_n 0, 1) := by decide +kernel
theorem dX7_init_26 : decode cX7_init 26 = .ok (.iconst 0, 1) := by decide +kernel
theorem dX7_init_27 : decode cX7_init 27 = .ok (.putfield 25, 3) := by decide +kernel
theorem dX7_init_30 : decode cX7_init 30 = .ok (.aload_n 0, 1) := by decide +kernel
theorem dX7_init_31 : decode cX7_init 31 = .ok (.iconst 0, 1) := by decide +kernel
theorem dX7_init_32 : decode cX7_init 32 = .ok (.putfield 28, 3) := by decide +kernel
theorem dX7_init_35 : decode cX7_init 35 = .ok (.aload_n 0, 1) := by decide +kernel
theorem dX7_init_36 : decode cX7_init 36 = .ok (.aload_n 1, 1) := by decide +kernel
theorem dX7_init_37 : decode cX7_init 37 = .ok (.putfield 31, 3) := by decide +kernel
theorem dX7_init_40 : decode cX7_init 40 = .ok (.aload_n 0, 1) := by decide +kernel
theorem dX7_init_41 : decode cX7_init 41 = .ok (.iload_n 2, 1) := by decide +kernel
theorem dX7_init_42 : decode cX7_init 42 = .ok (.putfield 35, 3) := by decide +kernel
theorem dX7_init_45 : decode cX7_init 45 = .ok (.return_, 1) := by decide +kernel
theorem dX7_readHill_0 : decode cX7_readHill 0 = .ok (.aload_n 0, 1) := by decide +kernel
theorem dX7_readHill_1 : decode cX7_readHill 1 = .ok (.invokevirtual 38, 3) := by decide +kernel
theorem dX7_readHill_4 : decode cX7_readHill 4 = .ok (.aload_n 0, 1) := by decide +kernel
theorem dX7_readHill_5 : decode cX7_readHill 5 = .ok (.ldc 41, 2) := by decide +kernel
theorem dX7_readHill_7 : decode cX7_readHill 7 = .ok (.invokevirtual 43, 3) := by decide +kernel
theorem dX7_readHill_10 : decode cX7_readHill 10 = .ok (.ifCond .ne 8, 3) := by decide +kernel
theorem dX7_readHill_13 : decode cX7_readHill 13 = .ok (.aload_n 0, 1) := by decide +kernel
theorem dX7_readHill_14 : decode cX7_readHill 14 = .ok (.invokevirtual 47, 3) := by decide +kernel
theorem dX7_readHill_17 : decode cX7_readHill 17 = .ok (.return_, 1) := by decide +kernel
theorem dX7_readHill_18 : decode cX7_readHill 18 = .ok (.aload_n 0, 1) := by decide +kernel
theorem dX7_readHill_19 : decode cX7_readHill 19 = .ok (.invokevirtual 38, 3) := by decide +kernel
theorem dX7_readHill_22 : decode cX7_readHill 22 = .ok (.aload_n 0, 1) := by decide +kernel
theorem dX7_readHill_23 : decode cX7_readHill 23 = .ok (.iconst 2, 1) := by decide +kernel
theorem dX7_readHill_24 : decode cX7_readHill 24 = .ok (.iconst 5, 1) := by decide +kernel
theorem dX7_readHill_25 : decode cX7_readHill 25 = .ok (.invokevirtual 50, 3) := by decide +kernel
theorem dX7_readHill_28 : decode cX7_readHill 28 = .ok (.istore_n 1, 1) := by decide +kernel
theorem dX7_readHill_29 : decode cX7_readHill 29 = .ok (.aload_n 0, 1) := by decide +kernel
theorem dX7_readHill_30 : decode cX7_readHill 30 = .ok (.invokevirtual 54, 3) := by decide +kernel
theorem dX7_readHill_33 : decode cX7_readHill 33 = .ok (.aload_n 0, 1) := by decide +kernel
theorem dX7_readHill_34 : decode cX7_readHill 34 = .ok (.getfield 18, 3) := by decide +kernel
theorem dX7_readHill_37 : decode cX7_readHill 37 = .ok (.iconst (-1), 1) := by decide +kernel
theorem dX7_readHill_38 : decode cX7_readHill 38 = .ok (.if_icmp .eq 4, 3) := by decide +kernel
theorem dX7_readHill_41 : decode cX7_readHill 41 = .ok (.return_, 1) := by decide +kernel
theorem dX7_readHill_42 : decode cX7_readHill 42 = .ok (.aload_n 0, 1) := by decide +kernel
theorem dX7_readHill_43 : decode cX7_readHill 43 = .ok (.getfield 12, 3) := by decide +kernel
theorem dX7_readHill_46 : decode cX7_readHill 46 = .ok (.iload_n 1, 1) := by decide +kernel
theorem dX7_readHill_47 : decode cX7_readHill 47 = .ok (.invokevirtual 57, 3) := by decide +kernel
theorem dX7_readHill_50 : decode cX7_readHill 50 = .ok (.iconst 0, 1) := by decide +kernel
theorem dX7_readHill_51 : decode cX7_readHill 51 = .ok (.istore_n 2, 1) := by decide +kernel
theorem dX7_readHill_52 : decode cX7_readHill 52 = .ok (.iload_n 2, 1) := by decide +kernel
theorem dX7_readHill_53 : decode cX7_readHill 53 = .ok (.sipush 200, 3) := by decide +kernel
theorem dX7_readHill_56 : decode cX7_readHill 56 = .ok (.if_icmp .ge 28, 3) := by decide +kernel
theorem dX7_readHill_59 : decode cX7_readHill 59 = .ok (.aload_n 0, 1) := by decide +kernel
theorem dX7_readHill_60 : decode cX7_readHill 60 = .ok (.getfield 22, 3) := by decide +kernel
theorem dX7_readHill_63 : decode cX7_readHill 63 = .ok (.ifCond .eq 21, 3) := by decide +kernel
theorem dX7_readHill_66 : decode cX7_readHill 66 = .ok (.aload_n 0, 1) := by decide +kernel
theorem dX7_readHill_67 : decode cX7_readHill 67 = .ok (.getfield 18, 3) := by decide +kernel
theorem dX7_readHill_70 : decode cX7_readHill 70 = .ok (.iconst (-1), 1) := by decide +kernel
theorem dX7_readHill_71 : decode cX7_readHill 71 = .ok (.if_icmp .ne 13, 3) := by decide +kernel
theorem dX7_readHill_74 : decode cX7_readHill 74 = .ok (.aload_n 0, 1) := by decide +kernel
theorem dX7_readHill_75 : decode cX7_readHill 75 = .ok (.invokevirtual 61, 3) := by decide +kernel
theorem dX7_readHill_78 : decode cX7_readHill 78 = .ok (.iinc 2 1, 3) := by decide +kernel
theorem dX7_readHill_81 : decode cX7_readHill 81 = .ok (.goto (-29), 3) := by decide +kernel
theorem dX7_readHill_84 : decode cX7_readHill 84 = .ok (.return_, 1) := by decide +kernel
theorem dX7_readItem_0 : decode cX7_readItem 0 = .ok (.aload_n 0, 1) := by decide +kernel
theorem dX7_readItem_1 : decode cX7_readItem 1 = .ok (.ldc 64, 2) := by decide +kernel
theorem dX7_readItem_3 : decode cX7_readItem 3 = .ok (.invokevirtual 43, 3) := by decide +kernel
theorem dX7_readItem_6 : decode cX7_readItem 6 = .ok (.ifCond .eq 26, 3) := by decide +kernel
theorem dX7_readItem_9 : decode cX7_readItem 9 = .ok (.aload_n 0, 1) := by decide +kernel
theorem dX7_readItem_10 : decode cX7_readItem 10 = .ok (.invokevirtual 38, 3) := by decide +kernel
theorem dX7_readItem_13 : decode cX7_readItem 13 = .ok (.aload_n 0, 1) := by decide +kernel
theorem dX7_readItem_14 : decode cX7_readItem 14 = .ok (.getfield 12, 3) := by decide +kernel
theorem dX7_readItem_17 : decode cX7_readItem 17 = .ok (.dup, 1) := by decide +kernel
theorem dX7_readItem_18 : decode cX7_readItem 18 = .ok (.getfield 66, 3) := by decide +kernel
theorem dX7_readItem_21 : decode cX7_readItem 21 = .ok (.aload_n 0, 1) := by decide +kernel
theorem dX7_readItem_22 : decode cX7_readItem 22 = .ok (.invokevirtual 69, 3) := by decide +kernel
theorem dX7_readItem_25 : decode cX7_readItem 25 = .ok (.ior, 1) := by decide +kernel
theorem dX7_readItem_26 : decode cX7_readItem 26 = .ok (.putfield 66, 3) := by decide +kernel
theorem dX7_readItem_29 : decode cX7_readItem 29 = .ok (.goto 126, 3) := by decide +kernel
theorem dX7_readItem_32 : decode cX7_readItem 32 = .ok (.aload_n 0, 1) := by decide +kernel
theorem dX7_readItem_33 : decode cX7_readItem 33 = .ok (.ldc 73, 2) := by decide +kernel
theorem dX7_readItem_35 : decode cX7_readItem 35 = .ok (.invokevirtual 43, 3) := by decide +kernel
theorem dX7_readItem_38 : decode cX7_readItem 38 = .ok (.ifCond .eq 31, 3) := by decide +kernel
theorem dX7_readItem_41 : decode cX7_readItem 41 = .ok (.aload_n 0, 1) := by decide +kernel
theorem dX7_readItem_42 : decode cX7_readItem 42 = .ok (.invokevirtual 38, 3) := by decide +kernel
theorem dX7_readItem_45 : decode cX7_readItem 45 = .ok (.aload_n 0, 1) := by decide +kernel
theorem dX7_readItem_46 : decode cX7_readItem 46 = .ok (.getfield 12, 3) := by decide +kernel
theorem dX7_readItem_49 : decode cX7_readItem 49 = .ok (.aload_n 0, 1) := by decide +kernel
theorem dX7_readItem_50 : decode cX7_readItem 50 = .ok (.iconst 0, 1) := by decide +kernel
theorem dX7_readItem_51 : decode cX7_readItem 51 = .ok (.aload_n 0, 1) := by decide +kernel
theorem dX7_readItem_52 : decode cX7_readItem 52 = .ok (.getfield 12, 3) := by decide +kernel
theorem dX7_readItem_55 : decode cX7_readItem 55 = .ok (.getfield 75, 3) := by decide +kernel
theorem dX7_readItem_58 : decode cX7_readItem 58 = .ok (.iconst 1, 1) := by decide +kernel
theorem dX7_readItem_59 : decode cX7_readItem 59 = .ok (.isub, 1) := by decide +kernel
theorem dX7_readItem_60 : decode cX7_readItem 60 = .ok (.invokevirtual 50, 3) := by decide +kernel
theorem dX7_readItem_63 : decode cX7_readItem 63 = .ok (.putfield 78, 3) := by decide +kernel
theorem dX7_readItem_66 : decode cX7_readItem 66 = .ok (.goto 89, 3) := by decide +kernel
theorem dX7_readItem_69 : decode cX7_readItem 69 = .ok (.aload_n 0, 1) := by decide +kernel
theorem dX7_readItem_70 : decode cX7_readItem 70 = .ok (.ldc 80, 2) := by decide +kernel
theorem dX7_readItem_72 : decode cX7_readItem 72 = .ok (.invokevirtual 43, 3) := by decide +kernel
theorem dX7_readItem_75 : decode cX7_readItem 75 = .ok (.ifCond .eq 26, 3) := by decide +kernel
theorem dX7_readItem_78 : decode cX7_readItem 78 = .ok (.aload_n 0, 1) := by decide +kernel
theorem dX7_readItem_79 : decode cX7_readItem 79 = .ok (.invokevirtual 38, 3) := by decide +kernel
theorem dX7_readItem_82 : decode cX7_readItem 82 = .ok (.aload_n 0, 1) := by decide +kernel
theorem dX7_readItem_83 : decode cX7_readItem 83 = .ok (.getfield 12, 3) := by decide +kernel
theorem dX7_readItem_86 : decode cX7_readItem 86 = .ok (.dup, 1) := by decide +kernel
theorem dX7_readItem_87 : decode cX7_readItem 87 = .ok (.getfield 82, 3) := by decide +kernel
theorem dX7_readItem_90 : decode cX7_readItem 90 = .ok (.aload_n 0, 1) := by decide +kernel
theorem dX7_readItem_91 : decode cX7_readItem 91 = .ok (.invokevirtual 69, 3) := by decide +kernel
theorem dX7_readItem_94 : decode cX7_readItem 94 = .ok (.ior, 1) := by decide +kernel
theorem dX7_readItem_95 : decode cX7_readItem 95 = .ok (.putfield 82, 3) := by decide +kernel
theorem dX7_readItem_98 : decode cX7_readItem 98 = .ok (.goto 57, 3) := by decide +kernel
theorem dX7_readItem_101 : decode cX7_readItem 101 = .ok (.aload_n 0, 1) := by decide +kernel
theorem dX7_readItem_102 : decode cX7_readItem 102 = .ok (.ldc 85, 2) := by decide +kernel
theorem dX7_readItem_104 : decode cX7_readItem 104 = .ok (.invokevirtual 43, 3) := by decide +kernel
theorem dX7_readItem_107 : decode cX7_readItem 107 = .ok (.ifCond .eq 14, 3) := by decide +kernel
theorem dX7_readItem_110 : decode cX7_readItem 110 = .ok (.aload_n 0, 1) := by decide +kernel
theorem dX7_readItem_111 : decode cX7_readItem 111 = .ok (.invokevirtual 38, 3) := by decide +kernel
theorem dX7_readItem_114 : decode cX7_readItem 114 = .ok (.aload_n 0, 1) := by decide +kernel
theorem dX7_readItem_115 : decode cX7_readItem 115 = .ok (.invokevirtual 87, 3) := by decide +kernel
theorem dX7_readItem_118 : decode cX7_readItem 118 = .ok (.goto 37, 3) := by decide +kernel
theorem dX7_readItem_121 : decode cX7_readItem 121 = .ok (.aload_n 0, 1) := by decide +kernel
theorem dX7_readItem_122 : decode cX7_readItem 122 = .ok (.ldc 90, 2) := by decide +kernel
theorem dX7_readItem_124 : decode cX7_readItem 124 = .ok (.invokevirtual 43, 3) := by decide +kernel
theorem dX7_readItem_127 : decode cX7_readItem 127 = .ok (.ifCond .eq 24, 3) := by decide +kernel
theorem dX7_readItem_130 : decode cX7_readItem 130 = .ok (.aload_n 0, 1) := by decide +kernel
theorem dX7_readItem_131 : decode cX7_readItem 131 = .ok (.getfield 12, 3) := by decide +kernel
theorem dX7_readItem_134 : decode cX7_readItem 134 = .ok (.invokevirtual 92, 3) := by decide +kernel
theorem dX7_readItem_137 : decode cX7_readItem 137 = .ok (.ifCond .ne 14, 3) := by decide +kernel
theorem dX7_readItem_140 : decode cX7_readItem 140 = .ok (.aload_n 0, 1) := by decide +kernel
theorem dX7_readItem_141 : decode cX7_readItem 141 = .ok (.invokevirtual 38, 3) := by decide +kernel
theorem dX7_readItem_144 : decode cX7_readItem 144 = .ok (.aload_n 0, 1) := by decide +kernel
theorem dX7_readItem_145 : decode cX7_readItem 145 = .ok (.invokevirtual 96, 3) := by decide +kernel
theorem dX7_readItem_148 : decode cX7_readItem 148 = .ok (.goto 7, 3) := by decide +kernel
theorem dX7_readItem_151 : decode cX7_readItem 151 = .ok (.aload_n 0, 1) := by decide +kernel
theorem dX7_readItem_152 : decode cX7_readItem 152 = .ok (.invokevirtual 47, 3) := by decide +kernel
theorem dX7_readItem_155 : decode cX7_readItem 155 = .ok (.aload_n 0, 1) := by decide +kernel
theorem dX7_readItem_156 : decode cX7_readItem 156 = .ok (.invokevirtual 54, 3) := by decide +kernel
theorem dX7_readItem_159 : decode cX7_readItem 159 = .ok (.return_, 1) := by decide +kernel
theorem dX7_readBreath_0 : decode cX7_readBreath 0 = .ok (.aload_n 0, 1) := by decide +kernel
theorem dX7_readBreath_1 : decode cX7_readBreath 1 = .ok (.iconst 0, 1) := by decide +kernel
theorem dX7_readBreath_2 : decode cX7_readBreath 2 = .ok (.iconst 1, 1) := by decide +kernel
theorem dX7_readBreath_3 : decode cX7_readBreath 3 = .ok (.invokevirtual 50, 3) := by decide +kernel
theorem dX7_readBreath_6 : decode cX7_readBreath 6 = .ok (.istore_n 1, 1) := by decide +kernel
theorem dX7_readBreath_7 : decode cX7_readBreath 7 = .ok (.aload_n 0, 1) := by decide +kernel
theorem dX7_readBreath_8 : decode cX7_readBreath 8 = .ok (.iconst 1, 1) := by decide +kernel
theorem dX7_readBreath_9 : decode cX7_readBreath 9 = .ok (.bipush 9, 2) := by decide +kernel
theorem dX7_readBreath_11 : decode cX7_readBreath 11 = .ok (.invokevirtual 50, 3) := by decide +kernel
theorem dX7_readBreath_14 : decode cX7_readBreath 14 = .ok (.istore_n 2, 1) := by decide +kernel
theorem dX7_readBreath_15 : decode cX7_readBreath 15 = .ok (.iload_n 1, 1) := by decide +kernel
theorem dX7_readBreath_16 : decode cX7_readBreath 16 = .ok (.ifCond .ne 14, 3) := by decide +kernel
theorem dX7_readBreath_19 : decode cX7_readBreath 19 = .ok (.aload_n 0, 1) := by decide +kernel
theorem dX7_readBreath_20 : decode cX7_readBreath 20 = .ok (.getfield 12, 3) := by decide +kernel
theorem dX7_readBreath_23 : decode cX7_readBreath 23 = .ok (.iload_n 2, 1) := by decide +kernel
theorem dX7_readBreath_24 : decode cX7_readBreath 24 = .ok (.putfield 99, 3) := by decide +kernel
theorem dX7_readBreath_27 : decode cX7_readBreath 27 = .ok (.goto 11, 3) := by decide +kernel
theorem dX7_readBreath_30 : decode cX7_readBreath 30 = .ok (.aload_n 0, 1) := by decide +kernel
theorem dX7_readBreath_31 : decode cX7_readBreath 31 = .ok (.getfield 12, 3) := by decide +kernel
theorem dX7_readBreath_34 : decode cX7_readBreath 34 = .ok (.iload_n 2, 1) := by decide +kernel
theorem dX7_readBreath_35 : decode cX7_readBreath 35 = .ok (.putfield 102, 3) := by decide +kernel
theorem dX7_readBreath_38 : decode cX7_readBreath 38 = .ok (.return_, 1) := by decide +kernel
theorem dX7_readDog_0 : decode cX7_readDog 0 = .ok (.aload_n 0, 1) := by decide +kernel
theorem dX7_readDog_1 : decode cX7_readDog 1 = .ok (.iconst 0, 1) := by decide +kernel
theorem dX7_readDog_2 : decode cX7_readDog 2 = .ok (.iconst 4, 1) := by decide +kernel
theorem dX7_readDog_3 : decode cX7_readDog 3 = .ok (.invokevirtual 50, 3) := by decide +kernel
theorem dX7_readDog_6 : decode cX7_readDog 6 = .ok (.istore_n 1, 1) := by decide +kernel
theorem dX7_readDog_7 : decode cX7_readDog 7 = .ok (.aload_n 0, 1) := by decide +kernel
theorem dX7_readDog_8 : decode cX7_readDog 8 = .ok (.invokevirtual 105, 3) := by decide +kernel
theorem dX7_readDog_11 : decode cX7_readDog 11 = .ok (.istore_n 2, 1) := by decide +kernel
theorem dX7_readDog_12 : decode cX7_readDog 12 = .ok (.aload_n 0, 1) := by decide +kernel
theorem dX7_readDog_13 : decode cX7_readDog 13 = .ok (.invokevirtual 105, 3) := by decide +kernel
theorem dX7_readDog_16 : decode cX7_readDog 16 = .ok (.istore_n 3, 1) := by decide +kernel
theorem dX7_readDog_17 : decode cX7_readDog 17 = .ok (.iload_n 1, 1) := by decide +kernel
theorem dX7_readDog_18 : decode cX7_readDog 18 = .ok (.invokestatic 108, 3) := by decide +kernel
theorem dX7_readDog_21 : decode cX7_readDog 21 = .ok (.ifCond .eq 18, 3) := by decide +kernel
theorem dX7_readDog_24 : decode cX7_readDog 24 = .ok (.aload_n 0, 1) := by decide +kernel
theorem dX7_readDog_25 : decode cX7_readDog 25 = .ok (.getfield 12, 3) := by decide +kernel
theorem dX7_readDog_28 : decode cX7_readDog 28 = .ok (.iload_n 1, 1) := by decide +kernel
theorem dX7_readDog_29 : decode cX7_readDog 29 = .ok (.iload_n 2, 1) := by decide +kernel
theorem dX7_readDog_30 : decode cX7_readDog 30 = .ok (.iload_n 3, 1) := by decide +kernel
theorem dX7_readDog_31 : decode cX7_readDog 31 = .ok (.invokestatic 112, 3) := by decide +kernel
theorem dX7_readDog_34 : decode cX7_readDog 34 = .ok (.invokevirtual 116, 3) := by decide +kernel
theorem dX7_readDog_37 : decode cX7_readDog 37 = .ok (.pop, 1) := by decide +kernel
theorem dX7_readDog_38 : decode cX7_readDog 38 = .ok (.return_, 1) := by decide +kernel
theorem dX7_readDog_39 : decode cX7_readDog 39 = .ok (.aload_n 0, 1) := by decide +kernel
theorem dX7_readDog_40 : decode cX7_readDog 40 = .ok (.invokevirtual 105, 3) := by decide +kernel
theorem dX7_readDog_43 : decode cX7_readDog 43 = .ok (.istore 4, 2) := by decide +kernel
theorem dX7_readDog_45 : decode cX7_readDog 45 = .ok (.aload_n 0, 1) := by decide +kernel
theorem dX7_readDog_46 : decode cX7_readDog 46 = .ok (.invokevirtual 105, 3) := by decide +kernel
theorem dX7_readDog_49 : decode cX7_readDog 49 = .ok (.istore 5, 2) := by decide +kernel
theorem dX7_readDog_51 : decode cX7_readDog 51 = .ok (.aload_n 0, 1) := by decide +kernel
theorem dX7_readDog_52 : decode cX7_readDog 52 = .ok (.iconst 1, 1) := by decide +kernel
theorem dX7_readDog_53 : decode cX7_readDog 53 = .ok (.iconst 3, 1) := by decide +kernel
theorem dX7_readDog_54 : decode cX7_readDog 54 = .ok (.invokevirtual 50, 3) := by decide +kernel
theorem dX7_readDog_57 : decode cX7_readDog 57 = .ok (.istore 6, 2) := by decide +kernel
theorem dX7_readDog_59 : decode cX7_readDog 59 = .ok (.aload_n 0, 1) := by decide +kernel
theorem dX7_readDog_60 : decode cX7_readDog 60 = .ok (.getfield 12, 3) := by decide +kernel
theorem dX7_readDog_63 : decode cX7_readDog 63 = .ok (.iload_n 1, 1) := by decide +kernel
theorem dX7_readDog_64 : decode cX7_readDog 64 = .ok (.iload_n 2, 1) := by decide +kernel
theorem dX7_readDog_65 : decode cX7_readDog 65 = .ok (.iload_n 3, 1) := by decide +kernel
theorem dX7_readDog_66 : decode cX7_readDog 66 = .ok (.iload 4, 2) := by decide +kernel
theorem dX7_readDog_68 : decode cX7_readDog 68 = .ok (.iload 5, 2) := by decide +kernel
theorem dX7_readDog_70 : decode cX7_readDog 70 = .ok (.iload 6, 2) := by decide +kernel
theorem dX7_readDog_72 : decode cX7_readDog 72 = .ok (.invokestatic 120, 3) := by decide +kernel
theorem dX7_readDog_75 : decode cX7_readDog 75 = .ok (.invokevirtual 116, 3) := by decide +kernel
theorem dX7_readDog_78 : decode cX7_readDog 78 = .ok (.pop, 1) := by decide +kernel
theorem dX7_readDog_79 : decode cX7_readDog 79 = .ok (.return_, 1) := by decide +kernel
theorem dX7_takeNumber_0 : decode cX7_takeNumber 0 = .ok (.aload_n 0, 1) := by decide +kernel
theorem dX7_takeNumber_1 : decode cX7_takeNumber 1 = .ok (.getfield 22, 3) := by decide +kernel
theorem dX7_takeNumber_4 : decode cX7_takeNumber 4 = .ok (.iconst 2, 1) := by decide +kernel
theorem dX7_takeNumber_5 : decode cX7_takeNumber 5 = .ok (.if_icmp .ne 16, 3) := by decide +kernel
theorem dX7_takeNumber_8 : decode cX7_takeNumber 8 = .ok (.aload_n 0, 1) := by decide +kernel
theorem dX7_takeNumber_9 : decode cX7_takeNumber 9 = .ok (.getfield 28, 3) := by decide +kernel
theorem dX7_takeNumber_12 : decode cX7_takeNumber 12 = .ok (.aload_n 0, 1) := by decide +kernel
theorem dX7_takeNumber_13 : decode cX7_takeNumber 13 = .ok (.getfield 25, 3) := by decide +kernel
theorem dX7_takeNumber_16 : decode cX7_takeNumber 16 = .ok (.isub, 1) := by decide +kernel
theorem dX7_takeNumber_17 : decode cX7_takeNumber 17 = .ok (.iconst 1, 1) := by decide +kernel
theorem dX7_takeNumber_18 : decode cX7_takeNumber 18 = .ok (.if_icmp .eq 9, 3) := by decide +kernel
theorem dX7_takeNumber_21 : decode cX7_takeNumber 21 = .ok (.aload_n 0, 1) := by decide +kernel
theorem dX7_takeNumber_22 : decode cX7_takeNumber 22 = .ok (.invokevirtual 47, 3) := by decide +kernel
theorem dX7_takeNumber_25 : decode cX7_takeNumber 25 = .ok (.iload_n 1, 1) := by decide +kernel
theorem dX7_takeNumber_26 : decode cX7_takeNumber 26 = .ok (.ireturn, 1) := by decide +kernel
theorem dX7_takeNumber_27 : decode cX7_takeNumber 27 = .ok (.aload_n 0, 1) := by decide +kernel
theorem dX7_takeNumber_28 : decode cX7_takeNumber 28 = .ok (.aload_n 0, 1) := by decide +kernel
theorem dX7_takeNumber_29 : decode cX7_takeNumber 29 = .ok (.getfield 25, 3) := by decide +kernel
theorem dX7_takeNumber_32 : decode cX7_takeNumber 32 = .ok (.invokevirtual 124, 3) := by decide +kernel
theorem dX7_takeNumber_35 : decode cX7_takeNumber 35 = .ok (.bipush 48, 2) := by decide +kernel
theorem dX7_takeNumber_37 : decode cX7_takeNumber 37 = .ok (.isub, 1) := by decide +kernel
theorem dX7_takeNumber_38 : decode cX7_takeNumber 38 = .ok (.istore_n 3, 1) := by decide +kernel
theorem dX7_takeNumber_39 : decode cX7_takeNumber 39 = .ok (.iload_n 3, 1) := by decide +kernel
theorem dX7_takeNumber_40 : decode cX7_takeNumber 40 = .ok (.iload_n 1, 1) := by decide +kernel
theorem dX7_takeNumber_41 : decode cX7_takeNumber 41 = .ok (.if_icmp .lt 8, 3) := by decide +kernel
theorem dX7_takeNumber_44 : decode cX7_takeNumber 44 = .ok (.iload_n 3, 1) := by decide +kernel
theorem dX7_takeNumber_45 : decode cX7_takeNumber 45 = .ok (.iload_n 2, 1) := by decide +kernel
theorem dX7_takeNumber_46 : decode cX7_takeNumber 46 = .ok (.if_icmp .le 9, 3) := by decide +kernel
theorem dX7_takeNumber_49 : decode cX7_takeNumber 49 = .ok (.aload_n 0, 1) := by decide +kernel
theorem dX7_takeNumber_50 : decode cX7_takeNumber 50 = .ok (.invokevirtual 47, 3) := by decide +kernel
theorem dX7_takeNumber_53 : decode cX7_takeNumber 53 = .ok (.iload_n 1, 1) := by decide +kernel
theorem dX7_takeNumber_54 : decode cX7_takeNumber 54 = .ok (.ireturn, 1) := by decide +kernel
theorem dX7_takeNumber_55 : decode cX7_takeNumber 55 = .ok (.aload_n 0, 1) := by decide +kernel
theorem dX7_takeNumber_56 : decode cX7_takeNumber 56 = .ok (.invokevirtual 38, 3) := by decide +kernel
theorem dX7_takeNumber_59 : decode cX7_takeNumber 59 = .ok (.iload_n 3, 1) := by decide +kernel
theorem dX7_takeNumber_60 : decode cX7_takeNumber 60 = .ok (.ireturn, 1) := by decide +kernel
theorem dX7_takePlaceBit_0 : decode cX7_takePlaceBit 0 = .ok (.iconst 1, 1) := by decide +kernel
theorem dX7_takePlaceBit_1 : decode cX7_takePlaceBit 1 = .ok (.aload_n 0, 1) := by decide +kernel
theorem dX7_takePlaceBit_2 : decode cX7_takePlaceBit 2 = .ok (.iconst 0, 1) := by decide +kernel
theorem dX7_takePlaceBit_3 : decode cX7_takePlaceBit 3 = .ok (.aload_n 0, 1) := by decide +kernel
theorem dX7_takePlaceBit_4 : decode cX7_takePlaceBit 4 = .ok (.getfield 12, 3) := by decide +kernel
theorem dX7_takePlaceBit_7 : decode cX7_takePlaceBit 7 = .ok (.getfield 75, 3) := by decide +kernel
theorem dX7_takePlaceBit_10 : decode cX7_takePlaceBit 10 = .ok (.iconst 1, 1) := by decide +kernel
theorem dX7_takePlaceBit_11 : decode cX7_takePlaceBit 11 = .ok (.isub, 1) := by decide +kernel
theorem dX7_takePlaceBit_12 : decode cX7_takePlaceBit 12 = .ok (.invokevirtual 50, 3) := by decide +kernel
theorem dX7_takePlaceBit_15 : decode cX7_takePlaceBit 15 = .ok (.ishl, 1) := by decide +kernel
theorem dX7_takePlaceBit_16 : decode cX7_takePlaceBit 16 = .ok (.ireturn, 1) := by decide +kernel
theorem dX7_takeRow_0 : decode cX7_takeRow 0 = .ok (.aload_n 0, 1) := by decide +kernel
theorem dX7_takeRow_1 : decode cX7_takeRow 1 = .ok (.getfield 22, 3) := by decide +kernel
theorem dX7_takeRow_4 : decode cX7_takeRow 4 = .ok (.iconst 1, 1) := by decide +kernel
theorem dX7_takeRow_5 : decode cX7_takeRow 5 = .ok (.if_icmp .ne 22, 3) := by decide +kernel
theorem dX7_takeRow_8 : decode cX7_takeRow 8 = .ok (.aload_n 0, 1) := by decide +kernel
theorem dX7_takeRow_9 : decode cX7_takeRow 9 = .ok (.getfield 28, 3) := by decide +kernel
theorem dX7_takeRow_12 : decode cX7_takeRow 12 = .ok (.aload_n 0, 1) := by decide +kernel
theorem dX7_takeRow_13 : decode cX7_takeRow 13 = .ok (.getfield 25, 3) := by decide +kernel
theorem dX7_takeRow_16 : decode cX7_takeRow 16 = .ok (.isub, 1) := by decide +kernel
theorem dX7_takeRow_17 : decode cX7_takeRow 17 = .ok (.aload_n 0, 1) := by decide +kernel
theorem dX7_takeRow_18 : decode cX7_takeRow 18 = .ok (.getfield 12, 3) := by decide +kernel
theorem dX7_takeRow_21 : decode cX7_takeRow 21 = .ok (.getfield 75, 3) := by decide +kernel
theorem dX7_takeRow_24 : decode cX7_takeRow 24 = .ok (.if_icmp .eq 9, 3) := by decide +kernel
theorem dX7_takeRow_27 : decode cX7_takeRow 27 = .ok (.aload_n 0, 1) := by decide +kernel
theorem dX7_takeRow_28 : decode cX7_takeRow 28 = .ok (.invokevirtual 47, 3) := by decide +kernel
theorem dX7_takeRow_31 : decode cX7_takeRow 31 = .ok (.iconst 0, 1) := by decide +kernel
theorem dX7_takeRow_32 : decode cX7_takeRow 32 = .ok (.ireturn, 1) := by decide +kernel
theorem dX7_takeRow_33 : decode cX7_takeRow 33 = .ok (.iconst 0, 1) := by decide +kernel
theorem dX7_takeRow_34 : decode cX7_takeRow 34 = .ok (.istore_n 1, 1) := by decide +kernel
theorem dX7_takeRow_35 : decode cX7_takeRow 35 = .ok (.iconst 0, 1) := by decide +kernel
theorem dX7_takeRow_36 : decode cX7_takeRow 36 = .ok (.istore_n 2, 1) := by decide +kernel
theorem dX7_takeRow_37 : decode cX7_takeRow 37 = .ok (.iload_n 2, 1) := by decide +kernel
theorem dX7_takeRow_38 : decode cX7_takeRow 38 = .ok (.aload_n 0, 1) := by decide +kernel
theorem dX7_takeRow_39 : decode cX7_takeRow 39 = .ok (.getfield 12, 3) := by decide +kernel
theorem dX7_takeRow_42 : decode cX7_takeRow 42 = .ok (.getfield 75, 3) := by decide +kernel
theorem dX7_takeRow_45 : decode cX7_takeRow 45 = .ok (.if_icmp .ge 48, 3) := by decide +kernel
theorem dX7_takeRow_48 : decode cX7_takeRow 48 = .ok (.aload_n 0, 1) := by decide +kernel
theorem dX7_takeRow_49 : decode cX7_takeRow 49 = .ok (.aload_n 0, 1) := by decide +kernel
theorem dX7_takeRow_50 : decode cX7_takeRow 50 = .ok (.getfield 25, 3) := by decide +kernel
theorem dX7_takeRow_53 : decode cX7_takeRow 53 = .ok (.iload_n 2, 1) := by decide +kernel
theorem dX7_takeRow_54 : decode cX7_takeRow 54 = .ok (.iadd, 1) := by decide +kernel
theorem dX7_takeRow_55 : decode cX7_takeRow 55 = .ok (.invokevirtual 124, 3) := by decide +kernel
theorem dX7_takeRow_58 : decode cX7_takeRow 58 = .ok (.bipush 97, 2) := by decide +kernel
theorem dX7_takeRow_60 : decode cX7_takeRow 60 = .ok (.isub, 1) := by decide +kernel
theorem dX7_takeRow_61 : decode cX7_takeRow 61 = .ok (.istore_n 3, 1) := by decide +kernel
theorem dX7_takeRow_62 : decode cX7_takeRow 62 = .ok (.aload_n 0, 1) := by decide +kernel
theorem dX7_takeRow_63 : decode cX7_takeRow 63 = .ok (.getfield 12, 3) := by decide +kernel
theorem dX7_takeRow_66 : decode cX7_takeRow 66 = .ok (.iload_n 3, 1) := by decide +kernel
theorem dX7_takeRow_67 : decode cX7_takeRow 67 = .ok (.invokevirtual 128, 3) := by decide +kernel
theorem dX7_takeRow_70 : decode cX7_takeRow 70 = .ok (.ifCond .ne 9, 3) := by decide +kernel
theorem dX7_takeRow_73 : decode cX7_takeRow 73 = .ok (.aload_n 0, 1) := by decide +kernel
theorem dX7_takeRow_74 : decode cX7_takeRow 74 = .ok (.invokevirtual 47, 3) := by decide +kernel
theorem dX7_takeRow_77 : decode cX7_takeRow 77 = .ok (.iconst 0, 1) := by decide +kernel
theorem dX7_takeRow_78 : decode cX7_takeRow 78 = .ok (.ireturn, 1) := by decide +kernel
theorem dX7_takeRow_79 : decode cX7_takeRow 79 = .ok (.iload_n 1, 1) := by decide +kernel
theorem dX7_takeRow_80 : decode cX7_takeRow 80 = .ok (.iload_n 3, 1) := by decide +kernel
theorem dX7_takeRow_81 : decode cX7_takeRow 81 = .ok (.iconst 3, 1) := by decide +kernel
theorem dX7_takeRow_82 : decode cX7_takeRow 82 = .ok (.iload_n 2, 1) := by decide +kernel
theorem dX7_takeRow_83 : decode cX7_takeRow 83 = .ok (.imul, 1) := by decide +kernel
theorem dX7_takeRow_84 : decode cX7_takeRow 84 = .ok (.ishl, 1) := by decide +kernel
theorem dX7_takeRow_85 : decode cX7_takeRow 85 = .ok (.ior, 1) := by decide +kernel
theorem dX7_takeRow_86 : decode cX7_takeRow 86 = .ok (.istore_n 1, 1) := by decide +kernel
theorem dX7_takeRow_87 : decode cX7_takeRow 87 = .ok (.iinc 2 1, 3) := by decide +kernel
theorem dX7_takeRow_90 : decode cX7_takeRow 90 = .ok (.goto (-53), 3) := by decide +kernel
theorem dX7_takeRow_93 : decode cX7_takeRow 93 = .ok (.aload_n 0, 1) := by decide +kernel
theorem dX7_takeRow_94 : decode cX7_takeRow 94 = .ok (.invokevirtual 38, 3) := by decide +kernel
theorem dX7_takeRow_97 : decode cX7_takeRow 97 = .ok (.iload_n 1, 1) := by decide +kernel
theorem dX7_takeRow_98 : decode cX7_takeRow 98 = .ok (.ireturn, 1) := by decide +kernel
theorem dX7_takeMark_0 : decode cX7_takeMark 0 = .ok (.aload_n 0, 1) := by decide +kernel
theorem dX7_takeMark_1 : decode cX7_takeMark 1 = .ok (.getfield 22, 3) := by decide +kernel
theorem dX7_takeMark_4 : decode cX7_takeMark 4 = .ok (.iconst 3, 1) := by decide +kernel
theorem dX7_takeMark_5 : decode cX7_takeMark 5 = .ok (.if_icmp .ne 10, 3) := by decide +kernel
theorem dX7_takeMark_8 : decode cX7_takeMark 8 = .ok (.aload_n 0, 1) := by decide +kernel
theorem dX7_takeMark_9 : decode cX7_takeMark 9 = .ok (.invokevirtual 38, 3) := by decide +kernel
theorem dX7_takeMark_12 : decode cX7_takeMark 12 = .ok (.goto 7, 3) := by decide +kernel
theorem dX7_takeMark_15 : decode cX7_takeMark 15 = .ok (.aload_n 0, 1) := by decide +kernel
theorem dX7_takeMark_16 : decode cX7_takeMark 16 = .ok (.invokevirtual 47, 3) := by decide +kernel
theorem dX7_takeMark_19 : decode cX7_takeMark 19 = .ok (.return_, 1) := by decide +kernel
theorem dX7_fail_0 : decode cX7_fail 0 = .ok (.aload_n 0, 1) := by decide +kernel
theorem dX7_fail_1 : decode cX7_fail 1 = .ok (.getfield 18, 3) := by decide +kernel
theorem dX7_fail_4 : decode cX7_fail 4 = .ok (.iconst (-1), 1) := by decide +kernel
theorem dX7_fail_5 : decode cX7_fail 5 = .ok (.if_icmp .ne 11, 3) := by decide +kernel
theorem dX7_fail_8 : decode cX7_fail 8 = .ok (.aload_n 0, 1) := by decide +kernel
theorem dX7_fail_9 : decode cX7_fail 9 = .ok (.aload_n 0, 1) := by decide +kernel
theorem dX7_fail_10 : decode cX7_fail 10 = .ok (.getfield 25, 3) := by decide +kernel
theorem dX7_fail_13 : decode cX7_fail 13 = .ok (.putfield 18, 3) := by decide +kernel
theorem dX7_fail_16 : decode cX7_fail 16 = .ok (.return_, 1) := by decide +kernel
theorem dX7_isWord_0 : decode cX7_isWord 0 = .ok (.aload_n 0, 1) := by decide +kernel
theorem dX7_isWord_1 : decode cX7_isWord 1 = .ok (.getfield 22, 3) := by decide +kernel
theorem dX7_isWord_4 : decode cX7_isWord 4 = .ok (.iconst 1, 1) := by decide +kernel
theorem dX7_isWord_5 : decode cX7_isWord 5 = .ok (.if_icmp .ne 19, 3) := by decide +kernel
theorem dX7_isWord_8 : decode cX7_isWord 8 = .ok (.aload_n 0, 1) := by decide +kernel
theorem dX7_isWord_9 : decode cX7_isWord 9 = .ok (.getfield 28, 3) := by decide +kernel
theorem dX7_isWord_12 : decode cX7_isWord 12 = .ok (.aload_n 0, 1) := by decide +kernel
theorem dX7_isWord_13 : decode cX7_isWord 13 = .ok (.getfield 25, 3) := by decide +kernel
theorem dX7_isWord_16 : decode cX7_isWord 16 = .ok (.isub, 1) := by decide +kernel
theorem dX7_isWord_17 : decode cX7_isWord 17 = .ok (.aload_n 1, 1) := by decide +kernel
theorem dX7_isWord_18 : decode cX7_isWord 18 = .ok (.invokevirtual 131, 3) := by decide +kernel
theorem dX7_isWord_21 : decode cX7_isWord 21 = .ok (.if_icmp .eq 5, 3) := by decide +kernel
theorem dX7_isWord_24 : decode cX7_isWord 24 = .ok (.iconst 0, 1) := by decide +kernel
theorem dX7_isWord_25 : decode cX7_isWord 25 = .ok (.ireturn, 1) := by decide +kernel
theorem dX7_isWord_26 : decode cX7_isWord 26 = .ok (.iconst 0, 1) := by decide +kernel
theorem dX7_isWord_27 : decode cX7_isWord 27 = .ok (.istore_n 2, 1) := by decide +kernel
theorem dX7_isWord_28 : decode cX7_isWord 28 = .ok (.iload_n 2, 1) := by decide +kernel
theorem dX7_isWord_29 : decode cX7_isWord 29 = .ok (.aload_n 1, 1) := by decide +kernel
theorem dX7_isWord_30 : decode cX7_isWord 30 = .ok (.invokevirtual 131, 3) := by decide +kernel
theorem dX7_isWord_33 : decode cX7_isWord 33 = .ok (.if_icmp .ge 29, 3) := by decide +kernel
theorem dX7_isWord_36 : decode cX7_isWord 36 = .ok (.aload_n 0, 1) := by decide +kernel
theorem dX7_isWord_37 : decode cX7_isWord 37 = .ok (.aload_n 0, 1) := by decide +kernel
theorem dX7_isWord_38 : decode cX7_isWord 38 = .ok (.getfield 25, 3) := by decide +kernel
theorem dX7_isWord_41 : decode cX7_isWord 41 = .ok (.iload_n 2, 1) := by decide +kernel
theorem dX7_isWord_42 : decode cX7_isWord 42 = .ok (.iadd, 1) := by decide +kernel
theorem dX7_isWord_43 : decode cX7_isWord 43 = .ok (.invokevirtual 124, 3) := by decide +kernel
theorem dX7_isWord_46 : decode cX7_isWord 46 = .ok (.aload_n 1, 1) := by decide +kernel
theorem dX7_isWord_47 : decode cX7_isWord 47 = .ok (.iload_n 2, 1) := by decide +kernel
theorem dX7_isWord_48 : decode cX7_isWord 48 = .ok (.invokevirtual 135, 3) := by decide +kernel
theorem dX7_isWord_51 : decode cX7_isWord 51 = .ok (.if_icmp .eq 5, 3) := by decide +kernel
theorem dX7_isWord_54 : decode cX7_isWord 54 = .ok (.iconst 0, 1) := by decide +kernel
theorem dX7_isWord_55 : decode cX7_isWord 55 = .ok (.ireturn, 1) := by decide +kernel
theorem dX7_isWord_56 : decode cX7_isWord 56 = .ok (.iinc 2 1, 3) := by decide +kernel
theorem dX7_isWord_59 : decode cX7_isWord 59 = .ok (.goto (-31), 3) := by decide +kernel
theorem dX7_isWord_62 : decode cX7_isWord 62 = .ok (.iconst 1, 1) := by decide +kernel
theorem dX7_isWord_63 : decode cX7_isWord 63 = .ok (.ireturn, 1) := by decide +kernel
theorem dX7_advance_0 : decode cX7_advance 0 = .ok (.aload_n 0, 1) := by decide +kernel
theorem dX7_advance_1 : decode cX7_advance 1 = .ok (.getfield 18, 3) := by decide +kernel
theorem dX7_advance_4 : decode cX7_advance 4 = .ok (.iconst (-1), 1) := by decide +kernel
theorem dX7_advance_5 : decode cX7_advance 5 = .ok (.if_icmp .eq 4, 3) := by decide +kernel
theorem dX7_advance_8 : decode cX7_advance 8 = .ok (.return_, 1) := by decide +kernel
theorem dX7_advance_9 : decode cX7_advance 9 = .ok (.aload_n 0, 1) := by decide +kernel
theorem dX7_advance_10 : decode cX7_advance 10 = .ok (.aload_n 0, 1) := by decide +kernel
theorem dX7_advance_11 : decode cX7_advance 11 = .ok (.getfield 28, 3) := by decide +kernel
theorem dX7_advance_14 : decode cX7_advance 14 = .ok (.putfield 25, 3) := by decide +kernel
theorem dX7_advance_17 : decode cX7_advance 17 = .ok (.aload_n 0, 1) := by decide +kernel
theorem dX7_advance_18 : decode cX7_advance 18 = .ok (.getfield 25, 3) := by decide +kernel
theorem dX7_advance_21 : decode cX7_advance 21 = .ok (.aload_n 0, 1) := by decide +kernel
theorem dX7_advance_22 : decode cX7_advance 22 = .ok (.getfield 35, 3) := by decide +kernel
theorem dX7_advance_25 : decode cX7_advance 25 = .ok (.if_icmp .ge 29, 3) := by decide +kernel
theorem dX7_advance_28 : decode cX7_advance 28 = .ok (.aload_n 0, 1) := by decide +kernel
theorem dX7_advance_29 : decode cX7_advance 29 = .ok (.aload_n 0, 1) := by decide +kernel
theorem dX7_advance_30 : decode cX7_advance 30 = .ok (.getfield 25, 3) := by decide +kernel
theorem dX7_advance_33 : decode cX7_advance 33 = .ok (.invokevirtual 124, 3) := by decide +kernel
theorem dX7_advance_36 : decode cX7_advance 36 = .ok (.bipush 32, 2) := by decide +kernel
theorem dX7_advance_38 : decode cX7_advance 38 = .ok (.if_icmp .ne 16, 3) := by decide +kernel
theorem dX7_advance_41 : decode cX7_advance 41 = .ok (.aload_n 0, 1) := by decide +kernel
theorem dX7_advance_42 : decode cX7_advance 42 = .ok (.dup, 1) := by decide +kernel
theorem dX7_advance_43 : decode cX7_advance 43 = .ok (.getfield 25, 3) := by decide +kernel
theorem dX7_advance_46 : decode cX7_advance 46 = .ok (.iconst 1, 1) := by decide +kernel
theorem dX7_advance_47 : decode cX7_advance 47 = .ok (.iadd, 1) := by decide +kernel
theorem dX7_advance_48 : decode cX7_advance 48 = .ok (.putfield 25, 3) := by decide +kernel
theorem dX7_advance_51 : decode cX7_advance 51 = .ok (.goto (-34), 3) := by decide +kernel
theorem dX7_advance_54 : decode cX7_advance 54 = .ok (.aload_n 0, 1) := by decide +kernel
theorem dX7_advance_55 : decode cX7_advance 55 = .ok (.aload_n 0, 1) := by decide +kernel
theorem dX7_advance_56 : decode cX7_advance 56 = .ok (.getfield 25, 3) := by decide +kernel
theorem dX7_advance_59 : decode cX7_advance 59 = .ok (.putfield 28, 3) := by decide +kernel
theorem dX7_advance_62 : decode cX7_advance 62 = .ok (.aload_n 0, 1) := by decide +kernel
theorem dX7_advance_63 : decode cX7_advance 63 = .ok (.aload_n 0, 1) := by decide +kernel
theorem dX7_advance_64 : decode cX7_advance 64 = .ok (.aload_n 0, 1) := by decide +kernel
theorem dX7_advance_65 : decode cX7_advance 65 = .ok (.getfield 25, 3) := by decide +kernel
theorem dX7_advance_68 : decode cX7_advance 68 = .ok (.invokevirtual 124, 3) := by decide +kernel
theorem dX7_advance_71 : decode cX7_advance 71 = .ok (.invokestatic 139, 3) := by decide +kernel
theorem dX7_advance_74 : decode cX7_advance 74 = .ok (.putfield 22, 3) := by decide +kernel
theorem dX7_advance_77 : decode cX7_advance 77 = .ok (.aload_n 0, 1) := by decide +kernel
theorem dX7_advance_78 : decode cX7_advance 78 = .ok (.getfield 22, 3) := by decide +kernel
theorem dX7_advance_81 : decode cX7_advance 81 = .ok (.ifCond .ne 4, 3) := by decide +kernel
theorem dX7_advance_84 : decode cX7_advance 84 = .ok (.return_, 1) := by decide +kernel
theorem dX7_advance_85 : decode cX7_advance 85 = .ok (.aload_n 0, 1) := by decide +kernel
theorem dX7_advance_86 : decode cX7_advance 86 = .ok (.dup, 1) := by decide +kernel
theorem dX7_advance_87 : decode cX7_advance 87 = .ok (.getfield 28, 3) := by decide +kernel
theorem dX7_advance_90 : decode cX7_advance 90 = .ok (.iconst 1, 1) := by decide +kernel
theorem dX7_advance_91 : decode cX7_advance 91 = .ok (.iadd, 1) := by decide +kernel
theorem dX7_advance_92 : decode cX7_advance 92 = .ok (.putfield 28, 3) := by decide +kernel
theorem dX7_advance_95 : decode cX7_advance 95 = .ok (.aload_n 0, 1) := by decide +kernel
theorem dX7_advance_96 : decode cX7_advance 96 = .ok (.getfield 22, 3) := by decide +kernel
theorem dX7_advance_99 : decode cX7_advance 99 = .ok (.iconst 1, 1) := by decide +kernel
theorem dX7_advance_100 : decode cX7_advance 100 = .ok (.if_icmp .eq 11, 3) := by decide +kernel
theorem dX7_advance_103 : decode cX7_advance 103 = .ok (.aload_n 0, 1) := by decide +kernel
theorem dX7_advance_104 : decode cX7_advance 104 = .ok (.getfield 22, 3) := by decide +kernel
theorem dX7_advance_107 : decode cX7_advance 107 = .ok (.iconst 2, 1) := by decide +kernel
theorem dX7_advance_108 : decode cX7_advance 108 = .ok (.if_icmp .ne 45, 3) := by decide +kernel
theorem dX7_advance_111 : decode cX7_advance 111 = .ok (.aload_n 0, 1) := by decide +kernel
theorem dX7_advance_112 : decode cX7_advance 112 = .ok (.getfield 28, 3) := by decide +kernel
theorem dX7_advance_115 : decode cX7_advance 115 = .ok (.aload_n 0, 1) := by decide +kernel
theorem dX7_advance_116 : decode cX7_advance 116 = .ok (.getfield 35, 3) := by decide +kernel
theorem dX7_advance_119 : decode cX7_advance 119 = .ok (.if_icmp .ge 34, 3) := by decide +kernel
theorem dX7_advance_122 : decode cX7_advance 122 = .ok (.aload_n 0, 1) := by decide +kernel
theorem dX7_advance_123 : decode cX7_advance 123 = .ok (.aload_n 0, 1) := by decide +kernel
theorem dX7_advance_124 : decode cX7_advance 124 = .ok (.getfield 28, 3) := by decide +kernel
theorem dX7_advance_127 : decode cX7_advance 127 = .ok (.invokevirtual 124, 3) := by decide +kernel
theorem dX7_advance_130 : decode cX7_advance 130 = .ok (.invokestatic 139, 3) := by decide +kernel
theorem dX7_advance_133 : decode cX7_advance 133 = .ok (.aload_n 0, 1) := by decide +kernel
theorem dX7_advance_134 : decode cX7_advance 134 = .ok (.getfield 22, 3) := by decide +kernel
theorem dX7_advance_137 : decode cX7_advance 137 = .ok (.if_icmp .ne 16, 3) := by decide +kernel
theorem dX7_advance_140 : decode cX7_advance 140 = .ok (.aload_n 0, 1) := by decide +kernel
theorem dX7_advance_141 : decode cX7_advance 141 = .ok (.dup, 1) := by decide +kernel
theorem dX7_advance_142 : decode cX7_advance 142 = .ok (.getfield 28, 3) := by decide +kernel
theorem dX7_advance_145 : decode cX7_advance 145 = .ok (.iconst 1, 1) := by decide +kernel
theorem dX7_advance_146 : decode cX7_advance 146 = .ok (.iadd, 1) := by decide +kernel
theorem dX7_advance_147 : decode cX7_advance 147 = .ok (.putfield 28, 3) := by decide +kernel
theorem dX7_advance_150 : decode cX7_advance 150 = .ok (.goto (-39), 3) := by decide +kernel
theorem dX7_advance_153 : decode cX7_advance 153 = .ok (.return_, 1) := by decide +kernel
theorem dX7_kindOf_0 : decode cX7_kindOf 0 = .ok (.iload_n 0, 1) := by decide +kernel
theorem dX7_kindOf_1 : decode cX7_kindOf 1 = .ok (.ifCond .ge 5, 3) := by decide +kernel
theorem dX7_kindOf_4 : decode cX7_kindOf 4 = .ok (.iconst 0, 1) := by decide +kernel
theorem dX7_kindOf_5 : decode cX7_kindOf 5 = .ok (.ireturn, 1) := by decide +kernel
theorem dX7_kindOf_6 : decode cX7_kindOf 6 = .ok (.iload_n 0, 1) := by decide +kernel
theorem dX7_kindOf_7 : decode cX7_kindOf 7 = .ok (.bipush 97, 2) := by decide +kernel
theorem dX7_kindOf_9 : decode cX7_kindOf 9 = .ok (.if_icmp .lt 11, 3) := by decide +kernel
theorem dX7_kindOf_12 : decode cX7_kindOf 12 = .ok (.iload_n 0, 1) := by decide +kernel
theorem dX7_kindOf_13 : decode cX7_kindOf 13 = .ok (.bipush 122, 2) := by decide +kernel
theorem dX7_kindOf_15 : decode cX7_kindOf 15 = .ok (.if_icmp .gt 5, 3) := by decide +kernel
theorem dX7_kindOf_18 : decode cX7_kindOf 18 = .ok (.iconst 1, 1) := by decide +kernel
theorem dX7_kindOf_19 : decode cX7_kindOf 19 = .ok (.ireturn, 1) := by decide +kernel
theorem dX7_kindOf_20 : decode cX7_kindOf 20 = .ok (.iload_n 0, 1) := by decide +kernel
theorem dX7_kindOf_21 : decode cX7_kindOf 21 = .ok (.bipush 48, 2) := by decide +kernel
theorem dX7_kindOf_23 : decode cX7_kindOf 23 = .ok (.if_icmp .lt 11, 3) := by decide +kernel
theorem dX7_kindOf_26 : decode cX7_kindOf 26 = .ok (.iload_n 0, 1) := by decide +kernel
theorem dX7_kindOf_27 : decode cX7_kindOf 27 = .ok (.bipush 57, 2) := by decide +kernel
theorem dX7_kindOf_29 : decode cX7_kindOf 29 = .ok (.if_icmp .gt 5, 3) := by decide +kernel
theorem dX7_kindOf_32 : decode cX7_kindOf 32 = .ok (.iconst 2, 1) := by decide +kernel
theorem dX7_kindOf_33 : decode cX7_kindOf 33 = .ok (.ireturn, 1) := by decide +kernel
theorem dX7_kindOf_34 : decode cX7_kindOf 34 = .ok (.iload_n 0, 1) := by decide +kernel
theorem dX7_kindOf_35 : decode cX7_kindOf 35 = .ok (.bipush 59, 2) := by decide +kernel
theorem dX7_kindOf_37 : decode cX7_kindOf 37 = .ok (.if_icmp .ne 7, 3) := by decide +kernel
theorem dX7_kindOf_40 : decode cX7_kindOf 40 = .ok (.iconst 3, 1) := by decide +kernel
theorem dX7_kindOf_41 : decode cX7_kindOf 41 = .ok (.goto 4, 3) := by decide +kernel
theorem dX7_kindOf_44 : decode cX7_kindOf 44 = .ok (.iconst 4, 1) := by decide +kernel
theorem dX7_kindOf_45 : decode cX7_kindOf 45 = .ok (.ireturn, 1) := by decide +kernel
theorem dX7_byteAt_0 : decode cX7_byteAt 0 = .ok (.iload_n 1, 1) := by decide +kernel
theorem dX7_byteAt_1 : decode cX7_byteAt 1 = .ok (.ifCond .lt 33, 3) := by decide +kernel
theorem dX7_byteAt_4 : decode cX7_byteAt 4 = .ok (.iload_n 1, 1) := by decide +kernel
theorem dX7_byteAt_5 : decode cX7_byteAt 5 = .ok (.aload_n 0, 1) := by decide +kernel
theorem dX7_byteAt_6 : decode cX7_byteAt 6 = .ok (.getfield 35, 3) := by decide +kernel
theorem dX7_byteAt_9 : decode cX7_byteAt 9 = .ok (.if_icmp .ge 25, 3) := by decide +kernel
theorem dX7_byteAt_12 : decode cX7_byteAt 12 = .ok (.iload_n 1, 1) := by decide +kernel
theorem dX7_byteAt_13 : decode cX7_byteAt 13 = .ok (.aload_n 0, 1) := by decide +kernel
theorem dX7_byteAt_14 : decode cX7_byteAt 14 = .ok (.getfield 31, 3) := by decide +kernel
theorem dX7_byteAt_17 : decode cX7_byteAt 17 = .ok (.arraylength, 1) := by decide +kernel
theorem dX7_byteAt_18 : decode cX7_byteAt 18 = .ok (.if_icmp .ge 16, 3) := by decide +kernel
theorem dX7_byteAt_21 : decode cX7_byteAt 21 = .ok (.aload_n 0, 1) := by decide +kernel
theorem dX7_byteAt_22 : decode cX7_byteAt 22 = .ok (.getfield 31, 3) := by decide +kernel
theorem dX7_byteAt_25 : decode cX7_byteAt 25 = .ok (.iload_n 1, 1) := by decide +kernel
theorem dX7_byteAt_26 : decode cX7_byteAt 26 = .ok (.baload, 1) := by decide +kernel
theorem dX7_byteAt_27 : decode cX7_byteAt 27 = .ok (.sipush 255, 3) := by decide +kernel
theorem dX7_byteAt_30 : decode cX7_byteAt 30 = .ok (.iand, 1) := by decide +kernel
theorem dX7_byteAt_31 : decode cX7_byteAt 31 = .ok (.goto 4, 3) := by decide +kernel
theorem dX7_byteAt_34 : decode cX7_byteAt 34 = .ok (.iconst (-1), 1) := by decide +kernel
theorem dX7_byteAt_35 : decode cX7_byteAt 35 = .ok (.ireturn, 1) := by decide +kernel
theorem dX8_init_0 : decode cX8_init 0 = .ok (.aload_n 0, 1) := by decide +kernel
theorem dX8_init_1 : decode cX8_init 1 = .ok (.invokespecial 3, 3) := by decide +kernel
theorem dX8_init_4 : decode cX8_init 4 = .ok (.aload_n 0, 1) := by decide +kernel
theorem dX8_init_5 : decode cX8_init 5 = .ok (.bipush 64, 2) := by decide +kernel
theorem dX8_init_7 : decode cX8_init 7 = .ok (.newarray .long, 2) := by decide +kernel
theorem dX8_init_9 : decode cX8_init 9 = .ok (.putfield 9, 3) := by decide +kernel
theorem dX8_init_12 : decode cX8_init 12 = .ok (.aload_n 0, 1) := by decide +kernel
theorem dX8_init_13 : decode cX8_init 13 = .ok (.iconst 0, 1) := by decide +kernel
theorem dX8_init_14 : decode cX8_init 14 = .ok (.putfield 13, 3) := by decide +kernel
theorem dX8_init_17 : decode cX8_init 17 = .ok (.aload_n 0, 1) := by decide +kernel
theorem dX8_init_18 : decode cX8_init 18 = .ok (.lconst 0, 1) := by decide +kernel
theorem dX8_init_19 : decode cX8_init 19 = .ok (.putfield 17, 3) := by decide +kernel
theorem dX8_init_22 : decode cX8_init 22 = .ok (.return_, 1) := by decide +kernel
theorem dX8_forget_0 : decode cX8_forget 0 = .ok (.aload_n 0, 1) := by decide +kernel
theorem dX8_forget_1 : decode cX8_forget 1 = .ok (.dup, 1) := by decide +kernel
theorem dX8_forget_2 : decode cX8_forget 2 = .ok (.getfield 17, 3) := by decide +kernel
theorem dX8_forget_5 : decode cX8_forget 5 = .ok (.lconst 1, 1) := by decide +kernel
theorem dX8_forget_6 : decode cX8_forget 6 = .ok (.ladd, 1) := by decide +kernel
theorem dX8_forget_7 : decode cX8_forget 7 = .ok (.putfield 17, 3) := by decide +kernel
theorem dX8_forget_10 : decode cX8_forget 10 = .ok (.aload_n 0, 1) := by decide +kernel
theorem dX8_forget_11 : decode cX8_forget 11 = .ok (.iconst 0, 1) := by decide +kernel
theorem dX8_forget_12 : decode cX8_forget 12 = .ok (.putfield 13, 3) := by decide +kernel
theorem dX8_forget_15 : decode cX8_forget 15 = .ok (.return_, 1) := by decide +kernel
theorem dX8_leastFor_0 : decode cX8_leastFor 0 = .ok (.aload_n 0, 1) := by decide +kernel
theorem dX8_leastFor_1 : decode cX8_leastFor 1 = .ok (.getfield 9, 3) := by decide +kernel
theorem dX8_leastFor_4 : decode cX8_leastFor 4 = .ok (.aload_n 0, 1) := by decide +kernel
theorem dX8_leastFor_5 : decode cX8_leastFor 5 = .ok (.iload_n 1, 1) := by decide +kernel
theorem dX8_leastFor_6 : decode cX8_leastFor 6 = .ok (.invokevirtual 21, 3) := by decide +kernel
theorem dX8_leastFor_9 : decode cX8_leastFor 9 = .ok (.laload, 1) := by decide +kernel
theorem dX8_leastFor_10 : decode cX8_leastFor 10 = .ok (.lstore_n 2, 1) := by decide +kernel
theorem dX8_leastFor_11 : decode cX8_leastFor 11 = .ok (.aload_n 0, 1) := by decide +kernel
theorem dX8_leastFor_12 : decode cX8_leastFor 12 = .ok (.lload_n 2, 1) := by decide +kernel
theorem dX8_leastFor_13 : decode cX8_leastFor 13 = .ok (.invokevirtual 25, 3) := by decide +kernel
theorem dX8_leastFor_16 : decode cX8_leastFor 16 = .ok (.ifCond .eq 10, 3) := by decide +kernel
theorem dX8_leastFor_19 : decode cX8_leastFor 19 = .ok (.lload_n 2, 1) := by decide +kernel
theorem dX8_leastFor_20 : decode cX8_leastFor 20 = .ok (.invokestatic 29, 3) := by decide +kernel
theorem dX8_leastFor_23 : decode cX8_leastFor 23 = .ok (.goto 5, 3) := by decide +kernel
theorem dX8_leastFor_26 : decode cX8_leastFor 26 = .ok (.ldc 33, 2) := by decide +kernel
theorem dX8_leastFor_28 : decode cX8_leastFor 28 = .ok (.ireturn, 1) := by decide +kernel
theorem dX8_isLess_0 : decode cX8_isLess 0 = .ok (.aload_n 0, 1) := by decide +kernel
theorem dX8_isLess_1 : decode cX8_isLess 1 = .ok (.iload_n 1, 1) := by decide +kernel
theorem dX8_isLess_2 : decode cX8_isLess 2 = .ok (.invokevirtual 21, 3) := by decide +kernel
theorem dX8_isLess_5 : decode cX8_isLess 5 = .ok (.istore_n 3, 1) := by decide +kernel
theorem dX8_isLess_6 : decode cX8_isLess 6 = .ok (.aload_n 0, 1) := by decide +kernel
theorem dX8_isLess_7 : decode cX8_isLess 7 = .ok (.aload_n 0, 1) := by decide +kernel
theorem dX8_isLess_8 : decode cX8_isLess 8 = .ok (.getfield 9, 3) := by decide +kernel
theorem dX8_isLess_11 : decode cX8_isLess 11 = .ok (.iload_n 3, 1) := by decide +kernel
theorem dX8_isLess_12 : decode cX8_isLess 12 = .ok (.laload, 1) := by decide +kernel
theorem dX8_isLess_13 : decode cX8_isLess 13 = .ok (.invokevirtual 25, 3) := by decide +kernel
theorem dX8_isLess_16 : decode cX8_isLess 16 = .ok (.ifCond .ne 7, 3) := by decide +kernel
theorem dX8_isLess_19 : decode cX8_isLess 19 = .ok (.iconst 1, 1) := by decide +kernel
theorem dX8_isLess_20 : decode cX8_isLess 20 = .ok (.goto 4, 3) := by decide +kernel
theorem dX8_isLess_23 : decode cX8_isLess 23 = .ok (.iconst 0, 1) := by decide +kernel
theorem dX8_isLess_24 : decode cX8_isLess 24 = .ok (.istore 4, 2) := by decide +kernel
theorem dX8_isLess_26 : decode cX8_isLess 26 = .ok (.iload 4, 2) := by decide +kernel
theorem dX8_isLess_28 : decode cX8_isLess 28 = .ok (.ifCond .ne 18, 3) := by decide +kernel
theorem dX8_isLess_31 : decode cX8_isLess 31 = .ok (.iload_n 2, 1) := by decide +kernel
theorem dX8_isLess_32 : decode cX8_isLess 32 = .ok (.aload_n 0, 1) := by decide +kernel
theorem dX8_isLess_33 : decode cX8_isLess 33 = .ok (.getfield 9, 3) := by decide +kernel
theorem dX8_isLess_36 : decode cX8_isLess 36 = .ok (.iload_n 3, 1) := by decide +kernel
theorem dX8_isLess_37 : decode cX8_isLess 37 = .ok (.laload, 1) := by decide +kernel
theorem dX8_isLess_38 : decode cX8_isLess 38 = .ok (.invokestatic 29, 3) := by decide +kernel
theorem dX8_isLess_41 : decode cX8_isLess 41 = .ok (.if_icmp .lt 5, 3) := by decide +kernel
theorem dX8_isLess_44 : decode cX8_isLess 44 = .ok (.iconst 0, 1) := by decide +kernel
theorem dX8_isLess_45 : decode cX8_isLess 45 = .ok (.ireturn, 1) := by decide +kernel
theorem dX8_isLess_46 : decode cX8_isLess 46 = .ok (.aload_n 0, 1) := by decide +kernel
theorem dX8_isLess_47 : decode cX8_isLess 47 = .ok (.getfield 9, 3) := by decide +kernel
theorem dX8_isLess_50 : decode cX8_isLess 50 = .ok (.iload_n 3, 1) := by decide +kernel
theorem dX8_isLess_51 : decode cX8_isLess 51 = .ok (.aload_n 0, 1) := by decide +kernel
theorem dX8_isLess_52 : decode cX8_isLess 52 = .ok (.getfield 17, 3) := by decide +kernel
theorem dX8_isLess_55 : decode cX8_isLess 55 = .ok (.bipush 16, 2) := by decide +kernel
theorem dX8_isLess_57 : decode cX8_isLess 57 = .ok (.lshl, 1) := by decide +kernel
theorem dX8_isLess_58 : decode cX8_isLess 58 = .ok (.iload_n 1, 1) := by decide +kernel
theorem dX8_isLess_59 : decode cX8_isLess 59 = .ok (.i2l, 1) := by decide +kernel
theorem dX8_isLess_60 : decode cX8_isLess 60 = .ok (.lor, 1) := by decide +kernel
theorem dX8_isLess_61 : decode cX8_isLess 61 = .ok (.bipush 8, 2) := by decide +kernel
theorem dX8_isLess_63 : decode cX8_isLess 63 = .ok (.lshl, 1) := by decide +kernel
theorem dX8_isLess_64 : decode cX8_isLess 64 = .ok (.iload_n 2, 1) := by decide +kernel
theorem dX8_isLess_65 : decode cX8_isLess 65 = .ok (.i2l, 1) := by decide +kernel
theorem dX8_isLess_66 : decode cX8_isLess 66 = .ok (.lor, 1) := by decide +kernel
theorem dX8_isLess_67 : decode cX8_isLess 67 = .ok (.lastore, 1) := by decide +kernel
theorem dX8_isLess_68 : decode cX8_isLess 68 = .ok (.iload 4, 2) := by decide +kernel
theorem dX8_isLess_70 : decode cX8_isLess 70 = .ok (.ifCond .eq 17, 3) := by decide +kernel
theorem dX8_isLess_73 : decode cX8_isLess 73 = .ok (.aload_n 0, 1) := by decide +kernel
theorem dX8_isLess_74 : decode cX8_isLess 74 = .ok (.dup, 1) := by decide +kernel
theorem dX8_isLess_75 : decode cX8_isLess 75 = .ok (.getfield 13, 3) := by decide +kernel
theorem dX8_isLess_78 : decode cX8_isLess 78 = .ok (.iconst 1, 1) := by decide +kernel
theorem dX8_isLess_79 : decode cX8_isLess 79 = .ok (.iadd, 1) := by decide +kernel
theorem dX8_isLess_80 : decode cX8_isLess 80 = .ok (.putfield 13, 3) := by decide +kernel
theorem dX8_isLess_83 : decode cX8_isLess 83 = .ok (.aload_n 0, 1) := by decide +kernel
theorem dX8_isLess_84 : decode cX8_isLess 84 = .ok (.invokevirtual 34, 3) := by decide +kernel
theorem dX8_isLess_87 : decode cX8_isLess 87 = .ok (.iconst 1, 1) := by decide +kernel
theorem dX8_isLess_88 : decode cX8_isLess 88 = .ok (.ireturn, 1) := by decide +kernel
theorem dX8_isOurs_0 : decode cX8_isOurs 0 = .ok (.lload_n 1, 1) := by decide +kernel
theorem dX8_isOurs_1 : decode cX8_isOurs 1 = .ok (.bipush 24, 2) := by decide +kernel
theorem dX8_isOurs_3 : decode cX8_isOurs 3 = .ok (.lshr, 1) := by decide +kernel
theorem dX8_isOurs_4 : decode cX8_isOurs 4 = .ok (.aload_n 0, 1) := by decide +kernel
theorem dX8_isOurs_5 : decode cX8_isOurs 5 = .ok (.getfield 17, 3) := by decide +kernel
theorem dX8_isOurs_8 : decode cX8_isOurs 8 = .ok (.lcmp, 1) := by decide +kernel
theorem dX8_isOurs_9 : decode cX8_isOurs 9 = .ok (.ifCond .ne 7, 3) := by decide +kernel
theorem dX8_isOurs_12 : decode cX8_isOurs 12 = .ok (.iconst 1, 1) := by decide +kernel
theorem dX8_isOurs_13 : decode cX8_isOurs 13 = .ok (.goto 4, 3) := by decide +kernel
theorem dX8_isOurs_16 : decode cX8_isOurs 16 = .ok (.iconst 0, 1) := by decide +kernel
theorem dX8_isOurs_17 : decode cX8_isOurs 17 = .ok (.ireturn, 1) := by decide +kernel
theorem dX8_breathOf_0 : decode cX8_breathOf 0 = .ok (.lload_n 0, 1) := by decide +kernel
theorem dX8_breathOf_1 : decode cX8_breathOf 1 = .ok (.l2i, 1) := by decide +kernel
theorem dX8_breathOf_2 : decode cX8_breathOf 2 = .ok (.sipush 255, 3) := by decide +kernel
theorem dX8_breathOf_5 : decode cX8_breathOf 5 = .ok (.iand, 1) := by decide +kernel
theorem dX8_breathOf_6 : decode cX8_breathOf 6 = .ok (.ireturn, 1) := by decide +kernel
theorem dX8_keyOf_0 : decode cX8_keyOf 0 = .ok (.lload_n 0, 1) := by decide +kernel
theorem dX8_keyOf_1 : decode cX8_keyOf 1 = .ok (.bipush 8, 2) := by decide +kernel
theorem dX8_keyOf_3 : decode cX8_keyOf 3 = .ok (.lshr, 1) := by decide +kernel
theorem dX8_keyOf_4 : decode cX8_keyOf 4 = .ok (.l2i, 1) := by decide +kernel
theorem dX8_keyOf_5 : decode cX8_keyOf 5 = .ok (.ldc 37, 2) := by decide +kernel
theorem dX8_keyOf_7 : decode cX8_keyOf 7 = .ok (.iand, 1) := by decide +kernel
theorem dX8_keyOf_8 : decode cX8_keyOf 8 = .ok (.ireturn, 1) := by decide +kernel
theorem dX8_slotFor_0 : decode cX8_slotFor 0 = .ok (.aload_n 0, 1) := by decide +kernel
theorem dX8_slotFor_1 : decode cX8_slotFor 1 = .ok (.getfield 9, 3) := by decide +kernel
theorem dX8_slotFor_4 : decode cX8_slotFor 4 = .ok (.arraylength, 1) := by decide +kernel
theorem dX8_slotFor_5 : decode cX8_slotFor 5 = .ok (.iconst 1, 1) := by decide +kernel
theorem dX8_slotFor_6 : decode cX8_slotFor 6 = .ok (.isub, 1) := by decide +kernel
theorem dX8_slotFor_7 : decode cX8_slotFor 7 = .ok (.istore_n 2, 1) := by decide +kernel
theorem dX8_slotFor_8 : decode cX8_slotFor 8 = .ok (.iload_n 1, 1) := by decide +kernel
theorem dX8_slotFor_9 : decode cX8_slotFor 9 = .ok (.ldc 38, 2) := by decide +kernel
theorem dX8_slotFor_11 : decode cX8_slotFor 11 = .ok (.imul, 1) := by decide +kernel
theorem dX8_slotFor_12 : decode cX8_slotFor 12 = .ok (.iconst 4, 1) := by decide +kernel
theorem dX8_slotFor_13 : decode cX8_slotFor 13 = .ok (.iushr, 1) := by decide +kernel
theorem dX8_slotFor_14 : decode cX8_slotFor 14 = .ok (.iload_n 2, 1) := by decide +kernel
theorem dX8_slotFor_15 : decode cX8_slotFor 15 = .ok (.iand, 1) := by decide +kernel
theorem dX8_slotFor_16 : decode cX8_slotFor 16 = .ok (.istore_n 3, 1) := by decide +kernel
theorem dX8_slotFor_17 : decode cX8_slotFor 17 = .ok (.iconst 0, 1) := by decide +kernel
theorem dX8_slotFor_18 : decode cX8_slotFor 18 = .ok (.istore 4, 2) := by decide +kernel
theorem dX8_slotFor_20 : decode cX8_slotFor 20 = .ok (.iload 4, 2) := by decide +kernel
theorem dX8_slotFor_22 : decode cX8_slotFor 22 = .ok (.iload_n 2, 1) := by decide +kernel
theorem dX8_slotFor_23 : decode cX8_slotFor 23 = .ok (.if_icmp .ge 41, 3) := by decide +kernel
theorem dX8_slotFor_26 : decode cX8_slotFor 26 = .ok (.aload_n 0, 1) := by decide +kernel
theorem dX8_slotFor_27 : decode cX8_slotFor 27 = .ok (.aload_n 0, 1) := by decide +kernel
theorem dX8_slotFor_28 : decode cX8_slotFor 28 = .ok (.getfield 9, 3) := by decide +kernel
theorem dX8_slotFor_31 : decode cX8_slotFor 31 = .ok (.iload_n 3, 1) := by decide +kernel
theorem dX8_slotFor_32 : decode cX8_slotFor 32 = .ok (.laload, 1) := by decide +kernel
theorem dX8_slotFor_33 : decode cX8_slotFor 33 = .ok (.invokevirtual 25, 3) := by decide +kernel
theorem dX8_slotFor_36 : decode cX8_slotFor 36 = .ok (.ifCond .eq 28, 3) := by decide +kernel
theorem dX8_slotFor_39 : decode cX8_slotFor 39 = .ok (.aload_n 0, 1) := by decide +kernel
theorem dX8_slotFor_40 : decode cX8_slotFor 40 = .ok (.getfield 9, 3) := by decide +kernel
theorem dX8_slotFor_43 : decode cX8_slotFor 43 = .ok (.iload_n 3, 1) := by decide +kernel
theorem dX8_slotFor_44 : decode cX8_slotFor 44 = .ok (.laload, 1) := by decide +kernel
theorem dX8_slotFor_45 : decode cX8_slotFor 45 = .ok (.invokestatic 39, 3) := by decide +kernel
theorem dX8_slotFor_48 : decode cX8_slotFor 48 = .ok (.iload_n 1, 1) := by decide +kernel
theorem dX8_slotFor_49 : decode cX8_slotFor 49 = .ok (.if_icmp .eq 15, 3) := by decide +kernel
theorem dX8_slotFor_52 : decode cX8_slotFor 52 = .ok (.iload_n 3, 1) := by decide +kernel
theorem dX8_slotFor_53 : decode cX8_slotFor 53 = .ok (.iconst 1, 1) := by decide +kernel
theorem dX8_slotFor_54 : decode cX8_slotFor 54 = .ok (.iadd, 1) := by decide +kernel
theorem dX8_slotFor_55 : decode cX8_slotFor 55 = .ok (.iload_n 2, 1) := by decide +kernel
theorem dX8_slotFor_56 : decode cX8_slotFor 56 = .ok (.iand, 1) := by decide +kernel
theorem dX8_slotFor_57 : decode cX8_slotFor 57 = .ok (.istore_n 3, 1) := by decide +kernel
theorem dX8_slotFor_58 : decode cX8_slotFor 58 = .ok (.iinc 4 1, 3) := by decide +kernel
theorem dX8_slotFor_61 : decode cX8_slotFor 61 = .ok (.goto (-41), 3) := by decide +kernel
theorem dX8_slotFor_64 : decode cX8_slotFor 64 = .ok (.iload_n 3, 1) := by decide +kernel
theorem dX8_slotFor_65 : decode cX8_slotFor 65 = .ok (.ireturn, 1) := by decide +kernel
theorem dX8_grow_0 : decode cX8_grow 0 = .ok (.iconst 2, 1) := by decide +kernel
theorem dX8_grow_1 : decode cX8_grow 1 = .ok (.aload_n 0, 1) := by decide +kernel
theorem dX8_grow_2 : decode cX8_grow 2 = .ok (.getfield 13, 3) := by decide +kernel
theorem dX8_grow_5 : decode cX8_grow 5 = .ok (.imul, 1) := by decide +kernel
theorem dX8_grow_6 : decode cX8_grow 6 = .ok (.aload_n 0, 1) := by decide +kernel
theorem dX8_grow_7 : decode cX8_grow 7 = .ok (.getfield 9, 3) := by decide +kernel
theorem dX8_grow_10 : decode cX8_grow 10 = .ok (.arraylength, 1) := by decide +kernel
theorem dX8_grow_11 : decode cX8_grow 11 = .ok (.if_icmp .le 13, 3) := by decide +kernel
theorem dX8_grow_14 : decode cX8_grow 14 = .ok (.aload_n 0, 1) := by decide +kernel
theorem dX8_grow_15 : decode cX8_grow 15 = .ok (.getfield 9, 3) := by decide +kernel
theorem dX8_grow_18 : decode cX8_grow 18 = .ok (.arraylength, 1) := by decide +kernel
theorem dX8_grow_19 : decode cX8_grow 19 = .ok (.ldc 42, 2) := by decide +kernel
theorem dX8_grow_21 : decode cX8_grow 21 = .ok (.if_icmp .lt 4, 3) := by decide +kernel
theorem dX8_grow_24 : decode cX8_grow 24 = .ok (.return_, 1) := by decide +kernel
theorem dX8_grow_25 : decode cX8_grow 25 = .ok (.aload_n 0, 1) := by decide +kernel
theorem dX8_grow_26 : decode cX8_grow 26 = .ok (.getfield 9, 3) := by decide +kernel
theorem dX8_grow_29 : decode cX8_grow 29 = .ok (.astore_n 1, 1) := by decide +kernel
theorem dX8_grow_30 : decode cX8_grow 30 = .ok (.aload_n 0, 1) := by decide +kernel
theorem dX8_grow_31 : decode cX8_grow 31 = .ok (.iconst 2, 1) := by decide +kernel
theorem dX8_grow_32 : decode cX8_grow 32 = .ok (.aload_n 1, 1) := by decide +kernel
theorem dX8_grow_33 : decode cX8_grow 33 = .ok (.arraylength, 1) := by decide +kernel
theorem dX8_grow_34 : decode cX8_grow 34 = .ok (.imul, 1) := by decide +kernel
theorem dX8_grow_35 : decode cX8_grow 35 = .ok (.newarray .long, 2) := by decide +kernel
theorem dX8_grow_37 : decode cX8_grow 37 = .ok (.putfield 9, 3) := by decide +kernel
theorem dX8_grow_40 : decode cX8_grow 40 = .ok (.iconst 0, 1) := by decide +kernel
theorem dX8_grow_41 : decode cX8_grow 41 = .ok (.istore_n 2, 1) := by decide +kernel
theorem dX8_grow_42 : decode cX8_grow 42 = .ok (.iload_n 2, 1) := by decide +kernel
theorem dX8_grow_43 : decode cX8_grow 43 = .ok (.aload_n 1, 1) := by decide +kernel
theorem dX8_grow_44 : decode cX8_grow 44 = .ok (.arraylength, 1) := by decide +kernel
theorem dX8_grow_45 : decode cX8_grow 45 = .ok (.if_icmp .ge 37, 3) := by decide +kernel
theorem dX8_grow_48 : decode cX8_grow 48 = .ok (.aload_n 0, 1) := by decide +kernel
theorem dX8_grow_49 : decode cX8_grow 49 = .ok (.aload_n 1, 1) := by decide +kernel
theorem dX8_grow_50 : decode cX8_grow 50 = .ok (.iload_n 2, 1) := by decide +kernel
theorem dX8_grow_51 : decode cX8_grow 51 = .ok (.laload, 1) := by decide +kernel
theorem dX8_grow_52 : decode cX8_grow 52 = .ok (.invokevirtual 25, 3) := by decide +kernel
theorem dX8_grow_55 : decode cX8_grow 55 = .ok (.ifCond .eq 21, 3) := by decide +kernel
theorem dX8_grow_58 : decode cX8_grow 58 = .ok (.aload_n 0, 1) := by decide +kernel
theorem dX8_grow_59 : decode cX8_grow 59 = .ok (.getfield 9, 3) := by decide +kernel
theorem dX8_grow_62 : decode cX8_grow 62 = .ok (.aload_n 0, 1) := by decide +kernel
theorem dX8_grow_63 : decode cX8_grow 63 = .ok (.aload_n 1, 1) := by decide +kernel
theorem dX8_grow_64 : decode cX8_grow 64 = .ok (.iload_n 2, 1) := by decide +kernel
theorem dX8_grow_65 : decode cX8_grow 65 = .ok (.laload, 1) := by decide +kernel
theorem dX8_grow_66 : decode cX8_grow 66 = .ok (.invokestatic 39, 3) := by decide +kernel
theorem dX8_grow_69 : decode cX8_grow 69 = .ok (.invokevirtual 21, 3) := by decide +kernel
theorem dX8_grow_72 : decode cX8_grow 72 = .ok (.aload_n 1, 1) := by decide +kernel
theorem dX8_grow_73 : decode cX8_grow 73 = .ok (.iload_n 2, 1) := by decide +kernel
theorem dX8_grow_74 : decode cX8_grow 74 = .ok (.laload, 1) := by decide +kernel
theorem dX8_grow_75 : decode cX8_grow 75 = .ok (.lastore, 1) := by decide +kernel
theorem dX8_grow_76 : decode cX8_grow 76 = .ok (.iinc 2 1, 3) := by decide +kernel
theorem dX8_grow_79 : decode cX8_grow 79 = .ok (.goto (-37), 3) := by decide +kernel
theorem dX8_grow_82 : decode cX8_grow 82 = .ok (.return_, 1) := by decide +kernel
theorem dX9_init_0 : decode cX9_init 0 = .ok (.aload_n 0, 1) := by decide +kernel
theorem dX9_init_1 : decode cX9_init 1 = .ok (.iload_n 1, 1) := by decide +kernel
theorem dX9_init_2 : decode cX9_init 2 = .ok (.iload_n 2, 1) := by decide +kernel
theorem dX9_init_3 : decode cX9_init 3 = .ok (.iload_n 3, 1) := by decide +kernel
theorem dX9_init_4 : decode cX9_init 4 = .ok (.invokespecial 1, 3) := by decide +kernel
theorem dX9_init_7 : decode cX9_init 7 = .ok (.return_, 1) := by decide +kernel
theorem dX9_next_0 : decode cX9_next 0 = .ok (.iload_n 3, 1) := by decide +kernel
theorem dX9_next_1 : decode cX9_next 1 = .ok (.iconst 1, 1) := by decide +kernel
theorem dX9_next_2 : decode cX9_next 2 = .ok (.iand, 1) := by decide +kernel
theorem dX9_next_3 : decode cX9_next 3 = .ok (.ifCond .ne 7, 3) := by decide +kernel
theorem dX9_next_6 : decode cX9_next 6 = .ok (.iload_n 1, 1) := by decide +kernel
theorem dX9_next_7 : decode cX9_next 7 = .ok (.goto 12, 3) := by decide +kernel
theorem dX9_next_10 : decode cX9_next 10 = .ok (.aload_n 0, 1) := by decide +kernel
end
section
theorem dX9_next_11 : decode cX9_next 11 = .ok (.iload_n 1, 1) := by decide +kernel
theorem dX9_next_12 : decode cX9_next 12 = .ok (.iload_n 2, 1) := by decide +kernel
theorem dX9_next_13 : decode cX9_next 13 = .ok (.iload_n 3, 1) := by decide +kernel
theorem dX9_next_14 : decode cX9_next 14 = .ok (.iload 4, 2) := by decide +kernel
theorem dX9_next_16 : decode cX9_next 16 = .ok (.invokevirtual 7, 3) := by decide +kernel
theorem dX9_next_19 : decode cX9_next 19 = .ok (.ireturn, 1) := by decide +kernel
theorem dX10_init_0 : decode cX10_init 0 = .ok (.aload_n 0, 1) := by decide +kernel
theorem dX10_init_1 : decode cX10_init 1 = .ok (.invokespecial 3, 3) := by decide +kernel
theorem dX10_init_4 : decode cX10_init 4 = .ok (.aload_n 0, 1) := by decide +kernel
theorem dX10_init_5 : decode cX10_init 5 = .ok (.sipush 288, 3) := by decide +kernel
theorem dX10_init_8 : decode cX10_init 8 = .ok (.newarray .int, 2) := by decide +kernel
theorem dX10_init_10 : decode cX10_init 10 = .ok (.putfield 9, 3) := by decide +kernel
theorem dX10_init_13 : decode cX10_init 13 = .ok (.aload_n 0, 1) := by decide +kernel
theorem dX10_init_14 : decode cX10_init 14 = .ok (.iconst 0, 1) := by decide +kernel
theorem dX10_init_15 : decode cX10_init 15 = .ok (.putfield 15, 3) := by decide +kernel
theorem dX10_init_18 : decode cX10_init 18 = .ok (.return_, 1) := by decide +kernel
theorem dX10_weigh_0 : decode cX10_weigh 0 = .ok (.aload_n 0, 1) := by decide +kernel
theorem dX10_weigh_1 : decode cX10_weigh 1 = .ok (.iload_n 3, 1) := by decide +kernel
theorem dX10_weigh_2 : decode cX10_weigh 2 = .ok (.putfield 15, 3) := by decide +kernel
theorem dX10_weigh_5 : decode cX10_weigh 5 = .ok (.bipush 8, 2) := by decide +kernel
theorem dX10_weigh_7 : decode cX10_weigh 7 = .ok (.istore 4, 2) := by decide +kernel
theorem dX10_weigh_9 : decode cX10_weigh 9 = .ok (.iload 4, 2) := by decide +kernel
theorem dX10_weigh_11 : decode cX10_weigh 11 = .ok (.ifCond .lt 95, 3) := by decide +kernel
theorem dX10_weigh_14 : decode cX10_weigh 14 = .ok (.iconst 0, 1) := by decide +kernel
theorem dX10_weigh_15 : decode cX10_weigh 15 = .ok (.istore 5, 2) := by decide +kernel
theorem dX10_weigh_17 : decode cX10_weigh 17 = .ok (.iload 5, 2) := by decide +kernel
theorem dX10_weigh_19 : decode cX10_weigh 19 = .ok (.iload_n 2, 1) := by decide +kernel
theorem dX10_weigh_20 : decode cX10_weigh 20 = .ok (.if_icmp .gt 80, 3) := by decide +kernel
theorem dX10_weigh_23 : decode cX10_weigh 23 = .ok (.iload 5, 2) := by decide +kernel
theorem dX10_weigh_25 : decode cX10_weigh 25 = .ok (.invokestatic 19, 3) := by decide +kernel
theorem dX10_weigh_28 : decode cX10_weigh 28 = .ok (.iconst 1, 1) := by decide +kernel
theorem dX10_weigh_29 : decode cX10_weigh 29 = .ok (.if_icmp .gt 7, 3) := by decide +kernel
theorem dX10_weigh_32 : decode cX10_weigh 32 = .ok (.iconst 0, 1) := by decide +kernel
theorem dX10_weigh_33 : decode cX10_weigh 33 = .ok (.goto 5, 3) := by decide +kernel
theorem dX10_weigh_36 : decode cX10_weigh 36 = .ok (.bipush 99, 2) := by decide +kernel
theorem dX10_weigh_38 : decode cX10_weigh 38 = .ok (.istore 6, 2) := by decide +kernel
theorem dX10_weigh_40 : decode cX10_weigh 40 = .ok (.iload 6, 2) := by decide +kernel
theorem dX10_weigh_42 : decode cX10_weigh 42 = .ok (.bipush 99, 2) := by decide +kernel
theorem dX10_weigh_44 : decode cX10_weigh 44 = .ok (.if_icmp .ne 35, 3) := by decide +kernel
theorem dX10_weigh_47 : decode cX10_weigh 47 = .ok (.iload 4, 2) := by decide +kernel
theorem dX10_weigh_49 : decode cX10_weigh 49 = .ok (.bipush 8, 2) := by decide +kernel
theorem dX10_weigh_51 : decode cX10_weigh 51 = .ok (.if_icmp .ge 28, 3) := by decide +kernel
theorem dX10_weigh_54 : decode cX10_weigh 54 = .ok (.aload_n 0, 1) := by decide +kernel
theorem dX10_weigh_55 : decode cX10_weigh 55 = .ok (.aload_n 1, 1) := by decide +kernel
theorem dX10_weigh_56 : decode cX10_weigh 56 = .ok (.iload 4, 2) := by decide +kernel
theorem dX10_weigh_58 : decode cX10_weigh 58 = .ok (.iconst 0, 1) := by decide +kernel
theorem dX10_weigh_59 : decode cX10_weigh 59 = .ok (.iload 5, 2) := by decide +kernel
theorem dX10_weigh_61 : decode cX10_weigh 61 = .ok (.invokevirtual 25, 3) := by decide +kernel
theorem dX10_weigh_64 : decode cX10_weigh 64 = .ok (.aload_n 0, 1) := by decide +kernel
theorem dX10_weigh_65 : decode cX10_weigh 65 = .ok (.aload_n 1, 1) := by decide +kernel
theorem dX10_weigh_66 : decode cX10_weigh 66 = .ok (.iload 4, 2) := by decide +kernel
theorem dX10_weigh_68 : decode cX10_weigh 68 = .ok (.iconst 1, 1) := by decide +kernel
theorem dX10_weigh_69 : decode cX10_weigh 69 = .ok (.iload 5, 2) := by decide +kernel
theorem dX10_weigh_71 : decode cX10_weigh 71 = .ok (.invokevirtual 25, 3) := by decide +kernel
theorem dX10_weigh_74 : decode cX10_weigh 74 = .ok (.invokestatic 29, 3) := by decide +kernel
theorem dX10_weigh_77 : decode cX10_weigh 77 = .ok (.istore 6, 2) := by decide +kernel
theorem dX10_weigh_79 : decode cX10_weigh 79 = .ok (.aload_n 0, 1) := by decide +kernel
theorem dX10_weigh_80 : decode cX10_weigh 80 = .ok (.getfield 9, 3) := by decide +kernel
theorem dX10_weigh_83 : decode cX10_weigh 83 = .ok (.iload 4, 2) := by decide +kernel
theorem dX10_weigh_85 : decode cX10_weigh 85 = .ok (.bipush 32, 2) := by decide +kernel
theorem dX10_weigh_87 : decode cX10_weigh 87 = .ok (.imul, 1) := by decide +kernel
theorem dX10_weigh_88 : decode cX10_weigh 88 = .ok (.iload 5, 2) := by decide +kernel
theorem dX10_weigh_90 : decode cX10_weigh 90 = .ok (.iadd, 1) := by decide +kernel
theorem dX10_weigh_91 : decode cX10_weigh 91 = .ok (.iload 6, 2) := by decide +kernel
theorem dX10_weigh_93 : decode cX10_weigh 93 = .ok (.iastore, 1) := by decide +kernel
theorem dX10_weigh_94 : decode cX10_weigh 94 = .ok (.iinc 5 1, 3) := by decide +kernel
theorem dX10_weigh_97 : decode cX10_weigh 97 = .ok (.goto (-80), 3) := by decide +kernel
theorem dX10_weigh_100 : decode cX10_weigh 100 = .ok (.iinc 4 (-1), 3) := by decide +kernel
theorem dX10_weigh_103 : decode cX10_weigh 103 = .ok (.goto (-94), 3) := by decide +kernel
theorem dX10_weigh_106 : decode cX10_weigh 106 = .ok (.return_, 1) := by decide +kernel
theorem dX10_fewestFor_0 : decode cX10_fewestFor 0 = .ok (.iload_n 1, 1) := by decide +kernel
theorem dX10_fewestFor_1 : decode cX10_fewestFor 1 = .ok (.bipush 32, 2) := by decide +kernel
theorem dX10_fewestFor_3 : decode cX10_fewestFor 3 = .ok (.imul, 1) := by decide +kernel
theorem dX10_fewestFor_4 : decode cX10_fewestFor 4 = .ok (.iload_n 2, 1) := by decide +kernel
theorem dX10_fewestFor_5 : decode cX10_fewestFor 5 = .ok (.iadd, 1) := by decide +kernel
theorem dX10_fewestFor_6 : decode cX10_fewestFor 6 = .ok (.istore_n 3, 1) := by decide +kernel
theorem dX10_fewestFor_7 : decode cX10_fewestFor 7 = .ok (.iload_n 3, 1) := by decide +kernel
theorem dX10_fewestFor_8 : decode cX10_fewestFor 8 = .ok (.ifCond .lt 21, 3) := by decide +kernel
theorem dX10_fewestFor_11 : decode cX10_fewestFor 11 = .ok (.iload_n 3, 1) := by decide +kernel
theorem dX10_fewestFor_12 : decode cX10_fewestFor 12 = .ok (.aload_n 0, 1) := by decide +kernel
theorem dX10_fewestFor_13 : decode cX10_fewestFor 13 = .ok (.getfield 9, 3) := by decide +kernel
theorem dX10_fewestFor_16 : decode cX10_fewestFor 16 = .ok (.arraylength, 1) := by decide +kernel
theorem dX10_fewestFor_17 : decode cX10_fewestFor 17 = .ok (.if_icmp .ge 12, 3) := by decide +kernel
theorem dX10_fewestFor_20 : decode cX10_fewestFor 20 = .ok (.aload_n 0, 1) := by decide +kernel
theorem dX10_fewestFor_21 : decode cX10_fewestFor 21 = .ok (.getfield 9, 3) := by decide +kernel
theorem dX10_fewestFor_24 : decode cX10_fewestFor 24 = .ok (.iload_n 3, 1) := by decide +kernel
theorem dX10_fewestFor_25 : decode cX10_fewestFor 25 = .ok (.iaload, 1) := by decide +kernel
theorem dX10_fewestFor_26 : decode cX10_fewestFor 26 = .ok (.goto 5, 3) := by decide +kernel
theorem dX10_fewestFor_29 : decode cX10_fewestFor 29 = .ok (.bipush 99, 2) := by decide +kernel
theorem dX10_fewestFor_31 : decode cX10_fewestFor 31 = .ok (.ireturn, 1) := by decide +kernel
theorem dX10_neededBy_0 : decode cX10_neededBy 0 = .ok (.aload_n 1, 1) := by decide +kernel
theorem dX10_neededBy_1 : decode cX10_neededBy 1 = .ok (.iload_n 2, 1) := by decide +kernel
theorem dX10_neededBy_2 : decode cX10_neededBy 2 = .ok (.iload_n 3, 1) := by decide +kernel
theorem dX10_neededBy_3 : decode cX10_neededBy 3 = .ok (.iload 4, 2) := by decide +kernel
theorem dX10_neededBy_5 : decode cX10_neededBy 5 = .ok (.invokevirtual 35, 3) := by decide +kernel
theorem dX10_neededBy_8 : decode cX10_neededBy 8 = .ok (.istore 5, 2) := by decide +kernel
theorem dX10_neededBy_10 : decode cX10_neededBy 10 = .ok (.iload 5, 2) := by decide +kernel
theorem dX10_neededBy_12 : decode cX10_neededBy 12 = .ok (.invokestatic 19, 3) := by decide +kernel
theorem dX10_neededBy_15 : decode cX10_neededBy 15 = .ok (.iload 4, 2) := by decide +kernel
theorem dX10_neededBy_17 : decode cX10_neededBy 17 = .ok (.invokestatic 19, 3) := by decide +kernel
theorem dX10_neededBy_20 : decode cX10_neededBy 20 = .ok (.if_icmp .ge 6, 3) := by decide +kernel
theorem dX10_neededBy_23 : decode cX10_neededBy 23 = .ok (.bipush 99, 2) := by decide +kernel
theorem dX10_neededBy_25 : decode cX10_neededBy 25 = .ok (.ireturn, 1) := by decide +kernel
theorem dX10_neededBy_26 : decode cX10_neededBy 26 = .ok (.aload_n 0, 1) := by decide +kernel
theorem dX10_neededBy_27 : decode cX10_neededBy 27 = .ok (.iload_n 2, 1) := by decide +kernel
theorem dX10_neededBy_28 : decode cX10_neededBy 28 = .ok (.iconst 1, 1) := by decide +kernel
theorem dX10_neededBy_29 : decode cX10_neededBy 29 = .ok (.iadd, 1) := by decide +kernel
theorem dX10_neededBy_30 : decode cX10_neededBy 30 = .ok (.iload 5, 2) := by decide +kernel
theorem dX10_neededBy_32 : decode cX10_neededBy 32 = .ok (.aload_n 0, 1) := by decide +kernel
theorem dX10_neededBy_33 : decode cX10_neededBy 33 = .ok (.getfield 15, 3) := by decide +kernel
theorem dX10_neededBy_36 : decode cX10_neededBy 36 = .ok (.iand, 1) := by decide +kernel
theorem dX10_neededBy_37 : decode cX10_neededBy 37 = .ok (.invokevirtual 41, 3) := by decide +kernel
theorem dX10_neededBy_40 : decode cX10_neededBy 40 = .ok (.aload_n 0, 1) := by decide +kernel
theorem dX10_neededBy_41 : decode cX10_neededBy 41 = .ok (.iload_n 2, 1) := by decide +kernel
theorem dX10_neededBy_42 : decode cX10_neededBy 42 = .ok (.iconst 1, 1) := by decide +kernel
theorem dX10_neededBy_43 : decode cX10_neededBy 43 = .ok (.iadd, 1) := by decide +kernel
theorem dX10_neededBy_44 : decode cX10_neededBy 44 = .ok (.iload 5, 2) := by decide +kernel
theorem dX10_neededBy_46 : decode cX10_neededBy 46 = .ok (.aload_n 0, 1) := by decide +kernel
theorem dX10_neededBy_47 : decode cX10_neededBy 47 = .ok (.getfield 15, 3) := by decide +kernel
theorem dX10_neededBy_50 : decode cX10_neededBy 50 = .ok (.iconst (-1), 1) := by decide +kernel
theorem dX10_neededBy_51 : decode cX10_neededBy 51 = .ok (.ixor, 1) := by decide +kernel
theorem dX10_neededBy_52 : decode cX10_neededBy 52 = .ok (.iand, 1) := by decide +kernel
theorem dX10_neededBy_53 : decode cX10_neededBy 53 = .ok (.invokevirtual 41, 3) := by decide +kernel
theorem dX10_neededBy_56 : decode cX10_neededBy 56 = .ok (.invokestatic 44, 3) := by decide +kernel
theorem dX10_neededBy_59 : decode cX10_neededBy 59 = .ok (.istore 6, 2) := by decide +kernel
theorem dX10_neededBy_61 : decode cX10_neededBy 61 = .ok (.iload 6, 2) := by decide +kernel
theorem dX10_neededBy_63 : decode cX10_neededBy 63 = .ok (.bipush 99, 2) := by decide +kernel
theorem dX10_neededBy_65 : decode cX10_neededBy 65 = .ok (.if_icmp .ne 8, 3) := by decide +kernel
theorem dX10_neededBy_68 : decode cX10_neededBy 68 = .ok (.bipush 99, 2) := by decide +kernel
theorem dX10_neededBy_70 : decode cX10_neededBy 70 = .ok (.goto 7, 3) := by decide +kernel
theorem dX10_neededBy_73 : decode cX10_neededBy 73 = .ok (.iload 6, 2) := by decide +kernel
theorem dX10_neededBy_75 : decode cX10_neededBy 75 = .ok (.iconst 1, 1) := by decide +kernel
theorem dX10_neededBy_76 : decode cX10_neededBy 76 = .ok (.iadd, 1) := by decide +kernel
theorem dX10_neededBy_77 : decode cX10_neededBy 77 = .ok (.ireturn, 1) := by decide +kernel
theorem dX10_firstWhistle_0 : decode cX10_firstWhistle 0 = .ok (.iload_n 2, 1) := by decide +kernel
theorem dX10_firstWhistle_1 : decode cX10_firstWhistle 1 = .ok (.invokestatic 19, 3) := by decide +kernel
theorem dX10_firstWhistle_4 : decode cX10_firstWhistle 4 = .ok (.iconst 1, 1) := by decide +kernel
theorem dX10_firstWhistle_5 : decode cX10_firstWhistle 5 = .ok (.if_icmp .gt 5, 3) := by decide +kernel
theorem dX10_firstWhistle_8 : decode cX10_firstWhistle 8 = .ok (.iconst (-1), 1) := by decide +kernel
theorem dX10_firstWhistle_9 : decode cX10_firstWhistle 9 = .ok (.ireturn, 1) := by decide +kernel
theorem dX10_firstWhistle_10 : decode cX10_firstWhistle 10 = .ok (.aload_n 0, 1) := by decide +kernel
theorem dX10_firstWhistle_11 : decode cX10_firstWhistle 11 = .ok (.iconst 0, 1) := by decide +kernel
theorem dX10_firstWhistle_12 : decode cX10_firstWhistle 12 = .ok (.iload_n 2, 1) := by decide +kernel
theorem dX10_firstWhistle_13 : decode cX10_firstWhistle 13 = .ok (.invokevirtual 41, 3) := by decide +kernel
theorem dX10_firstWhistle_16 : decode cX10_firstWhistle 16 = .ok (.bipush 99, 2) := by decide +kernel
theorem dX10_firstWhistle_18 : decode cX10_firstWhistle 18 = .ok (.if_icmp .ne 6, 3) := by decide +kernel
theorem dX10_firstWhistle_21 : decode cX10_firstWhistle 21 = .ok (.bipush (-5), 2) := by decide +kernel
theorem dX10_firstWhistle_23 : decode cX10_firstWhistle 23 = .ok (.ireturn, 1) := by decide +kernel
theorem dX10_firstWhistle_24 : decode cX10_firstWhistle 24 = .ok (.aload_n 0, 1) := by decide +kernel
theorem dX10_firstWhistle_25 : decode cX10_firstWhistle 25 = .ok (.aload_n 1, 1) := by decide +kernel
theorem dX10_firstWhistle_26 : decode cX10_firstWhistle 26 = .ok (.iconst 0, 1) := by decide +kernel
theorem dX10_firstWhistle_27 : decode cX10_firstWhistle 27 = .ok (.iconst 0, 1) := by decide +kernel
theorem dX10_firstWhistle_28 : decode cX10_firstWhistle 28 = .ok (.iload_n 2, 1) := by decide +kernel
theorem dX10_firstWhistle_29 : decode cX10_firstWhistle 29 = .ok (.invokevirtual 25, 3) := by decide +kernel
theorem dX10_firstWhistle_32 : decode cX10_firstWhistle 32 = .ok (.aload_n 0, 1) := by decide +kernel
theorem dX10_firstWhistle_33 : decode cX10_firstWhistle 33 = .ok (.aload_n 1, 1) := by decide +kernel
theorem dX10_firstWhistle_34 : decode cX10_firstWhistle 34 = .ok (.iconst 0, 1) := by decide +kernel
theorem dX10_firstWhistle_35 : decode cX10_firstWhistle 35 = .ok (.iconst 1, 1) := by decide +kernel
theorem dX10_firstWhistle_36 : decode cX10_firstWhistle 36 = .ok (.iload_n 2, 1) := by decide +kernel
theorem dX10_firstWhistle_37 : decode cX10_firstWhistle 37 = .ok (.invokevirtual 25, 3) := by decide +kernel
theorem dX10_firstWhistle_40 : decode cX10_firstWhistle 40 = .ok (.if_icmp .gt 7, 3) := by decide +kernel
theorem dX10_firstWhistle_43 : decode cX10_firstWhistle 43 = .ok (.iconst 0, 1) := by decide +kernel
theorem dX10_firstWhistle_44 : decode cX10_firstWhistle 44 = .ok (.goto 4, 3) := by decide +kernel
theorem dX10_firstWhistle_47 : decode cX10_firstWhistle 47 = .ok (.iconst 1, 1) := by decide +kernel
theorem dX10_firstWhistle_48 : decode cX10_firstWhistle 48 = .ok (.ireturn, 1) := by decide +kernel
theorem dX11_init_0 : decode cX11_init 0 = .ok (.aload_n 0, 1) := by decide +kernel
theorem dX11_init_1 : decode cX11_init 1 = .ok (.invokespecial 3, 3) := by decide +kernel
theorem dX11_init_4 : decode cX11_init 4 = .ok (.aload_n 0, 1) := by decide +kernel
theorem dX11_init_5 : decode cX11_init 5 = .ok (.new 9, 3) := by decide +kernel
theorem dX11_init_8 : decode cX11_init 8 = .ok (.dup, 1) := by decide +kernel
theorem dX11_init_9 : decode cX11_init 9 = .ok (.invokespecial 11, 3) := by decide +kernel
theorem dX11_init_12 : decode cX11_init 12 = .ok (.putfield 12, 3) := by decide +kernel
theorem dX11_init_15 : decode cX11_init 15 = .ok (.aload_n 0, 1) := by decide +kernel
theorem dX11_init_16 : decode cX11_init 16 = .ok (.iconst 2, 1) := by decide +kernel
theorem dX11_init_17 : decode cX11_init 17 = .ok (.anewarray 9, 3) := by decide +kernel
theorem dX11_init_20 : decode cX11_init 20 = .ok (.putfield 16, 3) := by decide +kernel
theorem dX11_init_23 : decode cX11_init 23 = .ok (.aload_n 0, 1) := by decide +kernel
theorem dX11_init_24 : decode cX11_init 24 = .ok (.sipush 200, 3) := by decide +kernel
theorem dX11_init_27 : decode cX11_init 27 = .ok (.newarray .byte, 2) := by decide +kernel
theorem dX11_init_29 : decode cX11_init 29 = .ok (.putfield 20, 3) := by decide +kernel
theorem dX11_init_32 : decode cX11_init 32 = .ok (.aload_n 0, 1) := by decide +kernel
theorem dX11_init_33 : decode cX11_init 33 = .ok (.iconst 0, 1) := by decide +kernel
theorem dX11_init_34 : decode cX11_init 34 = .ok (.putfield 24, 3) := by decide +kernel
theorem dX11_init_37 : decode cX11_init 37 = .ok (.aload_n 0, 1) := by decide +kernel
theorem dX11_init_38 : decode cX11_init 38 = .ok (.lconst 0, 1) := by decide +kernel
theorem dX11_init_39 : decode cX11_init 39 = .ok (.putfield 28, 3) := by decide +kernel
theorem dX11_init_42 : decode cX11_init 42 = .ok (.aload_n 0, 1) := by decide +kernel
theorem dX11_init_43 : decode cX11_init 43 = .ok (.lconst 1, 1) := by decide +kernel
theorem dX11_init_44 : decode cX11_init 44 = .ok (.putfield 32, 3) := by decide +kernel
theorem dX11_init_47 : decode cX11_init 47 = .ok (.aload_n 0, 1) := by decide +kernel
theorem dX11_init_48 : decode cX11_init 48 = .ok (.iconst 0, 1) := by decide +kernel
theorem dX11_init_49 : decode cX11_init 49 = .ok (.putfield 35, 3) := by decide +kernel
theorem dX11_init_52 : decode cX11_init 52 = .ok (.aload_n 0, 1) := by decide +kernel
theorem dX11_init_53 : decode cX11_init 53 = .ok (.iconst 0, 1) := by decide +kernel
theorem dX11_init_54 : decode cX11_init 54 = .ok (.putfield 38, 3) := by decide +kernel
theorem dX11_init_57 : decode cX11_init 57 = .ok (.aload_n 0, 1) := by decide +kernel
theorem dX11_init_58 : decode cX11_init 58 = .ok (.iconst 0, 1) := by decide +kernel
theorem dX11_init_59 : decode cX11_init 59 = .ok (.putfield 41, 3) := by decide +kernel
theorem dX11_init_62 : decode cX11_init 62 = .ok (.aload_n 0, 1) := by decide +kernel
theorem dX11_init_63 : decode cX11_init 63 = .ok (.new 44, 3) := by decide +kernel
theorem dX11_init_66 : decode cX11_init 66 = .ok (.dup, 1) := by decide +kernel
theorem dX11_init_67 : decode cX11_init 67 = .ok (.invokespecial 46, 3) := by decide +kernel
theorem dX11_init_70 : decode cX11_init 70 = .ok (.putfield 47, 3) := by decide +kernel
theorem dX11_init_73 : decode cX11_init 73 = .ok (.aload_n 0, 1) := by decide +kernel
theorem dX11_init_74 : decode cX11_init 74 = .ok (.new 51, 3) := by decide +kernel
theorem dX11_init_77 : decode cX11_init 77 = .ok (.dup, 1) := by decide +kernel
theorem dX11_init_78 : decode cX11_init 78 = .ok (.invokespecial 53, 3) := by decide +kernel
theorem dX11_init_81 : decode cX11_init 81 = .ok (.putfield 54, 3) := by decide +kernel
theorem dX11_init_84 : decode cX11_init 84 = .ok (.aload_n 0, 1) := by decide +kernel
theorem dX11_init_85 : decode cX11_init 85 = .ok (.new 58, 3) := by decide +kernel
theorem dX11_init_88 : decode cX11_init 88 = .ok (.dup, 1) := by decide +kernel
theorem dX11_init_89 : decode cX11_init 89 = .ok (.invokespecial 60, 3) := by decide +kernel
theorem dX11_init_92 : decode cX11_init 92 = .ok (.putfield 61, 3) := by decide +kernel
theorem dX11_init_95 : decode cX11_init 95 = .ok (.aload_n 0, 1) := by decide +kernel
theorem dX11_init_96 : decode cX11_init 96 = .ok (.iconst 5, 1) := by decide +kernel
theorem dX11_init_97 : decode cX11_init 97 = .ok (.newarray .long, 2) := by decide +kernel
theorem dX11_init_99 : decode cX11_init 99 = .ok (.putfield 65, 3) := by decide +kernel
theorem dX11_init_102 : decode cX11_init 102 = .ok (.aload_n 0, 1) := by decide +kernel
theorem dX11_init_103 : decode cX11_init 103 = .ok (.iconst 5, 1) := by decide +kernel
theorem dX11_init_104 : decode cX11_init 104 = .ok (.newarray .long, 2) := by decide +kernel
theorem dX11_init_106 : decode cX11_init 106 = .ok (.putfield 69, 3) := by decide +kernel
theorem dX11_init_109 : decode cX11_init 109 = .ok (.return_, 1) := by decide +kernel
theorem dX11_places_0 : decode cX11_places 0 = .ok (.iload_n 1, 1) := by decide +kernel
theorem dX11_places_1 : decode cX11_places 1 = .ok (.iconst 2, 1) := by decide +kernel
theorem dX11_places_2 : decode cX11_places 2 = .ok (.if_icmp .lt 8, 3) := by decide +kernel
theorem dX11_places_5 : decode cX11_places 5 = .ok (.iload_n 1, 1) := by decide +kernel
theorem dX11_places_6 : decode cX11_places 6 = .ok (.iconst 5, 1) := by decide +kernel
theorem dX11_places_7 : decode cX11_places 7 = .ok (.if_icmp .le 10, 3) := by decide +kernel
theorem dX11_places_10 : decode cX11_places 10 = .ok (.aload_n 0, 1) := by decide +kernel
theorem dX11_places_11 : decode cX11_places 11 = .ok (.bipush (-2), 2) := by decide +kernel
theorem dX11_places_13 : decode cX11_places 13 = .ok (.invokevirtual 72, 3) := by decide +kernel
theorem dX11_places_16 : decode cX11_places 16 = .ok (.ireturn, 1) := by decide +kernel
theorem dX11_places_17 : decode cX11_places 17 = .ok (.aload_n 0, 1) := by decide +kernel
theorem dX11_places_18 : decode cX11_places 18 = .ok (.getfield 12, 3) := by decide +kernel
theorem dX11_places_21 : decode cX11_places 21 = .ok (.getfield 76, 3) := by decide +kernel
theorem dX11_places_24 : decode cX11_places 24 = .ok (.istore_n 2, 1) := by decide +kernel
theorem dX11_places_25 : decode cX11_places 25 = .ok (.aload_n 0, 1) := by decide +kernel
theorem dX11_places_26 : decode cX11_places 26 = .ok (.getfield 12, 3) := by decide +kernel
theorem dX11_places_29 : decode cX11_places 29 = .ok (.iload_n 1, 1) := by decide +kernel
theorem dX11_places_30 : decode cX11_places 30 = .ok (.invokevirtual 79, 3) := by decide +kernel
theorem dX11_places_33 : decode cX11_places 33 = .ok (.iload_n 2, 1) := by decide +kernel
theorem dX11_places_34 : decode cX11_places 34 = .ok (.ireturn, 1) := by decide +kernel
theorem dX11_dog_0 : decode cX11_dog 0 = .ok (.iload_n 1, 1) := by decide +kernel
theorem dX11_dog_1 : decode cX11_dog 1 = .ok (.invokestatic 83, 3) := by decide +kernel
theorem dX11_dog_4 : decode cX11_dog 4 = .ok (.ifCond .eq 25, 3) := by decide +kernel
theorem dX11_dog_7 : decode cX11_dog 7 = .ok (.aload_n 0, 1) := by decide +kernel
theorem dX11_dog_8 : decode cX11_dog 8 = .ok (.getfield 12, 3) := by decide +kernel
theorem dX11_dog_11 : decode cX11_dog 11 = .ok (.iload_n 2, 1) := by decide +kernel
theorem dX11_dog_12 : decode cX11_dog 12 = .ok (.invokevirtual 87, 3) := by decide +kernel
theorem dX11_dog_15 : decode cX11_dog 15 = .ok (.ifCond .eq 14, 3) := by decide +kernel
theorem dX11_dog_18 : decode cX11_dog 18 = .ok (.aload_n 0, 1) := by decide +kernel
theorem dX11_dog_19 : decode cX11_dog 19 = .ok (.getfield 12, 3) := by decide +kernel
theorem dX11_dog_22 : decode cX11_dog 22 = .ok (.iload_n 3, 1) := by decide +kernel
theorem dX11_dog_23 : decode cX11_dog 23 = .ok (.invokevirtual 87, 3) := by decide +kernel
theorem dX11_dog_26 : decode cX11_dog 26 = .ok (.ifCond .ne 10, 3) := by decide +kernel
theorem dX11_dog_29 : decode cX11_dog 29 = .ok (.aload_n 0, 1) := by decide +kernel
theorem dX11_dog_30 : decode cX11_dog 30 = .ok (.bipush (-2), 2) := by decide +kernel
theorem dX11_dog_32 : decode cX11_dog 32 = .ok (.invokevirtual 72, 3) := by decide +kernel
theorem dX11_dog_35 : decode cX11_dog 35 = .ok (.ireturn, 1) := by decide +kernel
theorem dX11_dog_36 : decode cX11_dog 36 = .ok (.aload_n 0, 1) := by decide +kernel
theorem dX11_dog_37 : decode cX11_dog 37 = .ok (.getfield 12, 3) := by decide +kernel
theorem dX11_dog_40 : decode cX11_dog 40 = .ok (.invokevirtual 90, 3) := by decide +kernel
theorem dX11_dog_43 : decode cX11_dog 43 = .ok (.ifCond .eq 8, 3) := by decide +kernel
theorem dX11_dog_46 : decode cX11_dog 46 = .ok (.aload_n 0, 1) := by decide +kernel
theorem dX11_dog_47 : decode cX11_dog 47 = .ok (.invokevirtual 94, 3) := by decide +kernel
theorem dX11_dog_50 : decode cX11_dog 50 = .ok (.ireturn, 1) := by decide +kernel
theorem dX11_dog_51 : decode cX11_dog 51 = .ok (.aload_n 0, 1) := by decide +kernel
theorem dX11_dog_52 : decode cX11_dog 52 = .ok (.getfield 12, 3) := by decide +kernel
theorem dX11_dog_55 : decode cX11_dog 55 = .ok (.iload_n 1, 1) := by decide +kernel
theorem dX11_dog_56 : decode cX11_dog 56 = .ok (.iload_n 2, 1) := by decide +kernel
theorem dX11_dog_57 : decode cX11_dog 57 = .ok (.iload_n 3, 1) := by decide +kernel
theorem dX11_dog_58 : decode cX11_dog 58 = .ok (.invokestatic 98, 3) := by decide +kernel
theorem dX11_dog_61 : decode cX11_dog 61 = .ok (.invokevirtual 102, 3) := by decide +kernel
theorem dX11_dog_64 : decode cX11_dog 64 = .ok (.ireturn, 1) := by decide +kernel
theorem dX11_pup_0 : decode cX11_pup 0 = .ok (.iload_n 1, 1) := by decide +kernel
theorem dX11_pup_1 : decode cX11_pup 1 = .ok (.invokestatic 106, 3) := by decide +kernel
theorem dX11_pup_4 : decode cX11_pup 4 = .ok (.ifCond .eq 15, 3) := by decide +kernel
theorem dX11_pup_7 : decode cX11_pup 7 = .ok (.iload 6, 2) := by decide +kernel
theorem dX11_pup_9 : decode cX11_pup 9 = .ok (.iconst 1, 1) := by decide +kernel
theorem dX11_pup_10 : decode cX11_pup 10 = .ok (.if_icmp .lt 9, 3) := by decide +kernel
theorem dX11_pup_13 : decode cX11_pup 13 = .ok (.iload 6, 2) := by decide +kernel
theorem dX11_pup_15 : decode cX11_pup 15 = .ok (.iconst 3, 1) := by decide +kernel
theorem dX11_pup_16 : decode cX11_pup 16 = .ok (.if_icmp .le 10, 3) := by decide +kernel
theorem dX11_pup_19 : decode cX11_pup 19 = .ok (.aload_n 0, 1) := by decide +kernel
theorem dX11_pup_20 : decode cX11_pup 20 = .ok (.bipush (-2), 2) := by decide +kernel
theorem dX11_pup_22 : decode cX11_pup 22 = .ok (.invokevirtual 72, 3) := by decide +kernel
theorem dX11_pup_25 : decode cX11_pup 25 = .ok (.ireturn, 1) := by decide +kernel
theorem dX11_pup_26 : decode cX11_pup 26 = .ok (.aload_n 0, 1) := by decide +kernel
theorem dX11_pup_27 : decode cX11_pup 27 = .ok (.getfield 12, 3) := by decide +kernel
theorem dX11_pup_30 : decode cX11_pup 30 = .ok (.iload_n 2, 1) := by decide +kernel
theorem dX11_pup_31 : decode cX11_pup 31 = .ok (.invokevirtual 87, 3) := by decide +kernel
theorem dX11_pup_34 : decode cX11_pup 34 = .ok (.ifCond .eq 38, 3) := by decide +kernel
theorem dX11_pup_37 : decode cX11_pup 37 = .ok (.aload_n 0, 1) := by decide +kernel
theorem dX11_pup_38 : decode cX11_pup 38 = .ok (.getfield 12, 3) := by decide +kernel
theorem dX11_pup_41 : decode cX11_pup 41 = .ok (.iload_n 3, 1) := by decide +kernel
theorem dX11_pup_42 : decode cX11_pup 42 = .ok (.invokevirtual 87, 3) := by decide +kernel
theorem dX11_pup_45 : decode cX11_pup 45 = .ok (.ifCond .eq 27, 3) := by decide +kernel
theorem dX11_pup_48 : decode cX11_pup 48 = .ok (.aload_n 0, 1) := by decide +kernel
theorem dX11_pup_49 : decode cX11_pup 49 = .ok (.getfield 12, 3) := by decide +kernel
theorem dX11_pup_52 : decode cX11_pup 52 = .ok (.iload 4, 2) := by decide +kernel
theorem dX11_pup_54 : decode cX11_pup 54 = .ok (.invokevirtual 87, 3) := by decide +kernel
theorem dX11_pup_57 : decode cX11_pup 57 = .ok (.ifCond .eq 15, 3) := by decide +kernel
theorem dX11_pup_60 : decode cX11_pup 60 = .ok (.aload_n 0, 1) := by decide +kernel
theorem dX11_pup_61 : decode cX11_pup 61 = .ok (.getfield 12, 3) := by decide +kernel
theorem dX11_pup_64 : decode cX11_pup 64 = .ok (.iload 5, 2) := by decide +kernel
theorem dX11_pup_66 : decode cX11_pup 66 = .ok (.invokevirtual 87, 3) := by decide +kernel
theorem dX11_pup_69 : decode cX11_pup 69 = .ok (.ifCond .ne 10, 3) := by decide +kernel
theorem dX11_pup_72 : decode cX11_pup 72 = .ok (.aload_n 0, 1) := by decide +kernel
theorem dX11_pup_73 : decode cX11_pup 73 = .ok (.bipush (-2), 2) := by decide +kernel
theorem dX11_pup_75 : decode cX11_pup 75 = .ok (.invokevirtual 72, 3) := by decide +kernel
theorem dX11_pup_78 : decode cX11_pup 78 = .ok (.ireturn, 1) := by decide +kernel
theorem dX11_pup_79 : decode cX11_pup 79 = .ok (.aload_n 0, 1) := by decide +kernel
theorem dX11_pup_80 : decode cX11_pup 80 = .ok (.getfield 12, 3) := by decide +kernel
theorem dX11_pup_83 : decode cX11_pup 83 = .ok (.invokevirtual 90, 3) := by decide +kernel
theorem dX11_pup_86 : decode cX11_pup 86 = .ok (.ifCond .eq 8, 3) := by decide +kernel
theorem dX11_pup_89 : decode cX11_pup 89 = .ok (.aload_n 0, 1) := by decide +kernel
theorem dX11_pup_90 : decode cX11_pup 90 = .ok (.invokevirtual 94, 3) := by decide +kernel
theorem dX11_pup_93 : decode cX11_pup 93 = .ok (.ireturn, 1) := by decide +kernel
theorem dX11_pup_94 : decode cX11_pup 94 = .ok (.aload_n 0, 1) := by decide +kernel
theorem dX11_pup_95 : decode cX11_pup 95 = .ok (.getfield 12, 3) := by decide +kernel
theorem dX11_pup_98 : decode cX11_pup 98 = .ok (.iload_n 1, 1) := by decide +kernel
theorem dX11_pup_99 : decode cX11_pup 99 = .ok (.iload_n 2, 1) := by decide +kernel
theorem dX11_pup_100 : decode cX11_pup 100 = .ok (.iload_n 3, 1) := by decide +kernel
theorem dX11_pup_101 : decode cX11_pup 101 = .ok (.iload 4, 2) := by decide +kernel
theorem dX11_pup_103 : decode cX11_pup 103 = .ok (.iload 5, 2) := by decide +kernel
theorem dX11_pup_105 : decode cX11_pup 105 = .ok (.iload 6, 2) := by decide +kernel
theorem dX11_pup_107 : decode cX11_pup 107 = .ok (.invokestatic 109, 3) := by decide +kernel
theorem dX11_pup_110 : decode cX11_pup 110 = .ok (.invokevirtual 102, 3) := by decide +kernel
theorem dX11_pup_113 : decode cX11_pup 113 = .ok (.ireturn, 1) := by decide +kernel
theorem dX11_shut_0 : decode cX11_shut 0 = .ok (.aload_n 0, 1) := by decide +kernel
theorem dX11_shut_1 : decode cX11_shut 1 = .ok (.getfield 12, 3) := by decide +kernel
theorem dX11_shut_4 : decode cX11_shut 4 = .ok (.iload_n 1, 1) := by decide +kernel
theorem dX11_shut_5 : decode cX11_shut 5 = .ok (.invokevirtual 113, 3) := by decide +kernel
theorem dX11_shut_8 : decode cX11_shut 8 = .ok (.ifCond .ne 10, 3) := by decide +kernel
theorem dX11_shut_11 : decode cX11_shut 11 = .ok (.aload_n 0, 1) := by decide +kernel
theorem dX11_shut_12 : decode cX11_shut 12 = .ok (.bipush (-2), 2) := by decide +kernel
theorem dX11_shut_14 : decode cX11_shut 14 = .ok (.invokevirtual 72, 3) := by decide +kernel
theorem dX11_shut_17 : decode cX11_shut 17 = .ok (.ireturn, 1) := by decide +kernel
theorem dX11_shut_18 : decode cX11_shut 18 = .ok (.aload_n 0, 1) := by decide +kernel
theorem dX11_shut_19 : decode cX11_shut 19 = .ok (.getfield 12, 3) := by decide +kernel
theorem dX11_shut_22 : decode cX11_shut 22 = .ok (.getfield 116, 3) := by decide +kernel
theorem dX11_shut_25 : decode cX11_shut 25 = .ok (.iload_n 1, 1) := by decide +kernel
theorem dX11_shut_26 : decode cX11_shut 26 = .ok (.invokestatic 119, 3) := by decide +kernel
theorem dX11_shut_29 : decode cX11_shut 29 = .ok (.iload_n 2, 1) := by decide +kernel
theorem dX11_shut_30 : decode cX11_shut 30 = .ok (.if_icmp .ne 8, 3) := by decide +kernel
theorem dX11_shut_33 : decode cX11_shut 33 = .ok (.aload_n 0, 1) := by decide +kernel
theorem dX11_shut_34 : decode cX11_shut 34 = .ok (.invokevirtual 123, 3) := by decide +kernel
theorem dX11_shut_37 : decode cX11_shut 37 = .ok (.ireturn, 1) := by decide +kernel
theorem dX11_shut_38 : decode cX11_shut 38 = .ok (.aload_n 0, 1) := by decide +kernel
theorem dX11_shut_39 : decode cX11_shut 39 = .ok (.getfield 12, 3) := by decide +kernel
theorem dX11_shut_42 : decode cX11_shut 42 = .ok (.dup, 1) := by decide +kernel
theorem dX11_shut_43 : decode cX11_shut 43 = .ok (.getfield 116, 3) := by decide +kernel
theorem dX11_shut_46 : decode cX11_shut 46 = .ok (.iconst 1, 1) := by decide +kernel
theorem dX11_shut_47 : decode cX11_shut 47 = .ok (.iload_n 1, 1) := by decide +kernel
theorem dX11_shut_48 : decode cX11_shut 48 = .ok (.ishl, 1) := by decide +kernel
theorem dX11_shut_49 : decode cX11_shut 49 = .ok (.ixor, 1) := by decide +kernel
theorem dX11_shut_50 : decode cX11_shut 50 = .ok (.putfield 116, 3) := by decide +kernel
theorem dX11_shut_53 : decode cX11_shut 53 = .ok (.iconst 1, 1) := by decide +kernel
theorem dX11_shut_54 : decode cX11_shut 54 = .ok (.ireturn, 1) := by decide +kernel
theorem dX11_put_0 : decode cX11_put 0 = .ok (.aload_n 0, 1) := by decide +kernel
theorem dX11_put_1 : decode cX11_put 1 = .ok (.iload_n 1, 1) := by decide +kernel
theorem dX11_put_2 : decode cX11_put 2 = .ok (.iload_n 2, 1) := by decide +kernel
theorem dX11_put_3 : decode cX11_put 3 = .ok (.invokevirtual 126, 3) := by decide +kernel
theorem dX11_put_6 : decode cX11_put 6 = .ok (.ifCond .ne 10, 3) := by decide +kernel
theorem dX11_put_9 : decode cX11_put 9 = .ok (.aload_n 0, 1) := by decide +kernel
theorem dX11_put_10 : decode cX11_put 10 = .ok (.bipush (-2), 2) := by decide +kernel
theorem dX11_put_12 : decode cX11_put 12 = .ok (.invokevirtual 72, 3) := by decide +kernel
theorem dX11_put_15 : decode cX11_put 15 = .ok (.ireturn, 1) := by decide +kernel
theorem dX11_put_16 : decode cX11_put 16 = .ok (.iload_n 1, 1) := by decide +kernel
theorem dX11_put_17 : decode cX11_put 17 = .ok (.tableswitch 84 0 2 #[27, 46, 65], 27) := by decide +kernel
theorem dX11_put_44 : decode cX11_put 44 = .ok (.aload_n 0, 1) := by decide +kernel
theorem dX11_put_45 : decode cX11_put 45 = .ok (.getfield 12, 3) := by decide +kernel
theorem dX11_put_48 : decode cX11_put 48 = .ok (.getfield 129, 3) := by decide +kernel
theorem dX11_put_51 : decode cX11_put 51 = .ok (.istore_n 3, 1) := by decide +kernel
theorem dX11_put_52 : decode cX11_put 52 = .ok (.aload_n 0, 1) := by decide +kernel
theorem dX11_put_53 : decode cX11_put 53 = .ok (.getfield 12, 3) := by decide +kernel
theorem dX11_put_56 : decode cX11_put 56 = .ok (.iload_n 2, 1) := by decide +kernel
theorem dX11_put_57 : decode cX11_put 57 = .ok (.putfield 129, 3) := by decide +kernel
theorem dX11_put_60 : decode cX11_put 60 = .ok (.goto 57, 3) := by decide +kernel
theorem dX11_put_63 : decode cX11_put 63 = .ok (.aload_n 0, 1) := by decide +kernel
theorem dX11_put_64 : decode cX11_put 64 = .ok (.getfield 12, 3) := by decide +kernel
theorem dX11_put_67 : decode cX11_put 67 = .ok (.getfield 132, 3) := by decide +kernel
theorem dX11_put_70 : decode cX11_put 70 = .ok (.istore_n 3, 1) := by decide +kernel
theorem dX11_put_71 : decode cX11_put 71 = .ok (.aload_n 0, 1) := by decide +kernel
theorem dX11_put_72 : decode cX11_put 72 = .ok (.getfield 12, 3) := by decide +kernel
theorem dX11_put_75 : decode cX11_put 75 = .ok (.iload_n 2, 1) := by decide +kernel
theorem dX11_put_76 : decode cX11_put 76 = .ok (.putfield 132, 3) := by decide +kernel
theorem dX11_put_79 : decode cX11_put 79 = .ok (.goto 38, 3) := by decide +kernel
theorem dX11_put_82 : decode cX11_put 82 = .ok (.aload_n 0, 1) := by decide +kernel
theorem dX11_put_83 : decode cX11_put 83 = .ok (.getfield 12, 3) := by decide +kernel
theorem dX11_put_86 : decode cX11_put 86 = .ok (.getfield 135, 3) := by decide +kernel
theorem dX11_put_89 : decode cX11_put 89 = .ok (.istore_n 3, 1) := by decide +kernel
theorem dX11_put_90 : decode cX11_put 90 = .ok (.aload_n 0, 1) := by decide +kernel
theorem dX11_put_91 : decode cX11_put 91 = .ok (.getfield 12, 3) := by decide +kernel
theorem dX11_put_94 : decode cX11_put 94 = .ok (.iload_n 2, 1) := by decide +kernel
theorem dX11_put_95 : decode cX11_put 95 = .ok (.putfield 135, 3) := by decide +kernel
theorem dX11_put_98 : decode cX11_put 98 = .ok (.goto 19, 3) := by decide +kernel
theorem dX11_put_101 : decode cX11_put 101 = .ok (.aload_n 0, 1) := by decide +kernel
theorem dX11_put_102 : decode cX11_put 102 = .ok (.getfield 12, 3) := by decide +kernel
theorem dX11_put_105 : decode cX11_put 105 = .ok (.getfield 138, 3) := by decide +kernel
theorem dX11_put_108 : decode cX11_put 108 = .ok (.istore_n 3, 1) := by decide +kernel
theorem dX11_put_109 : decode cX11_put 109 = .ok (.aload_n 0, 1) := by decide +kernel
theorem dX11_put_110 : decode cX11_put 110 = .ok (.getfield 12, 3) := by decide +kernel
theorem dX11_put_113 : decode cX11_put 113 = .ok (.iload_n 2, 1) := by decide +kernel
theorem dX11_put_114 : decode cX11_put 114 = .ok (.putfield 138, 3) := by decide +kernel
theorem dX11_put_117 : decode cX11_put 117 = .ok (.iload_n 3, 1) := by decide +kernel
theorem dX11_put_118 : decode cX11_put 118 = .ok (.ireturn, 1) := by decide +kernel
theorem dX11_type_0 : decode cX11_type 0 = .ok (.iload_n 3, 1) := by decide +kernel
theorem dX11_type_1 : decode cX11_type 1 = .ok (.iconst 1, 1) := by decide +kernel
theorem dX11_type_2 : decode cX11_type 2 = .ok (.if_icmp .lt 9, 3) := by decide +kernel
theorem dX11_type_5 : decode cX11_type 5 = .ok (.iload_n 3, 1) := by decide +kernel
theorem dX11_type_6 : decode cX11_type 6 = .ok (.bipush 8, 2) := by decide +kernel
theorem dX11_type_8 : decode cX11_type 8 = .ok (.if_icmp .le 10, 3) := by decide +kernel
theorem dX11_type_11 : decode cX11_type 11 = .ok (.aload_n 0, 1) := by decide +kernel
theorem dX11_type_12 : decode cX11_type 12 = .ok (.bipush (-2), 2) := by decide +kernel
theorem dX11_type_14 : decode cX11_type 14 = .ok (.invokevirtual 72, 3) := by decide +kernel
theorem dX11_type_17 : decode cX11_type 17 = .ok (.ireturn, 1) := by decide +kernel
theorem dX11_type_18 : decode cX11_type 18 = .ok (.aload_n 0, 1) := by decide +kernel
theorem dX11_type_19 : decode cX11_type 19 = .ok (.getfield 24, 3) := by decide +kernel
theorem dX11_type_22 : decode cX11_type 22 = .ok (.iload_n 3, 1) := by decide +kernel
theorem dX11_type_23 : decode cX11_type 23 = .ok (.iadd, 1) := by decide +kernel
theorem dX11_type_24 : decode cX11_type 24 = .ok (.sipush 200, 3) := by decide +kernel
theorem dX11_type_27 : decode cX11_type 27 = .ok (.if_icmp .le 8, 3) := by decide +kernel
theorem dX11_type_30 : decode cX11_type 30 = .ok (.aload_n 0, 1) := by decide +kernel
theorem dX11_type_31 : decode cX11_type 31 = .ok (.invokevirtual 94, 3) := by decide +kernel
theorem dX11_type_34 : decode cX11_type 34 = .ok (.ireturn, 1) := by decide +kernel
theorem dX11_type_35 : decode cX11_type 35 = .ok (.iload_n 3, 1) := by decide +kernel
theorem dX11_type_36 : decode cX11_type 36 = .ok (.iconst 1, 1) := by decide +kernel
theorem dX11_type_37 : decode cX11_type 37 = .ok (.isub, 1) := by decide +kernel
theorem dX11_type_38 : decode cX11_type 38 = .ok (.istore 4, 2) := by decide +kernel
theorem dX11_type_40 : decode cX11_type 40 = .ok (.iload 4, 2) := by decide +kernel
theorem dX11_type_42 : decode cX11_type 42 = .ok (.ifCond .lt 37, 3) := by decide +kernel
theorem dX11_type_45 : decode cX11_type 45 = .ok (.aload_n 0, 1) := by decide +kernel
theorem dX11_type_46 : decode cX11_type 46 = .ok (.getfield 20, 3) := by decide +kernel
theorem dX11_type_49 : decode cX11_type 49 = .ok (.aload_n 0, 1) := by decide +kernel
theorem dX11_type_50 : decode cX11_type 50 = .ok (.getfield 24, 3) := by decide +kernel
theorem dX11_type_53 : decode cX11_type 53 = .ok (.lload_n 1, 1) := by decide +kernel
theorem dX11_type_54 : decode cX11_type 54 = .ok (.bipush 8, 2) := by decide +kernel
theorem dX11_type_56 : decode cX11_type 56 = .ok (.iload 4, 2) := by decide +kernel
theorem dX11_type_58 : decode cX11_type 58 = .ok (.imul, 1) := by decide +kernel
theorem dX11_type_59 : decode cX11_type 59 = .ok (.lushr, 1) := by decide +kernel
theorem dX11_type_60 : decode cX11_type 60 = .ok (.l2i, 1) := by decide +kernel
theorem dX11_type_61 : decode cX11_type 61 = .ok (.i2b, 1) := by decide +kernel
theorem dX11_type_62 : decode cX11_type 62 = .ok (.bastore, 1) := by decide +kernel
theorem dX11_type_63 : decode cX11_type 63 = .ok (.aload_n 0, 1) := by decide +kernel
theorem dX11_type_64 : decode cX11_type 64 = .ok (.dup, 1) := by decide +kernel
theorem dX11_type_65 : decode cX11_type 65 = .ok (.getfield 24, 3) := by decide +kernel
theorem dX11_type_68 : decode cX11_type 68 = .ok (.iconst 1, 1) := by decide +kernel
theorem dX11_type_69 : decode cX11_type 69 = .ok (.iadd, 1) := by decide +kernel
theorem dX11_type_70 : decode cX11_type 70 = .ok (.putfield 24, 3) := by decide +kernel
theorem dX11_type_73 : decode cX11_type 73 = .ok (.iinc 4 (-1), 3) := by decide +kernel
theorem dX11_type_76 : decode cX11_type 76 = .ok (.goto (-36), 3) := by decide +kernel
theorem dX11_type_79 : decode cX11_type 79 = .ok (.aload_n 0, 1) := by decide +kernel
theorem dX11_type_80 : decode cX11_type 80 = .ok (.getfield 24, 3) := by decide +kernel
theorem dX11_type_83 : decode cX11_type 83 = .ok (.ireturn, 1) := by decide +kernel
theorem dX11_clear_0 : decode cX11_clear 0 = .ok (.aload_n 0, 1) := by decide +kernel
theorem dX11_clear_1 : decode cX11_clear 1 = .ok (.getfield 24, 3) := by decide +kernel
theorem dX11_clear_4 : decode cX11_clear 4 = .ok (.istore_n 1, 1) := by decide +kernel
theorem dX11_clear_5 : decode cX11_clear 5 = .ok (.aload_n 0, 1) := by decide +kernel
theorem dX11_clear_6 : decode cX11_clear 6 = .ok (.iconst 0, 1) := by decide +kernel
theorem dX11_clear_7 : decode cX11_clear 7 = .ok (.putfield 24, 3) := by decide +kernel
theorem dX11_clear_10 : decode cX11_clear 10 = .ok (.iload_n 1, 1) := by decide +kernel
theorem dX11_clear_11 : decode cX11_clear 11 = .ok (.ireturn, 1) := by decide +kernel
theorem dX11_read_0 : decode cX11_read 0 = .ok (.new 141, 3) := by decide +kernel
theorem dX11_read_3 : decode cX11_read 3 = .ok (.dup, 1) := by decide +kernel
theorem dX11_read_4 : decode cX11_read 4 = .ok (.aload_n 0, 1) := by decide +kernel
theorem dX11_read_5 : decode cX11_read 5 = .ok (.getfield 20, 3) := by decide +kernel
theorem dX11_read_8 : decode cX11_read 8 = .ok (.aload_n 0, 1) := by decide +kernel
theorem dX11_read_9 : decode cX11_read 9 = .ok (.getfield 24, 3) := by decide +kernel
theorem dX11_read_12 : decode cX11_read 12 = .ok (.invokespecial 143, 3) := by decide +kernel
theorem dX11_read_15 : decode cX11_read 15 = .ok (.astore_n 1, 1) := by decide +kernel
theorem dX11_read_16 : decode cX11_read 16 = .ok (.aload_n 1, 1) := by decide +kernel
theorem dX11_read_17 : decode cX11_read 17 = .ok (.invokevirtual 146, 3) := by decide +kernel
theorem dX11_read_20 : decode cX11_read 20 = .ok (.aload_n 1, 1) := by decide +kernel
theorem dX11_read_21 : decode cX11_read 21 = .ok (.getfield 149, 3) := by decide +kernel
theorem dX11_read_24 : decode cX11_read 24 = .ok (.iconst (-1), 1) := by decide +kernel
theorem dX11_read_25 : decode cX11_read 25 = .ok (.if_icmp .eq 11, 3) := by decide +kernel
theorem dX11_read_28 : decode cX11_read 28 = .ok (.bipush (-10), 2) := by decide +kernel
theorem dX11_read_30 : decode cX11_read 30 = .ok (.aload_n 1, 1) := by decide +kernel
theorem dX11_read_31 : decode cX11_read 31 = .ok (.getfield 149, 3) := by decide +kernel
theorem dX11_read_34 : decode cX11_read 34 = .ok (.isub, 1) := by decide +kernel
theorem dX11_read_35 : decode cX11_read 35 = .ok (.ireturn, 1) := by decide +kernel
theorem dX11_read_36 : decode cX11_read 36 = .ok (.aload_n 0, 1) := by decide +kernel
theorem dX11_read_37 : decode cX11_read 37 = .ok (.aload_n 1, 1) := by decide +kernel
theorem dX11_read_38 : decode cX11_read 38 = .ok (.getfield 152, 3) := by decide +kernel
theorem dX11_read_41 : decode cX11_read 41 = .ok (.putfield 12, 3) := by decide +kernel
theorem dX11_read_44 : decode cX11_read 44 = .ok (.aload_n 0, 1) := by decide +kernel
theorem dX11_read_45 : decode cX11_read 45 = .ok (.getfield 12, 3) := by decide +kernel
theorem dX11_read_48 : decode cX11_read 48 = .ok (.getfield 155, 3) := by decide +kernel
theorem dX11_read_51 : decode cX11_read 51 = .ok (.ireturn, 1) := by decide +kernel
theorem dX11_goes_0 : decode cX11_goes 0 = .ok (.aload_n 0, 1) := by decide +kernel
theorem dX11_goes_1 : decode cX11_goes 1 = .ok (.getfield 12, 3) := by decide +kernel
theorem dX11_goes_4 : decode cX11_goes 4 = .ok (.iload_n 1, 1) := by decide +kernel
theorem dX11_goes_5 : decode cX11_goes 5 = .ok (.invokevirtual 158, 3) := by decide +kernel
theorem dX11_goes_8 : decode cX11_goes 8 = .ok (.astore 5, 2) := by decide +kernel
theorem dX11_goes_10 : decode cX11_goes 10 = .ok (.aload 5, 2) := by decide +kernel
theorem dX11_goes_12 : decode cX11_goes 12 = .ok (.ifnull 35, 3) := by decide +kernel
theorem dX11_goes_15 : decode cX11_goes 15 = .ok (.aload_n 0, 1) := by decide +kernel
theorem dX11_goes_16 : decode cX11_goes 16 = .ok (.getfield 12, 3) := by decide +kernel
theorem dX11_goes_19 : decode cX11_goes 19 = .ok (.iload_n 2, 1) := by decide +kernel
theorem dX11_goes_20 : decode cX11_goes 20 = .ok (.invokevirtual 113, 3) := by decide +kernel
theorem dX11_goes_23 : decode cX11_goes 23 = .ok (.ifCond .eq 24, 3) := by decide +kernel
theorem dX11_goes_26 : decode cX11_goes 26 = .ok (.iload_n 3, 1) := by decide +kernel
theorem dX11_goes_27 : decode cX11_goes 27 = .ok (.ifCond .lt 20, 3) := by decide +kernel
theorem dX11_goes_30 : decode cX11_goes 30 = .ok (.iload_n 3, 1) := by decide +kernel
theorem dX11_goes_31 : decode cX11_goes 31 = .ok (.iconst 1, 1) := by decide +kernel
theorem dX11_goes_32 : decode cX11_goes 32 = .ok (.if_icmp .gt 15, 3) := by decide +kernel
theorem dX11_goes_35 : decode cX11_goes 35 = .ok (.iload 4, 2) := by decide +kernel
theorem dX11_goes_37 : decode cX11_goes 37 = .ok (.ifCond .lt 10, 3) := by decide +kernel
theorem dX11_goes_40 : decode cX11_goes 40 = .ok (.iload 4, 2) := by decide +kernel
theorem dX11_goes_42 : decode cX11_goes 42 = .ok (.bipush 99, 2) := by decide +kernel
theorem dX11_goes_44 : decode cX11_goes 44 = .ok (.if_icmp .le 10, 3) := by decide +kernel
theorem dX11_goes_47 : decode cX11_goes 47 = .ok (.aload_n 0, 1) := by decide +kernel
theorem dX11_goes_48 : decode cX11_goes 48 = .ok (.bipush (-2), 2) := by decide +kernel
theorem dX11_goes_50 : decode cX11_goes 50 = .ok (.invokevirtual 72, 3) := by decide +kernel
theorem dX11_goes_53 : decode cX11_goes 53 = .ok (.ireturn, 1) := by decide +kernel
theorem dX11_goes_54 : decode cX11_goes 54 = .ok (.aload 5, 2) := by decide +kernel
theorem dX11_goes_56 : decode cX11_goes 56 = .ok (.iload_n 2, 1) := by decide +kernel
theorem dX11_goes_57 : decode cX11_goes 57 = .ok (.iload_n 3, 1) := by decide +kernel
theorem dX11_goes_58 : decode cX11_goes 58 = .ok (.iload 4, 2) := by decide +kernel
theorem dX11_goes_60 : decode cX11_goes 60 = .ok (.aload_n 0, 1) := by decide +kernel
theorem dX11_goes_61 : decode cX11_goes 61 = .ok (.getfield 12, 3) := by decide +kernel
theorem dX11_goes_64 : decode cX11_goes 64 = .ok (.getfield 116, 3) := by decide +kernel
theorem dX11_goes_67 : decode cX11_goes 67 = .ok (.invokevirtual 162, 3) := by decide +kernel
theorem dX11_goes_70 : decode cX11_goes 70 = .ok (.ireturn, 1) := by decide +kernel
theorem dX11_run_0 : decode cX11_run 0 = .ok (.aload_n 0, 1) := by decide +kernel
theorem dX11_run_1 : decode cX11_run 1 = .ok (.getfield 12, 3) := by decide +kernel
theorem dX11_run_4 : decode cX11_run 4 = .ok (.iload_n 1, 1) := by decide +kernel
theorem dX11_run_5 : decode cX11_run 5 = .ok (.invokevirtual 158, 3) := by decide +kernel
theorem dX11_run_8 : decode cX11_run 8 = .ok (.astore 5, 2) := by decide +kernel
theorem dX11_run_10 : decode cX11_run 10 = .ok (.aload 5, 2) := by decide +kernel
theorem dX11_run_12 : decode cX11_run 12 = .ok (.ifnull 23, 3) := by decide +kernel
theorem dX11_run_15 : decode cX11_run 15 = .ok (.aload_n 0, 1) := by decide +kernel
theorem dX11_run_16 : decode cX11_run 16 = .ok (.getfield 12, 3) := by decide +kernel
theorem dX11_run_19 : decode cX11_run 19 = .ok (.iload_n 2, 1) := by decide +kernel
theorem dX11_run_20 : decode cX11_run 20 = .ok (.invokevirtual 113, 3) := by decide +kernel
theorem dX11_run_23 : decode cX11_run 23 = .ok (.ifCond .eq 12, 3) := by decide +kernel
theorem dX11_run_26 : decode cX11_run 26 = .ok (.iload_n 3, 1) := by decide +kernel
theorem dX11_run_27 : decode cX11_run 27 = .ok (.iload 4, 2) := by decide +kernel
theorem dX11_run_29 : decode cX11_run 29 = .ok (.invokestatic 168, 3) := by decide +kernel
theorem dX11_run_32 : decode cX11_run 32 = .ok (.ifCond .ne 10, 3) := by decide +kernel
theorem dX11_run_35 : decode cX11_run 35 = .ok (.aload_n 0, 1) := by decide +kernel
theorem dX11_run_36 : decode cX11_run 36 = .ok (.bipush (-2), 2) := by decide +kernel
theorem dX11_run_38 : decode cX11_run 38 = .ok (.invokevirtual 72, 3) := by decide +kernel
theorem dX11_run_41 : decode cX11_run 41 = .ok (.ireturn, 1) := by decide +kernel
theorem dX11_run_42 : decode cX11_run 42 = .ok (.aload 5, 2) := by decide +kernel
theorem dX11_run_44 : decode cX11_run 44 = .ok (.iload_n 2, 1) := by decide +kernel
theorem dX11_run_45 : decode cX11_run 45 = .ok (.iload_n 3, 1) := by decide +kernel
theorem dX11_run_46 : decode cX11_run 46 = .ok (.iload 4, 2) := by decide +kernel
theorem dX11_run_48 : decode cX11_run 48 = .ok (.aload_n 0, 1) := by decide +kernel
theorem dX11_run_49 : decode cX11_run 49 = .ok (.getfield 12, 3) := by decide +kernel
theorem dX11_run_52 : decode cX11_run 52 = .ok (.getfield 116, 3) := by decide +kernel
theorem dX11_run_55 : decode cX11_run 55 = .ok (.invokevirtual 171, 3) := by decide +kernel
theorem dX11_run_58 : decode cX11_run 58 = .ok (.ireturn, 1) := by decide +kernel
theorem dX11_meets_0 : decode cX11_meets 0 = .ok (.aload_n 0, 1) := by decide +kernel
theorem dX11_meets_1 : decode cX11_meets 1 = .ok (.getfield 12, 3) := by decide +kernel
theorem dX11_meets_4 : decode cX11_meets 4 = .ok (.iload_n 1, 1) := by decide +kernel
theorem dX11_meets_5 : decode cX11_meets 5 = .ok (.invokevirtual 158, 3) := by decide +kernel
theorem dX11_meets_8 : decode cX11_meets 8 = .ok (.astore 4, 2) := by decide +kernel
theorem dX11_meets_10 : decode cX11_meets 10 = .ok (.aload 4, 2) := by decide +kernel
theorem dX11_meets_12 : decode cX11_meets 12 = .ok (.ifnull 11, 3) := by decide +kernel
theorem dX11_meets_15 : decode cX11_meets 15 = .ok (.iload_n 2, 1) := by decide +kernel
theorem dX11_meets_16 : decode cX11_meets 16 = .ok (.iload_n 3, 1) := by decide +kernel
theorem dX11_meets_17 : decode cX11_meets 17 = .ok (.invokestatic 168, 3) := by decide +kernel
theorem dX11_meets_20 : decode cX11_meets 20 = .ok (.ifCond .ne 10, 3) := by decide +kernel
theorem dX11_meets_23 : decode cX11_meets 23 = .ok (.aload_n 0, 1) := by decide +kernel
theorem dX11_meets_24 : decode cX11_meets 24 = .ok (.bipush (-2), 2) := by decide +kernel
theorem dX11_meets_26 : decode cX11_meets 26 = .ok (.invokevirtual 72, 3) := by decide +kernel
theorem dX11_meets_29 : decode cX11_meets 29 = .ok (.ireturn, 1) := by decide +kernel
theorem dX11_meets_30 : decode cX11_meets 30 = .ok (.iconst 0, 1) := by decide +kernel
theorem dX11_meets_31 : decode cX11_meets 31 = .ok (.istore 5, 2) := by decide +kernel
theorem dX11_meets_33 : decode cX11_meets 33 = .ok (.iconst 0, 1) := by decide +kernel
theorem dX11_meets_34 : decode cX11_meets 34 = .ok (.istore 6, 2) := by decide +kernel
theorem dX11_meets_36 : decode cX11_meets 36 = .ok (.iload 6, 2) := by decide +kernel
theorem dX11_meets_38 : decode cX11_meets 38 = .ok (.aload_n 0, 1) := by decide +kernel
theorem dX11_meets_39 : decode cX11_meets 39 = .ok (.getfield 12, 3) := by decide +kernel
theorem dX11_meets_42 : decode cX11_meets 42 = .ok (.getfield 76, 3) := by decide +kernel
theorem dX11_meets_45 : decode cX11_meets 45 = .ok (.if_icmp .ge 32, 3) := by decide +kernel
theorem dX11_meets_48 : decode cX11_meets 48 = .ok (.iload 5, 2) := by decide +kernel
theorem dX11_meets_50 : decode cX11_meets 50 = .ok (.iconst 1, 1) := by decide +kernel
theorem dX11_meets_51 : decode cX11_meets 51 = .ok (.aload 4, 2) := by decide +kernel
theorem dX11_meets_53 : decode cX11_meets 53 = .ok (.iload 6, 2) := by decide +kernel
theorem dX11_meets_55 : decode cX11_meets 55 = .ok (.iload_n 2, 1) := by decide +kernel
theorem dX11_meets_56 : decode cX11_meets 56 = .ok (.iload_n 3, 1) := by decide +kernel
theorem dX11_meets_57 : decode cX11_meets 57 = .ok (.aload_n 0, 1) := by decide +kernel
theorem dX11_meets_58 : decode cX11_meets 58 = .ok (.getfield 12, 3) := by decide +kernel
theorem dX11_meets_61 : decode cX11_meets 61 = .ok (.getfield 116, 3) := by decide +kernel
theorem dX11_meets_64 : decode cX11_meets 64 = .ok (.invokevirtual 171, 3) := by decide +kernel
theorem dX11_meets_67 : decode cX11_meets 67 = .ok (.ishl, 1) := by decide +kernel
theorem dX11_meets_68 : decode cX11_meets 68 = .ok (.ior, 1) := by decide +kernel
theorem dX11_meets_69 : decode cX11_meets 69 = .ok (.istore 5, 2) := by decide +kernel
theorem dX11_meets_71 : decode cX11_meets 71 = .ok (.iinc 6 1, 3) := by decide +kernel
theorem dX11_meets_74 : decode cX11_meets 74 = .ok (.goto (-38), 3) := by decide +kernel
theorem dX11_meets_77 : decode cX11_meets 77 = .ok (.iload 5, 2) := by decide +kernel
theorem dX11_meets_79 : decode cX11_meets 79 = .ok (.ireturn, 1) := by decide +kernel
theorem dX11_tame_0 : decode cX11_tame 0 = .ok (.aload_n 0, 1) := by decide +kernel
theorem dX11_tame_1 : decode cX11_tame 1 = .ok (.getfield 12, 3) := by decide +kernel
theorem dX11_tame_4 : decode cX11_tame 4 = .ok (.iload_n 1, 1) := by decide +kernel
theorem dX11_tame_5 : decode cX11_tame 5 = .ok (.invokevirtual 174, 3) := by decide +kernel
theorem dX11_tame_8 : decode cX11_tame 8 = .ok (.ifCond .eq 12, 3) := by decide +kernel
theorem dX11_tame_11 : decode cX11_tame 11 = .ok (.iload_n 2, 1) := by decide +kernel
theorem dX11_tame_12 : decode cX11_tame 12 = .ok (.ifCond .lt 8, 3) := by decide +kernel
theorem dX11_tame_15 : decode cX11_tame 15 = .ok (.iload_n 2, 1) := by decide +kernel
theorem dX11_tame_16 : decode cX11_tame 16 = .ok (.iconst 1, 1) := by decide +kernel
theorem dX11_tame_17 : decode cX11_tame 17 = .ok (.if_icmp .le 10, 3) := by decide +kernel
theorem dX11_tame_20 : decode cX11_tame 20 = .ok (.aload_n 0, 1) := by decide +kernel
theorem dX11_tame_21 : decode cX11_tame 21 = .ok (.bipush (-10), 2) := by decide +kernel
theorem dX11_tame_23 : decode cX11_tame 23 = .ok (.invokevirtual 72, 3) := by decide +kernel
theorem dX11_tame_26 : decode cX11_tame 26 = .ok (.ireturn, 1) := by decide +kernel
theorem dX11_tame_27 : decode cX11_tame 27 = .ok (.aload_n 0, 1) := by decide +kernel
theorem dX11_tame_28 : decode cX11_tame 28 = .ok (.getfield 47, 3) := by decide +kernel
theorem dX11_tame_31 : decode cX11_tame 31 = .ok (.aload_n 0, 1) := by decide +kernel
theorem dX11_tame_32 : decode cX11_tame 32 = .ok (.getfield 12, 3) := by decide +kernel
theorem dX11_tame_35 : decode cX11_tame 35 = .ok (.iload_n 1, 1) := by decide +kernel
theorem dX11_tame_36 : decode cX11_tame 36 = .ok (.aload_n 0, 1) := by decide +kernel
theorem dX11_tame_37 : decode cX11_tame 37 = .ok (.getfield 12, 3) := by decide +kernel
theorem dX11_tame_40 : decode cX11_tame 40 = .ok (.getfield 116, 3) := by decide +kernel
theorem dX11_tame_43 : decode cX11_tame 43 = .ok (.invokevirtual 177, 3) := by decide +kernel
theorem dX11_tame_46 : decode cX11_tame 46 = .ok (.aload_n 0, 1) := by decide +kernel
theorem dX11_tame_47 : decode cX11_tame 47 = .ok (.getfield 47, 3) := by decide +kernel
theorem dX11_tame_50 : decode cX11_tame 50 = .ok (.iconst 1, 1) := by decide +kernel
theorem dX11_tame_51 : decode cX11_tame 51 = .ok (.iconst 1, 1) := by decide +kernel
theorem dX11_tame_52 : decode cX11_tame 52 = .ok (.invokevirtual 181, 3) := by decide +kernel
theorem dX11_tame_55 : decode cX11_tame 55 = .ok (.ifCond .eq 14, 3) := by decide +kernel
theorem dX11_tame_58 : decode cX11_tame 58 = .ok (.aload_n 0, 1) := by decide +kernel
theorem dX11_tame_59 : decode cX11_tame 59 = .ok (.getfield 47, 3) := by decide +kernel
theorem dX11_tame_62 : decode cX11_tame 62 = .ok (.iload_n 2, 1) := by decide +kernel
theorem dX11_tame_63 : decode cX11_tame 63 = .ok (.invokevirtual 184, 3) := by decide +kernel
theorem dX11_tame_66 : decode cX11_tame 66 = .ok (.goto 4, 3) := by decide +kernel
theorem dX11_tame_69 : decode cX11_tame 69 = .ok (.iconst (-1), 1) := by decide +kernel
theorem dX11_tame_70 : decode cX11_tame 70 = .ok (.ireturn, 1) := by decide +kernel
theorem dX11_quiet_0 : decode cX11_quiet 0 = .ok (.aload_n 0, 1) := by decide +kernel
theorem dX11_quiet_1 : decode cX11_quiet 1 = .ok (.getfield 12, 3) := by decide +kernel
theorem dX11_quiet_4 : decode cX11_quiet 4 = .ok (.iload_n 1, 1) := by decide +kernel
theorem dX11_quiet_5 : decode cX11_quiet 5 = .ok (.invokevirtual 174, 3) := by decide +kernel
theorem dX11_quiet_8 : decode cX11_quiet 8 = .ok (.ifCond .ne 10, 3) := by decide +kernel
theorem dX11_quiet_11 : decode cX11_quiet 11 = .ok (.aload_n 0, 1) := by decide +kernel
theorem dX11_quiet_12 : decode cX11_quiet 12 = .ok (.bipush (-2), 2) := by decide +kernel
theorem dX11_quiet_14 : decode cX11_quiet 14 = .ok (.invokevirtual 72, 3) := by decide +kernel
theorem dX11_quiet_17 : decode cX11_quiet 17 = .ok (.ireturn, 1) := by decide +kernel
theorem dX11_quiet_18 : decode cX11_quiet 18 = .ok (.aload_n 0, 1) := by decide +kernel
theorem dX11_quiet_19 : decode cX11_quiet 19 = .ok (.getfield 47, 3) := by decide +kernel
theorem dX11_quiet_22 : decode cX11_quiet 22 = .ok (.aload_n 0, 1) := by decide +kernel
theorem dX11_quiet_23 : decode cX11_quiet 23 = .ok (.getfield 12, 3) := by decide +kernel
theorem dX11_quiet_26 : decode cX11_quiet 26 = .ok (.iload_n 1, 1) := by decide +kernel
theorem dX11_quiet_27 : decode cX11_quiet 27 = .ok (.aload_n 0, 1) := by decide +kernel
theorem dX11_quiet_28 : decode cX11_quiet 28 = .ok (.getfield 12, 3) := by decide +kernel
theorem dX11_quiet_31 : decode cX11_quiet 31 = .ok (.getfield 116, 3) := by decide +kernel
theorem dX11_quiet_34 : decode cX11_quiet 34 = .ok (.invokevirtual 177, 3) := by decide +kernel
theorem dX11_quiet_37 : decode cX11_quiet 37 = .ok (.aload_n 0, 1) := by decide +kernel
theorem dX11_quiet_38 : decode cX11_quiet 38 = .ok (.getfield 47, 3) := by decide +kernel
theorem dX11_quiet_41 : decode cX11_quiet 41 = .ok (.aload_n 0, 1) := by decide +kernel
theorem dX11_quiet_42 : decode cX11_quiet 42 = .ok (.getfield 12, 3) := by decide +kernel
theorem dX11_quiet_45 : decode cX11_quiet 45 = .ok (.getfield 135, 3) := by decide +kernel
theorem dX11_quiet_48 : decode cX11_quiet 48 = .ok (.aload_n 0, 1) := by decide +kernel
theorem dX11_quiet_49 : decode cX11_quiet 49 = .ok (.getfield 12, 3) := by decide +kernel
theorem dX11_quiet_52 : decode cX11_quiet 52 = .ok (.getfield 138, 3) := by decide +kernel
theorem dX11_quiet_55 : decode cX11_quiet 55 = .ok (.invokevirtual 181, 3) := by decide +kernel
theorem dX11_quiet_58 : decode cX11_quiet 58 = .ok (.ifCond .eq 13, 3) := by decide +kernel
theorem dX11_quiet_61 : decode cX11_quiet 61 = .ok (.aload_n 0, 1) := by decide +kernel
theorem dX11_quiet_62 : decode cX11_quiet 62 = .ok (.getfield 47, 3) := by decide +kernel
theorem dX11_quiet_65 : decode cX11_quiet 65 = .ok (.invokevirtual 187, 3) := by decide +kernel
theorem dX11_quiet_68 : decode cX11_quiet 68 = .ok (.goto 4, 3) := by decide +kernel
theorem dX11_quiet_71 : decode cX11_quiet 71 = .ok (.iconst (-1), 1) := by decide +kernel
theorem dX11_quiet_72 : decode cX11_quiet 72 = .ok (.ireturn, 1) := by decide +kernel
theorem dX11_apart_0 : decode cX11_apart 0 = .ok (.aload_n 0, 1) := by decide +kernel
theorem dX11_apart_1 : decode cX11_apart 1 = .ok (.getfield 12, 3) := by decide +kernel
theorem dX11_apart_4 : decode cX11_apart 4 = .ok (.iload_n 1, 1) := by decide +kernel
theorem dX11_apart_5 : decode cX11_apart 5 = .ok (.invokevirtual 158, 3) := by decide +kernel
theorem dX11_apart_8 : decode cX11_apart 8 = .ok (.astore_n 2, 1) := by decide +kernel
theorem dX11_apart_9 : decode cX11_apart 9 = .ok (.aload_n 2, 1) := by decide +kernel
theorem dX11_apart_10 : decode cX11_apart 10 = .ok (.ifnonnull 10, 3) := by decide +kernel
theorem dX11_apart_13 : decode cX11_apart 13 = .ok (.aload_n 0, 1) := by decide +kernel
theorem dX11_apart_14 : decode cX11_apart 14 = .ok (.bipush (-2), 2) := by decide +kernel
theorem dX11_apart_16 : decode cX11_apart 16 = .ok (.invokevirtual 72, 3) := by decide +kernel
theorem dX11_apart_19 : decode cX11_apart 19 = .ok (.ireturn, 1) := by decide +kernel
theorem dX11_apart_20 : decode cX11_apart 20 = .ok (.aload_n 0, 1) := by decide +kernel
theorem dX11_apart_21 : decode cX11_apart 21 = .ok (.getfield 54, 3) := by decide +kernel
theorem dX11_apart_24 : decode cX11_apart 24 = .ok (.aload_n 2, 1) := by decide +kernel
theorem dX11_apart_25 : decode cX11_apart 25 = .ok (.aload_n 0, 1) := by decide +kernel
theorem dX11_apart_26 : decode cX11_apart 26 = .ok (.getfield 12, 3) := by decide +kernel
theorem dX11_apart_29 : decode cX11_apart 29 = .ok (.getfield 76, 3) := by decide +kernel
theorem dX11_apart_32 : decode cX11_apart 32 = .ok (.aload_n 0, 1) := by decide +kernel
theorem dX11_apart_33 : decode cX11_apart 33 = .ok (.getfield 12, 3) := by decide +kernel
theorem dX11_apart_36 : decode cX11_apart 36 = .ok (.getfield 116, 3) := by decide +kernel
theorem dX11_apart_39 : decode cX11_apart 39 = .ok (.invokevirtual 190, 3) := by decide +kernel
theorem dX11_apart_42 : decode cX11_apart 42 = .ok (.aload_n 0, 1) := by decide +kernel
theorem dX11_apart_43 : decode cX11_apart 43 = .ok (.getfield 54, 3) := by decide +kernel
theorem dX11_apart_46 : decode cX11_apart 46 = .ok (.invokevirtual 194, 3) := by decide +kernel
theorem dX11_apart_49 : decode cX11_apart 49 = .ok (.iconst 0, 1) := by decide +kernel
theorem dX11_apart_50 : decode cX11_apart 50 = .ok (.istore_n 3, 1) := by decide +kernel
theorem dX11_apart_51 : decode cX11_apart 51 = .ok (.iload_n 3, 1) := by decide +kernel
theorem dX11_apart_52 : decode cX11_apart 52 = .ok (.aload_n 0, 1) := by decide +kernel
theorem dX11_apart_53 : decode cX11_apart 53 = .ok (.getfield 12, 3) := by decide +kernel
theorem dX11_apart_56 : decode cX11_apart 56 = .ok (.getfield 76, 3) := by decide +kernel
theorem dX11_apart_59 : decode cX11_apart 59 = .ok (.if_icmp .ge 53, 3) := by decide +kernel
theorem dX11_apart_62 : decode cX11_apart 62 = .ok (.iload_n 3, 1) := by decide +kernel
theorem dX11_apart_63 : decode cX11_apart 63 = .ok (.iconst 1, 1) := by decide +kernel
theorem dX11_apart_64 : decode cX11_apart 64 = .ok (.iadd, 1) := by decide +kernel
theorem dX11_apart_65 : decode cX11_apart 65 = .ok (.istore 4, 2) := by decide +kernel
theorem dX11_apart_67 : decode cX11_apart 67 = .ok (.iload 4, 2) := by decide +kernel
theorem dX11_apart_69 : decode cX11_apart 69 = .ok (.aload_n 0, 1) := by decide +kernel
theorem dX11_apart_70 : decode cX11_apart 70 = .ok (.getfield 12, 3) := by decide +kernel
theorem dX11_apart_73 : decode cX11_apart 73 = .ok (.getfield 76, 3) := by decide +kernel
theorem dX11_apart_76 : decode cX11_apart 76 = .ok (.if_icmp .ge 30, 3) := by decide +kernel
theorem dX11_apart_79 : decode cX11_apart 79 = .ok (.aload_n 0, 1) := by decide +kernel
theorem dX11_apart_80 : decode cX11_apart 80 = .ok (.getfield 54, 3) := by decide +kernel
theorem dX11_apart_83 : decode cX11_apart 83 = .ok (.iload_n 3, 1) := by decide +kernel
theorem dX11_apart_84 : decode cX11_apart 84 = .ok (.iload 4, 2) := by decide +kernel
theorem dX11_apart_86 : decode cX11_apart 86 = .ok (.invokevirtual 197, 3) := by decide +kernel
theorem dX11_apart_89 : decode cX11_apart 89 = .ok (.ifCond .ne 11, 3) := by decide +kernel
theorem dX11_apart_92 : decode cX11_apart 92 = .ok (.bipush 10, 2) := by decide +kernel
theorem dX11_apart_94 : decode cX11_apart 94 = .ok (.iload_n 3, 1) := by decide +kernel
theorem dX11_apart_95 : decode cX11_apart 95 = .ok (.imul, 1) := by decide +kernel
theorem dX11_apart_96 : decode cX11_apart 96 = .ok (.iload 4, 2) := by decide +kernel
theorem dX11_apart_98 : decode cX11_apart 98 = .ok (.iadd, 1) := by decide +kernel
theorem dX11_apart_99 : decode cX11_apart 99 = .ok (.ireturn, 1) := by decide +kernel
theorem dX11_apart_100 : decode cX11_apart 100 = .ok (.iinc 4 1, 3) := by decide +kernel
theorem dX11_apart_103 : decode cX11_apart 103 = .ok (.goto (-36), 3) := by decide +kernel
theorem dX11_apart_106 : decode cX11_apart 106 = .ok (.iinc 3 1, 3) := by decide +kernel
theorem dX11_apart_109 : decode cX11_apart 109 = .ok (.goto (-58), 3) := by decide +kernel
theorem dX11_apart_112 : decode cX11_apart 112 = .ok (.iconst (-1), 1) := by decide +kernel
theorem dX11_apart_113 : decode cX11_apart 113 = .ok (.ireturn, 1) := by decide +kernel
theorem dX11_shuts_0 : decode cX11_shuts 0 = .ok (.aload_n 0, 1) := by decide +kernel
theorem dX11_shuts_1 : decode cX11_shuts 1 = .ok (.getfield 12, 3) := by decide +kernel
theorem dX11_shuts_4 : decode cX11_shuts 4 = .ok (.iload_n 1, 1) := by decide +kernel
theorem dX11_shuts_5 : decode cX11_shuts 5 = .ok (.invokevirtual 174, 3) := by decide +kernel
theorem dX11_shuts_8 : decode cX11_shuts 8 = .ok (.ifCond .ne 10, 3) := by decide +kernel
theorem dX11_shuts_11 : decode cX11_shuts 11 = .ok (.aload_n 0, 1) := by decide +kernel
theorem dX11_shuts_12 : decode cX11_shuts 12 = .ok (.bipush (-2), 2) := by decide +kernel
theorem dX11_shuts_14 : decode cX11_shuts 14 = .ok (.invokevirtual 72, 3) := by decide +kernel
theorem dX11_shuts_17 : decode cX11_shuts 17 = .ok (.ireturn, 1) := by decide +kernel
theorem dX11_shuts_18 : decode cX11_shuts 18 = .ok (.aload_n 0, 1) := by decide +kernel
theorem dX11_shuts_19 : decode cX11_shuts 19 = .ok (.getfield 12, 3) := by decide +kernel
theorem dX11_shuts_22 : decode cX11_shuts 22 = .ok (.invokevirtual 200, 3) := by decide +kernel
theorem dX11_shuts_25 : decode cX11_shuts 25 = .ok (.istore_n 2, 1) := by decide +kernel
theorem dX11_shuts_26 : decode cX11_shuts 26 = .ok (.iconst 0, 1) := by decide +kernel
theorem dX11_shuts_27 : decode cX11_shuts 27 = .ok (.istore_n 3, 1) := by decide +kernel
theorem dX11_shuts_28 : decode cX11_shuts 28 = .ok (.iload_n 3, 1) := by decide +kernel
theorem dX11_shuts_29 : decode cX11_shuts 29 = .ok (.aload_n 0, 1) := by decide +kernel
theorem dX11_shuts_30 : decode cX11_shuts 30 = .ok (.getfield 12, 3) := by decide +kernel
theorem dX11_shuts_33 : decode cX11_shuts 33 = .ok (.getfield 76, 3) := by decide +kernel
theorem dX11_shuts_36 : decode cX11_shuts 36 = .ok (.if_icmp .ge 80, 3) := by decide +kernel
theorem dX11_shuts_39 : decode cX11_shuts 39 = .ok (.iconst 0, 1) := by decide +kernel
theorem dX11_shuts_40 : decode cX11_shuts 40 = .ok (.istore 4, 2) := by decide +kernel
theorem dX11_shuts_42 : decode cX11_shuts 42 = .ok (.iload 4, 2) := by decide +kernel
theorem dX11_shuts_44 : decode cX11_shuts 44 = .ok (.iload_n 2, 1) := by decide +kernel
theorem dX11_shuts_45 : decode cX11_shuts 45 = .ok (.if_icmp .gt 65, 3) := by decide +kernel
theorem dX11_shuts_48 : decode cX11_shuts 48 = .ok (.iload 4, 2) := by decide +kernel
theorem dX11_shuts_50 : decode cX11_shuts 50 = .ok (.invokestatic 203, 3) := by decide +kernel
theorem dX11_shuts_53 : decode cX11_shuts 53 = .ok (.iload_n 3, 1) := by decide +kernel
theorem dX11_shuts_54 : decode cX11_shuts 54 = .ok (.if_icmp .ne 50, 3) := by decide +kernel
theorem dX11_shuts_57 : decode cX11_shuts 57 = .ok (.iload 4, 2) := by decide +kernel
theorem dX11_shuts_59 : decode cX11_shuts 59 = .ok (.aload_n 0, 1) := by decide +kernel
theorem dX11_shuts_60 : decode cX11_shuts 60 = .ok (.getfield 12, 3) := by decide +kernel
theorem dX11_shuts_63 : decode cX11_shuts 63 = .ok (.getfield 129, 3) := by decide +kernel
theorem dX11_shuts_66 : decode cX11_shuts 66 = .ok (.invokestatic 119, 3) := by decide +kernel
theorem dX11_shuts_69 : decode cX11_shuts 69 = .ok (.ifCond .eq 6, 3) := by decide +kernel
theorem dX11_shuts_72 : decode cX11_shuts 72 = .ok (.goto 32, 3) := by decide +kernel
theorem dX11_shuts_75 : decode cX11_shuts 75 = .ok (.aload_n 0, 1) := by decide +kernel
theorem dX11_shuts_76 : decode cX11_shuts 76 = .ok (.getfield 47, 3) := by decide +kernel
theorem dX11_shuts_79 : decode cX11_shuts 79 = .ok (.aload_n 0, 1) := by decide +kernel
theorem dX11_shuts_80 : decode cX11_shuts 80 = .ok (.getfield 12, 3) := by decide +kernel
theorem dX11_shuts_83 : decode cX11_shuts 83 = .ok (.iload_n 1, 1) := by decide +kernel
theorem dX11_shuts_84 : decode cX11_shuts 84 = .ok (.iload 4, 2) := by decide +kernel
theorem dX11_shuts_86 : decode cX11_shuts 86 = .ok (.invokevirtual 177, 3) := by decide +kernel
theorem dX11_shuts_89 : decode cX11_shuts 89 = .ok (.aload_n 0, 1) := by decide +kernel
theorem dX11_shuts_90 : decode cX11_shuts 90 = .ok (.getfield 47, 3) := by decide +kernel
theorem dX11_shuts_93 : decode cX11_shuts 93 = .ok (.iconst 1, 1) := by decide +kernel
theorem dX11_shuts_94 : decode cX11_shuts 94 = .ok (.iconst 1, 1) := by decide +kernel
theorem dX11_shuts_95 : decode cX11_shuts 95 = .ok (.invokevirtual 181, 3) := by decide +kernel
theorem dX11_shuts_98 : decode cX11_shuts 98 = .ok (.ifCond .eq 6, 3) := by decide +kernel
theorem dX11_shuts_101 : decode cX11_shuts 101 = .ok (.iload 4, 2) := by decide +kernel
theorem dX11_shuts_103 : decode cX11_shuts 103 = .ok (.ireturn, 1) := by decide +kernel
theorem dX11_shuts_104 : decode cX11_shuts 104 = .ok (.iinc 4 1, 3) := by decide +kernel
theorem dX11_shuts_107 : decode cX11_shuts 107 = .ok (.goto (-65), 3) := by decide +kernel
theorem dX11_shuts_110 : decode cX11_shuts 110 = .ok (.iinc 3 1, 3) := by decide +kernel
theorem dX11_shuts_113 : decode cX11_shuts 113 = .ok (.goto (-85), 3) := by decide +kernel
theorem dX11_shuts_116 : decode cX11_shuts 116 = .ok (.iconst (-1), 1) := by decide +kernel
theorem dX11_shuts_117 : decode cX11_shuts 117 = .ok (.ireturn, 1) := by decide +kernel
theorem dX11_neighbour_0 : decode cX11_neighbour 0 = .ok (.aload_n 0, 1) := by decide +kernel
theorem dX11_neighbour_1 : decode cX11_neighbour 1 = .ok (.getfield 12, 3) := by decide +kernel
theorem dX11_neighbour_4 : decode cX11_neighbour 4 = .ok (.iload_n 2, 1) := by decide +kernel
theorem dX11_neighbour_5 : decode cX11_neighbour 5 = .ok (.invokevirtual 158, 3) := by decide +kernel
theorem dX11_neighbour_8 : decode cX11_neighbour 8 = .ok (.astore 5, 2) := by decide +kernel
theorem dX11_neighbour_10 : decode cX11_neighbour 10 = .ok (.aload 5, 2) := by decide +kernel
theorem dX11_neighbour_12 : decode cX11_neighbour 12 = .ok (.ifnull 22, 3) := by decide +kernel
theorem dX11_neighbour_15 : decode cX11_neighbour 15 = .ok (.aload_n 0, 1) := by decide +kernel
theorem dX11_neighbour_16 : decode cX11_neighbour 16 = .ok (.getfield 12, 3) := by decide +kernel
theorem dX11_neighbour_19 : decode cX11_neighbour 19 = .ok (.iload_n 1, 1) := by decide +kernel
theorem dX11_neighbour_20 : decode cX11_neighbour 20 = .ok (.invokevirtual 174, 3) := by decide +kernel
theorem dX11_neighbour_23 : decode cX11_neighbour 23 = .ok (.ifCond .eq 11, 3) := by decide +kernel
theorem dX11_neighbour_26 : decode cX11_neighbour 26 = .ok (.iload_n 1, 1) := by decide +kernel
theorem dX11_neighbour_27 : decode cX11_neighbour 27 = .ok (.iload_n 2, 1) := by decide +kernel
theorem dX11_neighbour_28 : decode cX11_neighbour 28 = .ok (.invokestatic 119, 3) := by decide +kernel
theorem dX11_neighbour_31 : decode cX11_neighbour 31 = .ok (.ifCond .eq 10, 3) := by decide +kernel
theorem dX11_neighbour_34 : decode cX11_neighbour 34 = .ok (.aload_n 0, 1) := by decide +kernel
theorem dX11_neighbour_35 : decode cX11_neighbour 35 = .ok (.bipush (-10), 2) := by decide +kernel
theorem dX11_neighbour_37 : decode cX11_neighbour 37 = .ok (.invokevirtual 72, 3) := by decide +kernel
theorem dX11_neighbour_40 : decode cX11_neighbour 40 = .ok (.ireturn, 1) := by decide +kernel
theorem dX11_neighbour_41 : decode cX11_neighbour 41 = .ok (.aload_n 0, 1) := by decide +kernel
theorem dX11_neighbour_42 : decode cX11_neighbour 42 = .ok (.getfield 12, 3) := by decide +kernel
theorem dX11_neighbour_45 : decode cX11_neighbour 45 = .ok (.iload_n 3, 1) := by decide +kernel
theorem dX11_neighbour_46 : decode cX11_neighbour 46 = .ok (.invokevirtual 113, 3) := by decide +kernel
theorem dX11_neighbour_49 : decode cX11_neighbour 49 = .ok (.ifCond .eq 14, 3) := by decide +kernel
theorem dX11_neighbour_52 : decode cX11_neighbour 52 = .ok (.iload 4, 2) := by decide +kernel
theorem dX11_neighbour_54 : decode cX11_neighbour 54 = .ok (.ifCond .lt 9, 3) := by decide +kernel
theorem dX11_neighbour_57 : decode cX11_neighbour 57 = .ok (.iload 4, 2) := by decide +kernel
theorem dX11_neighbour_59 : decode cX11_neighbour 59 = .ok (.iconst 1, 1) := by decide +kernel
theorem dX11_neighbour_60 : decode cX11_neighbour 60 = .ok (.if_icmp .le 10, 3) := by decide +kernel
theorem dX11_neighbour_63 : decode cX11_neighbour 63 = .ok (.aload_n 0, 1) := by decide +kernel
theorem dX11_neighbour_64 : decode cX11_neighbour 64 = .ok (.bipush (-10), 2) := by decide +kernel
theorem dX11_neighbour_66 : decode cX11_neighbour 66 = .ok (.invokevirtual 72, 3) := by decide +kernel
theorem dX11_neighbour_69 : decode cX11_neighbour 69 = .ok (.ireturn, 1) := by decide +kernel
theorem dX11_neighbour_70 : decode cX11_neighbour 70 = .ok (.aload_n 0, 1) := by decide +kernel
theorem dX11_neighbour_71 : decode cX11_neighbour 71 = .ok (.getfield 47, 3) := by decide +kernel
theorem dX11_neighbour_74 : decode cX11_neighbour 74 = .ok (.aload_n 0, 1) := by decide +kernel
theorem dX11_neighbour_75 : decode cX11_neighbour 75 = .ok (.getfield 12, 3) := by decide +kernel
theorem dX11_neighbour_78 : decode cX11_neighbour 78 = .ok (.iload_n 1, 1) := by decide +kernel
theorem dX11_neighbour_79 : decode cX11_neighbour 79 = .ok (.aload_n 0, 1) := by decide +kernel
theorem dX11_neighbour_80 : decode cX11_neighbour 80 = .ok (.getfield 12, 3) := by decide +kernel
theorem dX11_neighbour_83 : decode cX11_neighbour 83 = .ok (.getfield 116, 3) := by decide +kernel
theorem dX11_neighbour_86 : decode cX11_neighbour 86 = .ok (.invokevirtual 177, 3) := by decide +kernel
theorem dX11_neighbour_89 : decode cX11_neighbour 89 = .ok (.aload_n 0, 1) := by decide +kernel
theorem dX11_neighbour_90 : decode cX11_neighbour 90 = .ok (.getfield 47, 3) := by decide +kernel
theorem dX11_neighbour_93 : decode cX11_neighbour 93 = .ok (.aload 5, 2) := by decide +kernel
theorem dX11_neighbour_95 : decode cX11_neighbour 95 = .ok (.aload_n 0, 1) := by decide +kernel
theorem dX11_neighbour_96 : decode cX11_neighbour 96 = .ok (.getfield 12, 3) := by decide +kernel
theorem dX11_neighbour_99 : decode cX11_neighbour 99 = .ok (.aload_n 0, 1) := by decide +kernel
theorem dX11_neighbour_100 : decode cX11_neighbour 100 = .ok (.getfield 12, 3) := by decide +kernel
theorem dX11_neighbour_103 : decode cX11_neighbour 103 = .ok (.getfield 116, 3) := by decide +kernel
theorem dX11_neighbour_106 : decode cX11_neighbour 106 = .ok (.iconst 1, 1) := by decide +kernel
theorem dX11_neighbour_107 : decode cX11_neighbour 107 = .ok (.iload_n 3, 1) := by decide +kernel
theorem dX11_neighbour_108 : decode cX11_neighbour 108 = .ok (.ishl, 1) := by decide +kernel
theorem dX11_neighbour_109 : decode cX11_neighbour 109 = .ok (.iconst 1, 1) := by decide +kernel
theorem dX11_neighbour_110 : decode cX11_neighbour 110 = .ok (.iload_n 3, 1) := by decide +kernel
theorem dX11_neighbour_111 : decode cX11_neighbour 111 = .ok (.ishl, 1) := by decide +kernel
theorem dX11_neighbour_112 : decode cX11_neighbour 112 = .ok (.invokevirtual 208, 3) := by decide +kernel
theorem dX11_neighbour_115 : decode cX11_neighbour 115 = .ok (.aload_n 0, 1) := by decide +kernel
theorem dX11_neighbour_116 : decode cX11_neighbour 116 = .ok (.getfield 47, 3) := by decide +kernel
theorem dX11_neighbour_119 : decode cX11_neighbour 119 = .ok (.iconst 1, 1) := by decide +kernel
theorem dX11_neighbour_120 : decode cX11_neighbour 120 = .ok (.iconst 1, 1) := by decide +kernel
theorem dX11_neighbour_121 : decode cX11_neighbour 121 = .ok (.invokevirtual 181, 3) := by decide +kernel
theorem dX11_neighbour_124 : decode cX11_neighbour 124 = .ok (.ifCond .eq 15, 3) := by decide +kernel
theorem dX11_neighbour_127 : decode cX11_neighbour 127 = .ok (.aload_n 0, 1) := by decide +kernel
theorem dX11_neighbour_128 : decode cX11_neighbour 128 = .ok (.getfield 47, 3) := by decide +kernel
theorem dX11_neighbour_131 : decode cX11_neighbour 131 = .ok (.iload 4, 2) := by decide +kernel
theorem dX11_neighbour_133 : decode cX11_neighbour 133 = .ok (.invokevirtual 184, 3) := by decide +kernel
theorem dX11_neighbour_136 : decode cX11_neighbour 136 = .ok (.goto 4, 3) := by decide +kernel
theorem dX11_neighbour_139 : decode cX11_neighbour 139 = .ok (.iconst (-1), 1) := by decide +kernel
theorem dX11_neighbour_140 : decode cX11_neighbour 140 = .ok (.ireturn, 1) := by decide +kernel
theorem dX11_tells_0 : decode cX11_tells 0 = .ok (.aload_n 0, 1) := by decide +kernel
theorem dX11_tells_1 : decode cX11_tells 1 = .ok (.getfield 12, 3) := by decide +kernel
theorem dX11_tells_4 : decode cX11_tells 4 = .ok (.iload_n 1, 1) := by decide +kernel
theorem dX11_tells_5 : decode cX11_tells 5 = .ok (.invokevirtual 158, 3) := by decide +kernel
theorem dX11_tells_8 : decode cX11_tells 8 = .ok (.astore 4, 2) := by decide +kernel
theorem dX11_tells_10 : decode cX11_tells 10 = .ok (.aload 4, 2) := by decide +kernel
theorem dX11_tells_12 : decode cX11_tells 12 = .ok (.ifnull 28, 3) := by decide +kernel
theorem dX11_tells_15 : decode cX11_tells 15 = .ok (.iload_n 2, 1) := by decide +kernel
theorem dX11_tells_16 : decode cX11_tells 16 = .ok (.iconst 1, 1) := by decide +kernel
theorem dX11_tells_17 : decode cX11_tells 17 = .ok (.if_icmp .lt 23, 3) := by decide +kernel
theorem dX11_tells_20 : decode cX11_tells 20 = .ok (.iload_n 2, 1) := by decide +kernel
theorem dX11_tells_21 : decode cX11_tells 21 = .ok (.aload_n 0, 1) := by decide +kernel
theorem dX11_tells_22 : decode cX11_tells 22 = .ok (.getfield 12, 3) := by decide +kernel
theorem dX11_tells_25 : decode cX11_tells 25 = .ok (.invokevirtual 200, 3) := by decide +kernel
theorem dX11_tells_28 : decode cX11_tells 28 = .ok (.if_icmp .gt 12, 3) := by decide +kernel
theorem dX11_tells_31 : decode cX11_tells 31 = .ok (.iload_n 3, 1) := by decide +kernel
theorem dX11_tells_32 : decode cX11_tells 32 = .ok (.ifCond .lt 8, 3) := by decide +kernel
theorem dX11_tells_35 : decode cX11_tells 35 = .ok (.iload_n 3, 1) := by decide +kernel
theorem dX11_tells_36 : decode cX11_tells 36 = .ok (.iconst 2, 1) := by decide +kernel
theorem dX11_tells_37 : decode cX11_tells 37 = .ok (.if_icmp .le 10, 3) := by decide +kernel
theorem dX11_tells_40 : decode cX11_tells 40 = .ok (.aload_n 0, 1) := by decide +kernel
theorem dX11_tells_41 : decode cX11_tells 41 = .ok (.bipush (-10), 2) := by decide +kernel
theorem dX11_tells_43 : decode cX11_tells 43 = .ok (.invokevirtual 72, 3) := by decide +kernel
theorem dX11_tells_46 : decode cX11_tells 46 = .ok (.ireturn, 1) := by decide +kernel
theorem dX11_tells_47 : decode cX11_tells 47 = .ok (.aload_n 0, 1) := by decide +kernel
theorem dX11_tells_48 : decode cX11_tells 48 = .ok (.getfield 54, 3) := by decide +kernel
theorem dX11_tells_51 : decode cX11_tells 51 = .ok (.aload 4, 2) := by decide +kernel
theorem dX11_tells_53 : decode cX11_tells 53 = .ok (.aload_n 0, 1) := by decide +kernel
theorem dX11_tells_54 : decode cX11_tells 54 = .ok (.getfield 12, 3) := by decide +kernel
theorem dX11_tells_57 : decode cX11_tells 57 = .ok (.getfield 76, 3) := by decide +kernel
theorem dX11_tells_60 : decode cX11_tells 60 = .ok (.aload_n 0, 1) := by decide +kernel
theorem dX11_tells_61 : decode cX11_tells 61 = .ok (.getfield 12, 3) := by decide +kernel
theorem dX11_tells_64 : decode cX11_tells 64 = .ok (.getfield 116, 3) := by decide +kernel
theorem dX11_tells_67 : decode cX11_tells 67 = .ok (.invokevirtual 190, 3) := by decide +kernel
theorem dX11_tells_70 : decode cX11_tells 70 = .ok (.aload_n 0, 1) := by decide +kernel
theorem dX11_tells_71 : decode cX11_tells 71 = .ok (.getfield 61, 3) := by decide +kernel
theorem dX11_tells_74 : decode cX11_tells 74 = .ok (.aload_n 0, 1) := by decide +kernel
theorem dX11_tells_75 : decode cX11_tells 75 = .ok (.getfield 54, 3) := by decide +kernel
theorem dX11_tells_78 : decode cX11_tells 78 = .ok (.aload_n 0, 1) := by decide +kernel
theorem dX11_tells_79 : decode cX11_tells 79 = .ok (.getfield 12, 3) := by decide +kernel
theorem dX11_tells_82 : decode cX11_tells 82 = .ok (.invokevirtual 200, 3) := by decide +kernel
theorem dX11_tells_85 : decode cX11_tells 85 = .ok (.aload_n 0, 1) := by decide +kernel
theorem dX11_tells_86 : decode cX11_tells 86 = .ok (.getfield 12, 3) := by decide +kernel
theorem dX11_tells_89 : decode cX11_tells 89 = .ok (.getfield 132, 3) := by decide +kernel
theorem dX11_tells_92 : decode cX11_tells 92 = .ok (.invokevirtual 212, 3) := by decide +kernel
theorem dX11_tells_95 : decode cX11_tells 95 = .ok (.iload_n 2, 1) := by decide +kernel
theorem dX11_tells_96 : decode cX11_tells 96 = .ok (.aload_n 0, 1) := by decide +kernel
theorem dX11_tells_97 : decode cX11_tells 97 = .ok (.getfield 12, 3) := by decide +kernel
theorem dX11_tells_100 : decode cX11_tells 100 = .ok (.getfield 132, 3) := by decide +kernel
theorem dX11_tells_103 : decode cX11_tells 103 = .ok (.iand, 1) := by decide +kernel
theorem dX11_tells_104 : decode cX11_tells 104 = .ok (.istore 5, 2) := by decide +kernel
theorem dX11_tells_106 : decode cX11_tells 106 = .ok (.iload_n 2, 1) := by decide +kernel
theorem dX11_tells_107 : decode cX11_tells 107 = .ok (.aload_n 0, 1) := by decide +kernel
theorem dX11_tells_108 : decode cX11_tells 108 = .ok (.getfield 12, 3) := by decide +kernel
theorem dX11_tells_111 : decode cX11_tells 111 = .ok (.getfield 132, 3) := by decide +kernel
theorem dX11_tells_114 : decode cX11_tells 114 = .ok (.iconst (-1), 1) := by decide +kernel
theorem dX11_tells_115 : decode cX11_tells 115 = .ok (.ixor, 1) := by decide +kernel
theorem dX11_tells_116 : decode cX11_tells 116 = .ok (.iand, 1) := by decide +kernel
theorem dX11_tells_117 : decode cX11_tells 117 = .ok (.istore 6, 2) := by decide +kernel
theorem dX11_tells_119 : decode cX11_tells 119 = .ok (.iload_n 3, 1) := by decide +kernel
theorem dX11_tells_120 : decode cX11_tells 120 = .ok (.iconst 1, 1) := by decide +kernel
theorem dX11_tells_121 : decode cX11_tells 121 = .ok (.if_icmp .ne 17, 3) := by decide +kernel
theorem dX11_tells_124 : decode cX11_tells 124 = .ok (.aload_n 0, 1) := by decide +kernel
theorem dX11_tells_125 : decode cX11_tells 125 = .ok (.getfield 61, 3) := by decide +kernel
theorem dX11_tells_128 : decode cX11_tells 128 = .ok (.aload_n 0, 1) := by decide +kernel
theorem dX11_tells_129 : decode cX11_tells 129 = .ok (.getfield 54, 3) := by decide +kernel
theorem dX11_tells_132 : decode cX11_tells 132 = .ok (.iload 5, 2) := by decide +kernel
theorem dX11_tells_134 : decode cX11_tells 134 = .ok (.invokevirtual 216, 3) := by decide +kernel
theorem dX11_tells_137 : decode cX11_tells 137 = .ok (.ireturn, 1) := by decide +kernel
theorem dX11_tells_138 : decode cX11_tells 138 = .ok (.iload_n 3, 1) := by decide +kernel
theorem dX11_tells_139 : decode cX11_tells 139 = .ok (.iconst 2, 1) := by decide +kernel
theorem dX11_tells_140 : decode cX11_tells 140 = .ok (.if_icmp .ne 17, 3) := by decide +kernel
theorem dX11_tells_143 : decode cX11_tells 143 = .ok (.aload_n 0, 1) := by decide +kernel
theorem dX11_tells_144 : decode cX11_tells 144 = .ok (.getfield 61, 3) := by decide +kernel
theorem dX11_tells_147 : decode cX11_tells 147 = .ok (.aload_n 0, 1) := by decide +kernel
theorem dX11_tells_148 : decode cX11_tells 148 = .ok (.getfield 54, 3) := by decide +kernel
theorem dX11_tells_151 : decode cX11_tells 151 = .ok (.iload 6, 2) := by decide +kernel
theorem dX11_tells_153 : decode cX11_tells 153 = .ok (.invokevirtual 216, 3) := by decide +kernel
theorem dX11_tells_156 : decode cX11_tells 156 = .ok (.ireturn, 1) := by decide +kernel
theorem dX11_tells_157 : decode cX11_tells 157 = .ok (.aload_n 0, 1) := by decide +kernel
theorem dX11_tells_158 : decode cX11_tells 158 = .ok (.getfield 61, 3) := by decide +kernel
theorem dX11_tells_161 : decode cX11_tells 161 = .ok (.iconst 0, 1) := by decide +kernel
theorem dX11_tells_162 : decode cX11_tells 162 = .ok (.iload 5, 2) := by decide +kernel
theorem dX11_tells_164 : decode cX11_tells 164 = .ok (.invokevirtual 220, 3) := by decide +kernel
theorem dX11_tells_167 : decode cX11_tells 167 = .ok (.aload_n 0, 1) := by decide +kernel
theorem dX11_tells_168 : decode cX11_tells 168 = .ok (.getfield 61, 3) := by decide +kernel
theorem dX11_tells_171 : decode cX11_tells 171 = .ok (.iconst 0, 1) := by decide +kernel
theorem dX11_tells_172 : decode cX11_tells 172 = .ok (.iload 6, 2) := by decide +kernel
theorem dX11_tells_174 : decode cX11_tells 174 = .ok (.invokevirtual 220, 3) := by decide +kernel
theorem dX11_tells_177 : decode cX11_tells 177 = .ok (.invokestatic 224, 3) := by decide +kernel
theorem dX11_tells_180 : decode cX11_tells 180 = .ok (.istore 7, 2) := by decide +kernel
theorem dX11_tells_182 : decode cX11_tells 182 = .ok (.iload 7, 2) := by decide +kernel
theorem dX11_tells_184 : decode cX11_tells 184 = .ok (.bipush 99, 2) := by decide +kernel
theorem dX11_tells_186 : decode cX11_tells 186 = .ok (.if_icmp .ne 7, 3) := by decide +kernel
theorem dX11_tells_189 : decode cX11_tells 189 = .ok (.iconst (-1), 1) := by decide +kernel
theorem dX11_tells_190 : decode cX11_tells 190 = .ok (.goto 5, 3) := by decide +kernel
theorem dX11_tells_193 : decode cX11_tells 193 = .ok (.iload 7, 2) := by decide +kernel
theorem dX11_tells_195 : decode cX11_tells 195 = .ok (.ireturn, 1) := by decide +kernel
theorem dX11_which_0 : decode cX11_which 0 = .ok (.iload_n 1, 1) := by decide +kernel
theorem dX11_which_1 : decode cX11_which 1 = .ok (.iload_n 2, 1) := by decide +kernel
theorem dX11_which_2 : decode cX11_which 2 = .ok (.iload_n 3, 1) := by decide +kernel
theorem dX11_which_3 : decode cX11_which 3 = .ok (.invokestatic 229, 3) := by decide +kernel
theorem dX11_which_6 : decode cX11_which 6 = .ok (.ifCond .ne 10, 3) := by decide +kernel
theorem dX11_which_9 : decode cX11_which 9 = .ok (.aload_n 0, 1) := by decide +kernel
theorem dX11_which_10 : decode cX11_which 10 = .ok (.bipush (-2), 2) := by decide +kernel
theorem dX11_which_12 : decode cX11_which 12 = .ok (.invokevirtual 72, 3) := by decide +kernel
theorem dX11_which_15 : decode cX11_which 15 = .ok (.ireturn, 1) := by decide +kernel
theorem dX11_which_16 : decode cX11_which 16 = .ok (.iconst 0, 1) := by decide +kernel
theorem dX11_which_17 : decode cX11_which 17 = .ok (.istore 4, 2) := by decide +kernel
theorem dX11_which_19 : decode cX11_which 19 = .ok (.iconst 0, 1) := by decide +kernel
theorem dX11_which_20 : decode cX11_which 20 = .ok (.istore 5, 2) := by decide +kernel
theorem dX11_which_22 : decode cX11_which 22 = .ok (.iload 5, 2) := by decide +kernel
theorem dX11_which_24 : decode cX11_which 24 = .ok (.aload_n 0, 1) := by decide +kernel
theorem dX11_which_25 : decode cX11_which 25 = .ok (.getfield 12, 3) := by decide +kernel
theorem dX11_which_28 : decode cX11_which 28 = .ok (.getfield 155, 3) := by decide +kernel
theorem dX11_which_31 : decode cX11_which 31 = .ok (.if_icmp .ge 46, 3) := by decide +kernel
theorem dX11_which_34 : decode cX11_which 34 = .ok (.aload_n 0, 1) := by decide +kernel
theorem dX11_which_35 : decode cX11_which 35 = .ok (.getfield 12, 3) := by decide +kernel
theorem dX11_which_38 : decode cX11_which 38 = .ok (.iload 5, 2) := by decide +kernel
theorem dX11_which_40 : decode cX11_which 40 = .ok (.invokevirtual 158, 3) := by decide +kernel
theorem dX11_which_43 : decode cX11_which 43 = .ok (.astore 6, 2) := by decide +kernel
theorem dX11_which_45 : decode cX11_which 45 = .ok (.aload 6, 2) := by decide +kernel
theorem dX11_which_47 : decode cX11_which 47 = .ok (.ifnull 24, 3) := by decide +kernel
theorem dX11_which_50 : decode cX11_which 50 = .ok (.aload_n 0, 1) := by decide +kernel
theorem dX11_which_51 : decode cX11_which 51 = .ok (.aload 6, 2) := by decide +kernel
theorem dX11_which_53 : decode cX11_which 53 = .ok (.iload_n 1, 1) := by decide +kernel
theorem dX11_which_54 : decode cX11_which 54 = .ok (.iload_n 2, 1) := by decide +kernel
theorem dX11_which_55 : decode cX11_which 55 = .ok (.iload_n 3, 1) := by decide +kernel
theorem dX11_which_56 : decode cX11_which 56 = .ok (.invokevirtual 233, 3) := by decide +kernel
theorem dX11_which_59 : decode cX11_which 59 = .ok (.ifCond .eq 12, 3) := by decide +kernel
theorem dX11_which_62 : decode cX11_which 62 = .ok (.iload 4, 2) := by decide +kernel
theorem dX11_which_64 : decode cX11_which 64 = .ok (.iconst 1, 1) := by decide +kernel
theorem dX11_which_65 : decode cX11_which 65 = .ok (.iload 5, 2) := by decide +kernel
theorem dX11_which_67 : decode cX11_which 67 = .ok (.ishl, 1) := by decide +kernel
theorem dX11_which_68 : decode cX11_which 68 = .ok (.ior, 1) := by decide +kernel
theorem dX11_which_69 : decode cX11_which 69 = .ok (.istore 4, 2) := by decide +kernel
theorem dX11_which_71 : decode cX11_which 71 = .ok (.iinc 5 1, 3) := by decide +kernel
theorem dX11_which_74 : decode cX11_which 74 = .ok (.goto (-52), 3) := by decide +kernel
theorem dX11_which_77 : decode cX11_which 77 = .ok (.iload 4, 2) := by decide +kernel
theorem dX11_which_79 : decode cX11_which 79 = .ok (.ireturn, 1) := by decide +kernel
theorem dX11_starts_0 : decode cX11_starts 0 = .ok (.aload_n 0, 1) := by decide +kernel
theorem dX11_starts_1 : decode cX11_starts 1 = .ok (.getfield 12, 3) := by decide +kernel
theorem dX11_starts_4 : decode cX11_starts 4 = .ok (.iload_n 1, 1) := by decide +kernel
theorem dX11_starts_5 : decode cX11_starts 5 = .ok (.invokevirtual 158, 3) := by decide +kernel
theorem dX11_starts_8 : decode cX11_starts 8 = .ok (.astore 5, 2) := by decide +kernel
theorem dX11_starts_10 : decode cX11_starts 10 = .ok (.aload 5, 2) := by decide +kernel
theorem dX11_starts_12 : decode cX11_starts 12 = .ok (.ifnull 13, 3) := by decide +kernel
theorem dX11_starts_15 : decode cX11_starts 15 = .ok (.iload_n 2, 1) := by decide +kernel
theorem dX11_starts_16 : decode cX11_starts 16 = .ok (.iload_n 3, 1) := by decide +kernel
end
section
theorem dX11_starts_17 : decode cX11_starts 17 = .ok (.iload 4, 2) := by decide +kernel
theorem dX11_starts_19 : decode cX11_starts 19 = .ok (.invokestatic 229, 3) := by decide +kernel
theorem dX11_starts_22 : decode cX11_starts 22 = .ok (.ifCond .ne 10, 3) := by decide +kernel
theorem dX11_starts_25 : decode cX11_starts 25 = .ok (.aload_n 0, 1) := by decide +kernel
theorem dX11_starts_26 : decode cX11_starts 26 = .ok (.bipush (-2), 2) := by decide +kernel
theorem dX11_starts_28 : decode cX11_starts 28 = .ok (.invokevirtual 72, 3) := by decide +kernel
theorem dX11_starts_31 : decode cX11_starts 31 = .ok (.ireturn, 1) := by decide +kernel
theorem dX11_starts_32 : decode cX11_starts 32 = .ok (.aload_n 0, 1) := by decide +kernel
theorem dX11_starts_33 : decode cX11_starts 33 = .ok (.aload 5, 2) := by decide +kernel
theorem dX11_starts_35 : decode cX11_starts 35 = .ok (.iload_n 2, 1) := by decide +kernel
theorem dX11_starts_36 : decode cX11_starts 36 = .ok (.iload_n 3, 1) := by decide +kernel
theorem dX11_starts_37 : decode cX11_starts 37 = .ok (.iload 4, 2) := by decide +kernel
theorem dX11_starts_39 : decode cX11_starts 39 = .ok (.invokevirtual 233, 3) := by decide +kernel
theorem dX11_starts_42 : decode cX11_starts 42 = .ok (.ireturn, 1) := by decide +kernel
theorem dX11_drawn_0 : decode cX11_drawn 0 = .ok (.aload_n 0, 1) := by decide +kernel
theorem dX11_drawn_1 : decode cX11_drawn 1 = .ok (.getfield 12, 3) := by decide +kernel
theorem dX11_drawn_4 : decode cX11_drawn 4 = .ok (.iload_n 1, 1) := by decide +kernel
theorem dX11_drawn_5 : decode cX11_drawn 5 = .ok (.invokevirtual 158, 3) := by decide +kernel
theorem dX11_drawn_8 : decode cX11_drawn 8 = .ok (.astore 4, 2) := by decide +kernel
theorem dX11_drawn_10 : decode cX11_drawn 10 = .ok (.aload 4, 2) := by decide +kernel
theorem dX11_drawn_12 : decode cX11_drawn 12 = .ok (.ifnull 23, 3) := by decide +kernel
theorem dX11_drawn_15 : decode cX11_drawn 15 = .ok (.iload_n 2, 1) := by decide +kernel
theorem dX11_drawn_16 : decode cX11_drawn 16 = .ok (.ifCond .lt 19, 3) := by decide +kernel
theorem dX11_drawn_19 : decode cX11_drawn 19 = .ok (.iload_n 2, 1) := by decide +kernel
theorem dX11_drawn_20 : decode cX11_drawn 20 = .ok (.bipush 12, 2) := by decide +kernel
theorem dX11_drawn_22 : decode cX11_drawn 22 = .ok (.if_icmp .gt 13, 3) := by decide +kernel
theorem dX11_drawn_25 : decode cX11_drawn 25 = .ok (.iload_n 3, 1) := by decide +kernel
theorem dX11_drawn_26 : decode cX11_drawn 26 = .ok (.ifCond .lt 9, 3) := by decide +kernel
theorem dX11_drawn_29 : decode cX11_drawn 29 = .ok (.iload_n 3, 1) := by decide +kernel
theorem dX11_drawn_30 : decode cX11_drawn 30 = .ok (.bipush 10, 2) := by decide +kernel
theorem dX11_drawn_32 : decode cX11_drawn 32 = .ok (.if_icmp .le 10, 3) := by decide +kernel
theorem dX11_drawn_35 : decode cX11_drawn 35 = .ok (.aload_n 0, 1) := by decide +kernel
theorem dX11_drawn_36 : decode cX11_drawn 36 = .ok (.bipush (-2), 2) := by decide +kernel
theorem dX11_drawn_38 : decode cX11_drawn 38 = .ok (.invokevirtual 72, 3) := by decide +kernel
theorem dX11_drawn_41 : decode cX11_drawn 41 = .ok (.ireturn, 1) := by decide +kernel
theorem dX11_drawn_42 : decode cX11_drawn 42 = .ok (.aload_n 0, 1) := by decide +kernel
theorem dX11_drawn_43 : decode cX11_drawn 43 = .ok (.getfield 12, 3) := by decide +kernel
theorem dX11_drawn_46 : decode cX11_drawn 46 = .ok (.getfield 76, 3) := by decide +kernel
theorem dX11_drawn_49 : decode cX11_drawn 49 = .ok (.i2l, 1) := by decide +kernel
theorem dX11_drawn_50 : decode cX11_drawn 50 = .ok (.lstore 5, 2) := by decide +kernel
theorem dX11_drawn_52 : decode cX11_drawn 52 = .ok (.aload_n 0, 1) := by decide +kernel
theorem dX11_drawn_53 : decode cX11_drawn 53 = .ok (.getfield 65, 3) := by decide +kernel
theorem dX11_drawn_56 : decode cX11_drawn 56 = .ok (.lconst 1, 1) := by decide +kernel
theorem dX11_drawn_57 : decode cX11_drawn 57 = .ok (.invokestatic 237, 3) := by decide +kernel
theorem dX11_drawn_60 : decode cX11_drawn 60 = .ok (.iconst 0, 1) := by decide +kernel
theorem dX11_drawn_61 : decode cX11_drawn 61 = .ok (.istore 7, 2) := by decide +kernel
theorem dX11_drawn_63 : decode cX11_drawn 63 = .ok (.iload 7, 2) := by decide +kernel
theorem dX11_drawn_65 : decode cX11_drawn 65 = .ok (.iload_n 2, 1) := by decide +kernel
theorem dX11_drawn_66 : decode cX11_drawn 66 = .ok (.if_icmp .ge 26, 3) := by decide +kernel
theorem dX11_drawn_69 : decode cX11_drawn 69 = .ok (.aload_n 0, 1) := by decide +kernel
theorem dX11_drawn_70 : decode cX11_drawn 70 = .ok (.aload 4, 2) := by decide +kernel
theorem dX11_drawn_72 : decode cX11_drawn 72 = .ok (.iload 7, 2) := by decide +kernel
theorem dX11_drawn_74 : decode cX11_drawn 74 = .ok (.iload_n 3, 1) := by decide +kernel
theorem dX11_drawn_75 : decode cX11_drawn 75 = .ok (.invokevirtual 243, 3) := by decide +kernel
theorem dX11_drawn_78 : decode cX11_drawn 78 = .ok (.lload 5, 2) := by decide +kernel
theorem dX11_drawn_80 : decode cX11_drawn 80 = .ok (.ldc2_w 246, 3) := by decide +kernel
theorem dX11_drawn_83 : decode cX11_drawn 83 = .ok (.lmul, 1) := by decide +kernel
theorem dX11_drawn_84 : decode cX11_drawn 84 = .ok (.lstore 5, 2) := by decide +kernel
theorem dX11_drawn_86 : decode cX11_drawn 86 = .ok (.iinc 7 1, 3) := by decide +kernel
theorem dX11_drawn_89 : decode cX11_drawn 89 = .ok (.goto (-26), 3) := by decide +kernel
theorem dX11_drawn_92 : decode cX11_drawn 92 = .ok (.aload_n 0, 1) := by decide +kernel
theorem dX11_drawn_93 : decode cX11_drawn 93 = .ok (.aload_n 0, 1) := by decide +kernel
theorem dX11_drawn_94 : decode cX11_drawn 94 = .ok (.getfield 12, 3) := by decide +kernel
theorem dX11_drawn_97 : decode cX11_drawn 97 = .ok (.aload_n 0, 1) := by decide +kernel
theorem dX11_drawn_98 : decode cX11_drawn 98 = .ok (.getfield 12, 3) := by decide +kernel
theorem dX11_drawn_101 : decode cX11_drawn 101 = .ok (.getfield 129, 3) := by decide +kernel
theorem dX11_drawn_104 : decode cX11_drawn 104 = .ok (.invokevirtual 113, 3) := by decide +kernel
theorem dX11_drawn_107 : decode cX11_drawn 107 = .ok (.ifCond .eq 18, 3) := by decide +kernel
theorem dX11_drawn_110 : decode cX11_drawn 110 = .ok (.aload_n 0, 1) := by decide +kernel
theorem dX11_drawn_111 : decode cX11_drawn 111 = .ok (.getfield 65, 3) := by decide +kernel
theorem dX11_drawn_114 : decode cX11_drawn 114 = .ok (.aload_n 0, 1) := by decide +kernel
theorem dX11_drawn_115 : decode cX11_drawn 115 = .ok (.getfield 12, 3) := by decide +kernel
theorem dX11_drawn_118 : decode cX11_drawn 118 = .ok (.getfield 129, 3) := by decide +kernel
theorem dX11_drawn_121 : decode cX11_drawn 121 = .ok (.laload, 1) := by decide +kernel
theorem dX11_drawn_122 : decode cX11_drawn 122 = .ok (.goto 4, 3) := by decide +kernel
theorem dX11_drawn_125 : decode cX11_drawn 125 = .ok (.lconst 0, 1) := by decide +kernel
theorem dX11_drawn_126 : decode cX11_drawn 126 = .ok (.lload 5, 2) := by decide +kernel
theorem dX11_drawn_128 : decode cX11_drawn 128 = .ok (.invokevirtual 248, 3) := by decide +kernel
theorem dX11_drawn_131 : decode cX11_drawn 131 = .ok (.iconst 1, 1) := by decide +kernel
theorem dX11_drawn_132 : decode cX11_drawn 132 = .ok (.ireturn, 1) := by decide +kernel
theorem dX11_part_0 : decode cX11_part 0 = .ok (.iload_n 1, 1) := by decide +kernel
theorem dX11_part_1 : decode cX11_part 1 = .ok (.ifCond .lt 8, 3) := by decide +kernel
theorem dX11_part_4 : decode cX11_part 4 = .ok (.iload_n 1, 1) := by decide +kernel
theorem dX11_part_5 : decode cX11_part 5 = .ok (.iconst 1, 1) := by decide +kernel
theorem dX11_part_6 : decode cX11_part 6 = .ok (.if_icmp .le 11, 3) := by decide +kernel
theorem dX11_part_9 : decode cX11_part 9 = .ok (.aload_n 0, 1) := by decide +kernel
theorem dX11_part_10 : decode cX11_part 10 = .ok (.bipush (-2), 2) := by decide +kernel
theorem dX11_part_12 : decode cX11_part 12 = .ok (.invokevirtual 72, 3) := by decide +kernel
theorem dX11_part_15 : decode cX11_part 15 = .ok (.i2l, 1) := by decide +kernel
theorem dX11_part_16 : decode cX11_part 16 = .ok (.lreturn, 1) := by decide +kernel
theorem dX11_part_17 : decode cX11_part 17 = .ok (.iload_n 1, 1) := by decide +kernel
theorem dX11_part_18 : decode cX11_part 18 = .ok (.ifCond .ne 10, 3) := by decide +kernel
theorem dX11_part_21 : decode cX11_part 21 = .ok (.aload_n 0, 1) := by decide +kernel
theorem dX11_part_22 : decode cX11_part 22 = .ok (.getfield 28, 3) := by decide +kernel
theorem dX11_part_25 : decode cX11_part 25 = .ok (.goto 7, 3) := by decide +kernel
theorem dX11_part_28 : decode cX11_part 28 = .ok (.aload_n 0, 1) := by decide +kernel
theorem dX11_part_29 : decode cX11_part 29 = .ok (.getfield 32, 3) := by decide +kernel
theorem dX11_part_32 : decode cX11_part 32 = .ok (.lreturn, 1) := by decide +kernel
theorem dX11_image_0 : decode cX11_image 0 = .ok (.iload_n 1, 1) := by decide +kernel
theorem dX11_image_1 : decode cX11_image 1 = .ok (.ifCond .lt 8, 3) := by decide +kernel
theorem dX11_image_4 : decode cX11_image 4 = .ok (.iload_n 1, 1) := by decide +kernel
theorem dX11_image_5 : decode cX11_image 5 = .ok (.iconst 2, 1) := by decide +kernel
theorem dX11_image_6 : decode cX11_image 6 = .ok (.if_icmp .lt 10, 3) := by decide +kernel
theorem dX11_image_9 : decode cX11_image 9 = .ok (.aload_n 0, 1) := by decide +kernel
theorem dX11_image_10 : decode cX11_image 10 = .ok (.bipush (-2), 2) := by decide +kernel
theorem dX11_image_12 : decode cX11_image 12 = .ok (.invokevirtual 72, 3) := by decide +kernel
theorem dX11_image_15 : decode cX11_image 15 = .ok (.ireturn, 1) := by decide +kernel
theorem dX11_image_16 : decode cX11_image 16 = .ok (.aload_n 0, 1) := by decide +kernel
theorem dX11_image_17 : decode cX11_image 17 = .ok (.getfield 16, 3) := by decide +kernel
theorem dX11_image_20 : decode cX11_image 20 = .ok (.iload_n 1, 1) := by decide +kernel
theorem dX11_image_21 : decode cX11_image 21 = .ok (.aload_n 0, 1) := by decide +kernel
theorem dX11_image_22 : decode cX11_image 22 = .ok (.getfield 12, 3) := by decide +kernel
theorem dX11_image_25 : decode cX11_image 25 = .ok (.invokevirtual 252, 3) := by decide +kernel
theorem dX11_image_28 : decode cX11_image 28 = .ok (.aastore, 1) := by decide +kernel
theorem dX11_image_29 : decode cX11_image 29 = .ok (.iconst 1, 1) := by decide +kernel
theorem dX11_image_30 : decode cX11_image 30 = .ok (.ireturn, 1) := by decide +kernel
theorem dX11_from_0 : decode cX11_from 0 = .ok (.iload_n 1, 1) := by decide +kernel
theorem dX11_from_1 : decode cX11_from 1 = .ok (.ifCond .lt 8, 3) := by decide +kernel
theorem dX11_from_4 : decode cX11_from 4 = .ok (.iload_n 1, 1) := by decide +kernel
theorem dX11_from_5 : decode cX11_from 5 = .ok (.iconst 2, 1) := by decide +kernel
theorem dX11_from_6 : decode cX11_from 6 = .ok (.if_icmp .lt 10, 3) := by decide +kernel
theorem dX11_from_9 : decode cX11_from 9 = .ok (.aload_n 0, 1) := by decide +kernel
theorem dX11_from_10 : decode cX11_from 10 = .ok (.bipush (-2), 2) := by decide +kernel
theorem dX11_from_12 : decode cX11_from 12 = .ok (.invokevirtual 72, 3) := by decide +kernel
theorem dX11_from_15 : decode cX11_from 15 = .ok (.ireturn, 1) := by decide +kernel
theorem dX11_from_16 : decode cX11_from 16 = .ok (.aload_n 0, 1) := by decide +kernel
theorem dX11_from_17 : decode cX11_from 17 = .ok (.getfield 16, 3) := by decide +kernel
theorem dX11_from_20 : decode cX11_from 20 = .ok (.iload_n 1, 1) := by decide +kernel
theorem dX11_from_21 : decode cX11_from 21 = .ok (.aaload, 1) := by decide +kernel
theorem dX11_from_22 : decode cX11_from 22 = .ok (.astore_n 2, 1) := by decide +kernel
theorem dX11_from_23 : decode cX11_from 23 = .ok (.aload_n 2, 1) := by decide +kernel
theorem dX11_from_24 : decode cX11_from 24 = .ok (.ifnonnull 8, 3) := by decide +kernel
theorem dX11_from_27 : decode cX11_from 27 = .ok (.aload_n 0, 1) := by decide +kernel
theorem dX11_from_28 : decode cX11_from 28 = .ok (.invokevirtual 123, 3) := by decide +kernel
theorem dX11_from_31 : decode cX11_from 31 = .ok (.ireturn, 1) := by decide +kernel
theorem dX11_from_32 : decode cX11_from 32 = .ok (.aload_n 0, 1) := by decide +kernel
theorem dX11_from_33 : decode cX11_from 33 = .ok (.aload_n 2, 1) := by decide +kernel
theorem dX11_from_34 : decode cX11_from 34 = .ok (.invokevirtual 252, 3) := by decide +kernel
theorem dX11_from_37 : decode cX11_from 37 = .ok (.putfield 12, 3) := by decide +kernel
theorem dX11_from_40 : decode cX11_from 40 = .ok (.iconst 1, 1) := by decide +kernel
theorem dX11_from_41 : decode cX11_from 41 = .ok (.ireturn, 1) := by decide +kernel
theorem dX11_status_0 : decode cX11_status 0 = .ok (.iload_n 1, 1) := by decide +kernel
theorem dX11_status_1 : decode cX11_status 1 = .ok (.tableswitch 42 0 2 #[27, 32, 37], 27) := by decide +kernel
theorem dX11_status_28 : decode cX11_status 28 = .ok (.aload_n 0, 1) := by decide +kernel
theorem dX11_status_29 : decode cX11_status 29 = .ok (.getfield 35, 3) := by decide +kernel
theorem dX11_status_32 : decode cX11_status 32 = .ok (.ireturn, 1) := by decide +kernel
theorem dX11_status_33 : decode cX11_status 33 = .ok (.aload_n 0, 1) := by decide +kernel
theorem dX11_status_34 : decode cX11_status 34 = .ok (.getfield 38, 3) := by decide +kernel
theorem dX11_status_37 : decode cX11_status 37 = .ok (.ireturn, 1) := by decide +kernel
theorem dX11_status_38 : decode cX11_status 38 = .ok (.aload_n 0, 1) := by decide +kernel
theorem dX11_status_39 : decode cX11_status 39 = .ok (.getfield 41, 3) := by decide +kernel
theorem dX11_status_42 : decode cX11_status 42 = .ok (.ireturn, 1) := by decide +kernel
theorem dX11_status_43 : decode cX11_status 43 = .ok (.aload_n 0, 1) := by decide +kernel
theorem dX11_status_44 : decode cX11_status 44 = .ok (.iconst (-1), 1) := by decide +kernel
theorem dX11_status_45 : decode cX11_status 45 = .ok (.invokevirtual 72, 3) := by decide +kernel
theorem dX11_status_48 : decode cX11_status 48 = .ok (.ireturn, 1) := by decide +kernel
theorem dX11_count_0 : decode cX11_count 0 = .ok (.iload_n 1, 1) := by decide +kernel
theorem dX11_count_1 : decode cX11_count 1 = .ok (.tableswitch 63 0 3 #[31, 39, 47, 58], 31) := by decide +kernel
theorem dX11_count_32 : decode cX11_count 32 = .ok (.aload_n 0, 1) := by decide +kernel
theorem dX11_count_33 : decode cX11_count 33 = .ok (.getfield 12, 3) := by decide +kernel
theorem dX11_count_36 : decode cX11_count 36 = .ok (.getfield 76, 3) := by decide +kernel
theorem dX11_count_39 : decode cX11_count 39 = .ok (.ireturn, 1) := by decide +kernel
theorem dX11_count_40 : decode cX11_count 40 = .ok (.aload_n 0, 1) := by decide +kernel
theorem dX11_count_41 : decode cX11_count 41 = .ok (.getfield 12, 3) := by decide +kernel
theorem dX11_count_44 : decode cX11_count 44 = .ok (.getfield 155, 3) := by decide +kernel
theorem dX11_count_47 : decode cX11_count 47 = .ok (.ireturn, 1) := by decide +kernel
theorem dX11_count_48 : decode cX11_count 48 = .ok (.aload_n 0, 1) := by decide +kernel
theorem dX11_count_49 : decode cX11_count 49 = .ok (.getfield 12, 3) := by decide +kernel
theorem dX11_count_52 : decode cX11_count 52 = .ok (.getfield 116, 3) := by decide +kernel
theorem dX11_count_55 : decode cX11_count 55 = .ok (.invokestatic 203, 3) := by decide +kernel
theorem dX11_count_58 : decode cX11_count 58 = .ok (.ireturn, 1) := by decide +kernel
theorem dX11_count_59 : decode cX11_count 59 = .ok (.aload_n 0, 1) := by decide +kernel
theorem dX11_count_60 : decode cX11_count 60 = .ok (.getfield 24, 3) := by decide +kernel
theorem dX11_count_63 : decode cX11_count 63 = .ok (.ireturn, 1) := by decide +kernel
theorem dX11_count_64 : decode cX11_count 64 = .ok (.aload_n 0, 1) := by decide +kernel
theorem dX11_count_65 : decode cX11_count 65 = .ok (.bipush (-2), 2) := by decide +kernel
theorem dX11_count_67 : decode cX11_count 67 = .ok (.invokevirtual 72, 3) := by decide +kernel
theorem dX11_count_70 : decode cX11_count 70 = .ok (.ireturn, 1) := by decide +kernel
theorem dX11_digest_0 : decode cX11_digest 0 = .ok (.ldc2_w 256, 3) := by decide +kernel
theorem dX11_digest_3 : decode cX11_digest 3 = .ok (.lstore_n 1, 1) := by decide +kernel
theorem dX11_digest_4 : decode cX11_digest 4 = .ok (.ldc2_w 258, 3) := by decide +kernel
theorem dX11_digest_7 : decode cX11_digest 7 = .ok (.lload_n 1, 1) := by decide +kernel
theorem dX11_digest_8 : decode cX11_digest 8 = .ok (.lmul, 1) := by decide +kernel
theorem dX11_digest_9 : decode cX11_digest 9 = .ok (.aload_n 0, 1) := by decide +kernel
theorem dX11_digest_10 : decode cX11_digest 10 = .ok (.getfield 12, 3) := by decide +kernel
theorem dX11_digest_13 : decode cX11_digest 13 = .ok (.getfield 76, 3) := by decide +kernel
theorem dX11_digest_16 : decode cX11_digest 16 = .ok (.i2l, 1) := by decide +kernel
theorem dX11_digest_17 : decode cX11_digest 17 = .ok (.ladd, 1) := by decide +kernel
theorem dX11_digest_18 : decode cX11_digest 18 = .ok (.lstore_n 1, 1) := by decide +kernel
theorem dX11_digest_19 : decode cX11_digest 19 = .ok (.ldc2_w 258, 3) := by decide +kernel
theorem dX11_digest_22 : decode cX11_digest 22 = .ok (.lload_n 1, 1) := by decide +kernel
theorem dX11_digest_23 : decode cX11_digest 23 = .ok (.lmul, 1) := by decide +kernel
theorem dX11_digest_24 : decode cX11_digest 24 = .ok (.aload_n 0, 1) := by decide +kernel
theorem dX11_digest_25 : decode cX11_digest 25 = .ok (.getfield 12, 3) := by decide +kernel
theorem dX11_digest_28 : decode cX11_digest 28 = .ok (.getfield 155, 3) := by decide +kernel
theorem dX11_digest_31 : decode cX11_digest 31 = .ok (.i2l, 1) := by decide +kernel
theorem dX11_digest_32 : decode cX11_digest 32 = .ok (.ladd, 1) := by decide +kernel
theorem dX11_digest_33 : decode cX11_digest 33 = .ok (.lstore_n 1, 1) := by decide +kernel
theorem dX11_digest_34 : decode cX11_digest 34 = .ok (.ldc2_w 258, 3) := by decide +kernel
theorem dX11_digest_37 : decode cX11_digest 37 = .ok (.lload_n 1, 1) := by decide +kernel
theorem dX11_digest_38 : decode cX11_digest 38 = .ok (.lmul, 1) := by decide +kernel
theorem dX11_digest_39 : decode cX11_digest 39 = .ok (.aload_n 0, 1) := by decide +kernel
theorem dX11_digest_40 : decode cX11_digest 40 = .ok (.getfield 12, 3) := by decide +kernel
theorem dX11_digest_43 : decode cX11_digest 43 = .ok (.getfield 116, 3) := by decide +kernel
theorem dX11_digest_46 : decode cX11_digest 46 = .ok (.invokestatic 203, 3) := by decide +kernel
theorem dX11_digest_49 : decode cX11_digest 49 = .ok (.i2l, 1) := by decide +kernel
theorem dX11_digest_50 : decode cX11_digest 50 = .ok (.ladd, 1) := by decide +kernel
theorem dX11_digest_51 : decode cX11_digest 51 = .ok (.lstore_n 1, 1) := by decide +kernel
theorem dX11_digest_52 : decode cX11_digest 52 = .ok (.ldc2_w 258, 3) := by decide +kernel
theorem dX11_digest_55 : decode cX11_digest 55 = .ok (.lload_n 1, 1) := by decide +kernel
theorem dX11_digest_56 : decode cX11_digest 56 = .ok (.lmul, 1) := by decide +kernel
theorem dX11_digest_57 : decode cX11_digest 57 = .ok (.aload_n 0, 1) := by decide +kernel
theorem dX11_digest_58 : decode cX11_digest 58 = .ok (.getfield 24, 3) := by decide +kernel
theorem dX11_digest_61 : decode cX11_digest 61 = .ok (.i2l, 1) := by decide +kernel
theorem dX11_digest_62 : decode cX11_digest 62 = .ok (.ladd, 1) := by decide +kernel
theorem dX11_digest_63 : decode cX11_digest 63 = .ok (.lstore_n 1, 1) := by decide +kernel
theorem dX11_digest_64 : decode cX11_digest 64 = .ok (.iconst 0, 1) := by decide +kernel
theorem dX11_digest_65 : decode cX11_digest 65 = .ok (.istore_n 3, 1) := by decide +kernel
theorem dX11_digest_66 : decode cX11_digest 66 = .ok (.iload_n 3, 1) := by decide +kernel
theorem dX11_digest_67 : decode cX11_digest 67 = .ok (.aload_n 0, 1) := by decide +kernel
theorem dX11_digest_68 : decode cX11_digest 68 = .ok (.getfield 12, 3) := by decide +kernel
theorem dX11_digest_71 : decode cX11_digest 71 = .ok (.getfield 155, 3) := by decide +kernel
theorem dX11_digest_74 : decode cX11_digest 74 = .ok (.if_icmp .ge 31, 3) := by decide +kernel
theorem dX11_digest_77 : decode cX11_digest 77 = .ok (.aload_n 0, 1) := by decide +kernel
theorem dX11_digest_78 : decode cX11_digest 78 = .ok (.getfield 12, 3) := by decide +kernel
theorem dX11_digest_81 : decode cX11_digest 81 = .ok (.iload_n 3, 1) := by decide +kernel
theorem dX11_digest_82 : decode cX11_digest 82 = .ok (.invokevirtual 158, 3) := by decide +kernel
theorem dX11_digest_85 : decode cX11_digest 85 = .ok (.astore 4, 2) := by decide +kernel
theorem dX11_digest_87 : decode cX11_digest 87 = .ok (.aload 4, 2) := by decide +kernel
theorem dX11_digest_89 : decode cX11_digest 89 = .ok (.ifnull 10, 3) := by decide +kernel
theorem dX11_digest_92 : decode cX11_digest 92 = .ok (.aload 4, 2) := by decide +kernel
theorem dX11_digest_94 : decode cX11_digest 94 = .ok (.lload_n 1, 1) := by decide +kernel
theorem dX11_digest_95 : decode cX11_digest 95 = .ok (.invokevirtual 260, 3) := by decide +kernel
theorem dX11_digest_98 : decode cX11_digest 98 = .ok (.lstore_n 1, 1) := by decide +kernel
theorem dX11_digest_99 : decode cX11_digest 99 = .ok (.iinc 3 1, 3) := by decide +kernel
theorem dX11_digest_102 : decode cX11_digest 102 = .ok (.goto (-36), 3) := by decide +kernel
theorem dX11_digest_105 : decode cX11_digest 105 = .ok (.ldc2_w 258, 3) := by decide +kernel
theorem dX11_digest_108 : decode cX11_digest 108 = .ok (.lload_n 1, 1) := by decide +kernel
theorem dX11_digest_109 : decode cX11_digest 109 = .ok (.lmul, 1) := by decide +kernel
theorem dX11_digest_110 : decode cX11_digest 110 = .ok (.aload_n 0, 1) := by decide +kernel
theorem dX11_digest_111 : decode cX11_digest 111 = .ok (.getfield 12, 3) := by decide +kernel
theorem dX11_digest_114 : decode cX11_digest 114 = .ok (.getfield 116, 3) := by decide +kernel
theorem dX11_digest_117 : decode cX11_digest 117 = .ok (.i2l, 1) := by decide +kernel
theorem dX11_digest_118 : decode cX11_digest 118 = .ok (.ladd, 1) := by decide +kernel
theorem dX11_digest_119 : decode cX11_digest 119 = .ok (.lstore_n 1, 1) := by decide +kernel
theorem dX11_digest_120 : decode cX11_digest 120 = .ok (.ldc2_w 258, 3) := by decide +kernel
theorem dX11_digest_123 : decode cX11_digest 123 = .ok (.lload_n 1, 1) := by decide +kernel
theorem dX11_digest_124 : decode cX11_digest 124 = .ok (.lmul, 1) := by decide +kernel
theorem dX11_digest_125 : decode cX11_digest 125 = .ok (.aload_n 0, 1) := by decide +kernel
theorem dX11_digest_126 : decode cX11_digest 126 = .ok (.getfield 12, 3) := by decide +kernel
theorem dX11_digest_129 : decode cX11_digest 129 = .ok (.getfield 129, 3) := by decide +kernel
theorem dX11_digest_132 : decode cX11_digest 132 = .ok (.i2l, 1) := by decide +kernel
theorem dX11_digest_133 : decode cX11_digest 133 = .ok (.ladd, 1) := by decide +kernel
theorem dX11_digest_134 : decode cX11_digest 134 = .ok (.lstore_n 1, 1) := by decide +kernel
theorem dX11_digest_135 : decode cX11_digest 135 = .ok (.ldc2_w 258, 3) := by decide +kernel
theorem dX11_digest_138 : decode cX11_digest 138 = .ok (.lload_n 1, 1) := by decide +kernel
theorem dX11_digest_139 : decode cX11_digest 139 = .ok (.lmul, 1) := by decide +kernel
theorem dX11_digest_140 : decode cX11_digest 140 = .ok (.aload_n 0, 1) := by decide +kernel
theorem dX11_digest_141 : decode cX11_digest 141 = .ok (.getfield 12, 3) := by decide +kernel
theorem dX11_digest_144 : decode cX11_digest 144 = .ok (.getfield 132, 3) := by decide +kernel
theorem dX11_digest_147 : decode cX11_digest 147 = .ok (.i2l, 1) := by decide +kernel
theorem dX11_digest_148 : decode cX11_digest 148 = .ok (.ladd, 1) := by decide +kernel
theorem dX11_digest_149 : decode cX11_digest 149 = .ok (.lstore_n 1, 1) := by decide +kernel
theorem dX11_digest_150 : decode cX11_digest 150 = .ok (.ldc2_w 258, 3) := by decide +kernel
theorem dX11_digest_153 : decode cX11_digest 153 = .ok (.lload_n 1, 1) := by decide +kernel
theorem dX11_digest_154 : decode cX11_digest 154 = .ok (.lmul, 1) := by decide +kernel
theorem dX11_digest_155 : decode cX11_digest 155 = .ok (.aload_n 0, 1) := by decide +kernel
theorem dX11_digest_156 : decode cX11_digest 156 = .ok (.getfield 12, 3) := by decide +kernel
theorem dX11_digest_159 : decode cX11_digest 159 = .ok (.getfield 135, 3) := by decide +kernel
theorem dX11_digest_162 : decode cX11_digest 162 = .ok (.i2l, 1) := by decide +kernel
theorem dX11_digest_163 : decode cX11_digest 163 = .ok (.ladd, 1) := by decide +kernel
theorem dX11_digest_164 : decode cX11_digest 164 = .ok (.lstore_n 1, 1) := by decide +kernel
theorem dX11_digest_165 : decode cX11_digest 165 = .ok (.ldc2_w 258, 3) := by decide +kernel
theorem dX11_digest_168 : decode cX11_digest 168 = .ok (.lload_n 1, 1) := by decide +kernel
theorem dX11_digest_169 : decode cX11_digest 169 = .ok (.lmul, 1) := by decide +kernel
theorem dX11_digest_170 : decode cX11_digest 170 = .ok (.aload_n 0, 1) := by decide +kernel
theorem dX11_digest_171 : decode cX11_digest 171 = .ok (.getfield 12, 3) := by decide +kernel
theorem dX11_digest_174 : decode cX11_digest 174 = .ok (.getfield 138, 3) := by decide +kernel
theorem dX11_digest_177 : decode cX11_digest 177 = .ok (.i2l, 1) := by decide +kernel
theorem dX11_digest_178 : decode cX11_digest 178 = .ok (.ladd, 1) := by decide +kernel
theorem dX11_digest_179 : decode cX11_digest 179 = .ok (.lstore_n 1, 1) := by decide +kernel
theorem dX11_digest_180 : decode cX11_digest 180 = .ok (.ldc2_w 258, 3) := by decide +kernel
theorem dX11_digest_183 : decode cX11_digest 183 = .ok (.lload_n 1, 1) := by decide +kernel
theorem dX11_digest_184 : decode cX11_digest 184 = .ok (.lmul, 1) := by decide +kernel
theorem dX11_digest_185 : decode cX11_digest 185 = .ok (.aload_n 0, 1) := by decide +kernel
theorem dX11_digest_186 : decode cX11_digest 186 = .ok (.getfield 28, 3) := by decide +kernel
theorem dX11_digest_189 : decode cX11_digest 189 = .ok (.ladd, 1) := by decide +kernel
theorem dX11_digest_190 : decode cX11_digest 190 = .ok (.lstore_n 1, 1) := by decide +kernel
theorem dX11_digest_191 : decode cX11_digest 191 = .ok (.ldc2_w 258, 3) := by decide +kernel
theorem dX11_digest_194 : decode cX11_digest 194 = .ok (.lload_n 1, 1) := by decide +kernel
theorem dX11_digest_195 : decode cX11_digest 195 = .ok (.lmul, 1) := by decide +kernel
theorem dX11_digest_196 : decode cX11_digest 196 = .ok (.aload_n 0, 1) := by decide +kernel
theorem dX11_digest_197 : decode cX11_digest 197 = .ok (.getfield 32, 3) := by decide +kernel
theorem dX11_digest_200 : decode cX11_digest 200 = .ok (.ladd, 1) := by decide +kernel
theorem dX11_digest_201 : decode cX11_digest 201 = .ok (.lreturn, 1) := by decide +kernel
theorem dX11_refusedBad_0 : decode cX11_refusedBad 0 = .ok (.aload_n 0, 1) := by decide +kernel
theorem dX11_refusedBad_1 : decode cX11_refusedBad 1 = .ok (.dup, 1) := by decide +kernel
theorem dX11_refusedBad_2 : decode cX11_refusedBad 2 = .ok (.getfield 35, 3) := by decide +kernel
theorem dX11_refusedBad_5 : decode cX11_refusedBad 5 = .ok (.iconst 1, 1) := by decide +kernel
theorem dX11_refusedBad_6 : decode cX11_refusedBad 6 = .ok (.iadd, 1) := by decide +kernel
theorem dX11_refusedBad_7 : decode cX11_refusedBad 7 = .ok (.putfield 35, 3) := by decide +kernel
theorem dX11_refusedBad_10 : decode cX11_refusedBad 10 = .ok (.iload_n 1, 1) := by decide +kernel
theorem dX11_refusedBad_11 : decode cX11_refusedBad 11 = .ok (.ireturn, 1) := by decide +kernel
theorem dX11_refusedNo_0 : decode cX11_refusedNo 0 = .ok (.aload_n 0, 1) := by decide +kernel
theorem dX11_refusedNo_1 : decode cX11_refusedNo 1 = .ok (.dup, 1) := by decide +kernel
theorem dX11_refusedNo_2 : decode cX11_refusedNo 2 = .ok (.getfield 38, 3) := by decide +kernel
theorem dX11_refusedNo_5 : decode cX11_refusedNo 5 = .ok (.iconst 1, 1) := by decide +kernel
theorem dX11_refusedNo_6 : decode cX11_refusedNo 6 = .ok (.iadd, 1) := by decide +kernel
theorem dX11_refusedNo_7 : decode cX11_refusedNo 7 = .ok (.putfield 38, 3) := by decide +kernel
theorem dX11_refusedNo_10 : decode cX11_refusedNo 10 = .ok (.bipush (-3), 2) := by decide +kernel
theorem dX11_refusedNo_12 : decode cX11_refusedNo 12 = .ok (.ireturn, 1) := by decide +kernel
theorem dX11_refusedFull_0 : decode cX11_refusedFull 0 = .ok (.aload_n 0, 1) := by decide +kernel
theorem dX11_refusedFull_1 : decode cX11_refusedFull 1 = .ok (.dup, 1) := by decide +kernel
theorem dX11_refusedFull_2 : decode cX11_refusedFull 2 = .ok (.getfield 41, 3) := by decide +kernel
theorem dX11_refusedFull_5 : decode cX11_refusedFull 5 = .ok (.iconst 1, 1) := by decide +kernel
theorem dX11_refusedFull_6 : decode cX11_refusedFull 6 = .ok (.iadd, 1) := by decide +kernel
theorem dX11_refusedFull_7 : decode cX11_refusedFull 7 = .ok (.putfield 41, 3) := by decide +kernel
theorem dX11_refusedFull_10 : decode cX11_refusedFull 10 = .ok (.bipush (-4), 2) := by decide +kernel
theorem dX11_refusedFull_12 : decode cX11_refusedFull 12 = .ok (.ireturn, 1) := by decide +kernel
theorem dX11_canPut_0 : decode cX11_canPut 0 = .ok (.iload_n 1, 1) := by decide +kernel
theorem dX11_canPut_1 : decode cX11_canPut 1 = .ok (.tableswitch 78 0 3 #[31, 40, 61, 61], 31) := by decide +kernel
theorem dX11_canPut_32 : decode cX11_canPut 32 = .ok (.aload_n 0, 1) := by decide +kernel
theorem dX11_canPut_33 : decode cX11_canPut 33 = .ok (.getfield 12, 3) := by decide +kernel
theorem dX11_canPut_36 : decode cX11_canPut 36 = .ok (.iload_n 2, 1) := by decide +kernel
theorem dX11_canPut_37 : decode cX11_canPut 37 = .ok (.invokevirtual 113, 3) := by decide +kernel
theorem dX11_canPut_40 : decode cX11_canPut 40 = .ok (.ireturn, 1) := by decide +kernel
theorem dX11_canPut_41 : decode cX11_canPut 41 = .ok (.iload_n 2, 1) := by decide +kernel
theorem dX11_canPut_42 : decode cX11_canPut 42 = .ok (.ifCond .lt 18, 3) := by decide +kernel
theorem dX11_canPut_45 : decode cX11_canPut 45 = .ok (.iload_n 2, 1) := by decide +kernel
theorem dX11_canPut_46 : decode cX11_canPut 46 = .ok (.aload_n 0, 1) := by decide +kernel
theorem dX11_canPut_47 : decode cX11_canPut 47 = .ok (.getfield 12, 3) := by decide +kernel
theorem dX11_canPut_50 : decode cX11_canPut 50 = .ok (.invokevirtual 200, 3) := by decide +kernel
theorem dX11_canPut_53 : decode cX11_canPut 53 = .ok (.if_icmp .gt 7, 3) := by decide +kernel
theorem dX11_canPut_56 : decode cX11_canPut 56 = .ok (.iconst 1, 1) := by decide +kernel
theorem dX11_canPut_57 : decode cX11_canPut 57 = .ok (.goto 4, 3) := by decide +kernel
theorem dX11_canPut_60 : decode cX11_canPut 60 = .ok (.iconst 0, 1) := by decide +kernel
theorem dX11_canPut_61 : decode cX11_canPut 61 = .ok (.ireturn, 1) := by decide +kernel
theorem dX11_canPut_62 : decode cX11_canPut 62 = .ok (.iload_n 2, 1) := by decide +kernel
theorem dX11_canPut_63 : decode cX11_canPut 63 = .ok (.iconst 1, 1) := by decide +kernel
theorem dX11_canPut_64 : decode cX11_canPut 64 = .ok (.if_icmp .lt 13, 3) := by decide +kernel
theorem dX11_canPut_67 : decode cX11_canPut 67 = .ok (.iload_n 2, 1) := by decide +kernel
theorem dX11_canPut_68 : decode cX11_canPut 68 = .ok (.bipush 9, 2) := by decide +kernel
theorem dX11_canPut_70 : decode cX11_canPut 70 = .ok (.if_icmp .gt 7, 3) := by decide +kernel
theorem dX11_canPut_73 : decode cX11_canPut 73 = .ok (.iconst 1, 1) := by decide +kernel
theorem dX11_canPut_74 : decode cX11_canPut 74 = .ok (.goto 4, 3) := by decide +kernel
theorem dX11_canPut_77 : decode cX11_canPut 77 = .ok (.iconst 0, 1) := by decide +kernel
theorem dX11_canPut_78 : decode cX11_canPut 78 = .ok (.ireturn, 1) := by decide +kernel
theorem dX11_canPut_79 : decode cX11_canPut 79 = .ok (.iconst 0, 1) := by decide +kernel
theorem dX11_canPut_80 : decode cX11_canPut 80 = .ok (.ireturn, 1) := by decide +kernel
theorem dX11_isTune_0 : decode cX11_isTune 0 = .ok (.iload_n 1, 1) := by decide +kernel
theorem dX11_isTune_1 : decode cX11_isTune 1 = .ok (.ifCond .lt 21, 3) := by decide +kernel
theorem dX11_isTune_4 : decode cX11_isTune 4 = .ok (.iload_n 1, 1) := by decide +kernel
theorem dX11_isTune_5 : decode cX11_isTune 5 = .ok (.bipush 20, 2) := by decide +kernel
theorem dX11_isTune_7 : decode cX11_isTune 7 = .ok (.if_icmp .gt 15, 3) := by decide +kernel
theorem dX11_isTune_10 : decode cX11_isTune 10 = .ok (.iload_n 0, 1) := by decide +kernel
theorem dX11_isTune_11 : decode cX11_isTune 11 = .ok (.iload_n 1, 1) := by decide +kernel
theorem dX11_isTune_12 : decode cX11_isTune 12 = .ok (.invokestatic 264, 3) := by decide +kernel
theorem dX11_isTune_15 : decode cX11_isTune 15 = .ok (.ifCond .eq 7, 3) := by decide +kernel
theorem dX11_isTune_18 : decode cX11_isTune 18 = .ok (.iconst 1, 1) := by decide +kernel
theorem dX11_isTune_19 : decode cX11_isTune 19 = .ok (.goto 4, 3) := by decide +kernel
theorem dX11_isTune_22 : decode cX11_isTune 22 = .ok (.iconst 0, 1) := by decide +kernel
theorem dX11_isTune_23 : decode cX11_isTune 23 = .ok (.ireturn, 1) := by decide +kernel
theorem dX11_isHeard_0 : decode cX11_isHeard 0 = .ok (.iload_n 1, 1) := by decide +kernel
theorem dX11_isHeard_1 : decode cX11_isHeard 1 = .ok (.iconst 1, 1) := by decide +kernel
theorem dX11_isHeard_2 : decode cX11_isHeard 2 = .ok (.if_icmp .lt 29, 3) := by decide +kernel
theorem dX11_isHeard_5 : decode cX11_isHeard 5 = .ok (.iload_n 1, 1) := by decide +kernel
theorem dX11_isHeard_6 : decode cX11_isHeard 6 = .ok (.bipush 16, 2) := by decide +kernel
theorem dX11_isHeard_8 : decode cX11_isHeard 8 = .ok (.if_icmp .gt 23, 3) := by decide +kernel
theorem dX11_isHeard_11 : decode cX11_isHeard 11 = .ok (.iload_n 0, 1) := by decide +kernel
theorem dX11_isHeard_12 : decode cX11_isHeard 12 = .ok (.iload_n 1, 1) := by decide +kernel
theorem dX11_isHeard_13 : decode cX11_isHeard 13 = .ok (.invokestatic 264, 3) := by decide +kernel
theorem dX11_isHeard_16 : decode cX11_isHeard 16 = .ok (.ifCond .eq 15, 3) := by decide +kernel
theorem dX11_isHeard_19 : decode cX11_isHeard 19 = .ok (.iload_n 2, 1) := by decide +kernel
theorem dX11_isHeard_20 : decode cX11_isHeard 20 = .ok (.iload_n 1, 1) := by decide +kernel
theorem dX11_isHeard_21 : decode cX11_isHeard 21 = .ok (.invokestatic 264, 3) := by decide +kernel
theorem dX11_isHeard_24 : decode cX11_isHeard 24 = .ok (.ifCond .eq 7, 3) := by decide +kernel
theorem dX11_isHeard_27 : decode cX11_isHeard 27 = .ok (.iconst 1, 1) := by decide +kernel
theorem dX11_isHeard_28 : decode cX11_isHeard 28 = .ok (.goto 4, 3) := by decide +kernel
theorem dX11_isHeard_31 : decode cX11_isHeard 31 = .ok (.iconst 0, 1) := by decide +kernel
theorem dX11_isHeard_32 : decode cX11_isHeard 32 = .ok (.ireturn, 1) := by decide +kernel
theorem dX11_areBits_0 : decode cX11_areBits 0 = .ok (.iload_n 0, 1) := by decide +kernel
theorem dX11_areBits_1 : decode cX11_areBits 1 = .ok (.ifCond .lt 13, 3) := by decide +kernel
theorem dX11_areBits_4 : decode cX11_areBits 4 = .ok (.iload_n 0, 1) := by decide +kernel
theorem dX11_areBits_5 : decode cX11_areBits 5 = .ok (.iload_n 1, 1) := by decide +kernel
theorem dX11_areBits_6 : decode cX11_areBits 6 = .ok (.ishr, 1) := by decide +kernel
theorem dX11_areBits_7 : decode cX11_areBits 7 = .ok (.ifCond .ne 7, 3) := by decide +kernel
theorem dX11_areBits_10 : decode cX11_areBits 10 = .ok (.iconst 1, 1) := by decide +kernel
theorem dX11_areBits_11 : decode cX11_areBits 11 = .ok (.goto 4, 3) := by decide +kernel
theorem dX11_areBits_14 : decode cX11_areBits 14 = .ok (.iconst 0, 1) := by decide +kernel
theorem dX11_areBits_15 : decode cX11_areBits 15 = .ok (.ireturn, 1) := by decide +kernel
theorem dX11_holds_0 : decode cX11_holds 0 = .ok (.iload_n 0, 1) := by decide +kernel
theorem dX11_holds_1 : decode cX11_holds 1 = .ok (.iload_n 1, 1) := by decide +kernel
theorem dX11_holds_2 : decode cX11_holds 2 = .ok (.ishr, 1) := by decide +kernel
theorem dX11_holds_3 : decode cX11_holds 3 = .ok (.iconst 1, 1) := by decide +kernel
theorem dX11_holds_4 : decode cX11_holds 4 = .ok (.iand, 1) := by decide +kernel
theorem dX11_holds_5 : decode cX11_holds 5 = .ok (.ifCond .eq 7, 3) := by decide +kernel
theorem dX11_holds_8 : decode cX11_holds 8 = .ok (.iconst 1, 1) := by decide +kernel
theorem dX11_holds_9 : decode cX11_holds 9 = .ok (.goto 4, 3) := by decide +kernel
theorem dX11_holds_12 : decode cX11_holds 12 = .ok (.iconst 0, 1) := by decide +kernel
theorem dX11_holds_13 : decode cX11_holds 13 = .ok (.ireturn, 1) := by decide +kernel
theorem dX11_origins_0 : decode cX11_origins 0 = .ok (.iconst 0, 1) := by decide +kernel
theorem dX11_origins_1 : decode cX11_origins 1 = .ok (.istore 5, 2) := by decide +kernel
theorem dX11_origins_3 : decode cX11_origins 3 = .ok (.iconst 0, 1) := by decide +kernel
theorem dX11_origins_4 : decode cX11_origins 4 = .ok (.istore 6, 2) := by decide +kernel
theorem dX11_origins_6 : decode cX11_origins 6 = .ok (.iload 6, 2) := by decide +kernel
theorem dX11_origins_8 : decode cX11_origins 8 = .ok (.aload_n 0, 1) := by decide +kernel
theorem dX11_origins_9 : decode cX11_origins 9 = .ok (.getfield 12, 3) := by decide +kernel
theorem dX11_origins_12 : decode cX11_origins 12 = .ok (.getfield 76, 3) := by decide +kernel
theorem dX11_origins_15 : decode cX11_origins 15 = .ok (.if_icmp .ge 32, 3) := by decide +kernel
theorem dX11_origins_18 : decode cX11_origins 18 = .ok (.aload_n 0, 1) := by decide +kernel
theorem dX11_origins_19 : decode cX11_origins 19 = .ok (.aload_n 1, 1) := by decide +kernel
theorem dX11_origins_20 : decode cX11_origins 20 = .ok (.iload 6, 2) := by decide +kernel
theorem dX11_origins_22 : decode cX11_origins 22 = .ok (.iload_n 2, 1) := by decide +kernel
theorem dX11_origins_23 : decode cX11_origins 23 = .ok (.iload_n 3, 1) := by decide +kernel
theorem dX11_origins_24 : decode cX11_origins 24 = .ok (.iload 4, 2) := by decide +kernel
theorem dX11_origins_26 : decode cX11_origins 26 = .ok (.invokevirtual 267, 3) := by decide +kernel
theorem dX11_origins_29 : decode cX11_origins 29 = .ok (.ifCond .eq 12, 3) := by decide +kernel
theorem dX11_origins_32 : decode cX11_origins 32 = .ok (.iload 5, 2) := by decide +kernel
theorem dX11_origins_34 : decode cX11_origins 34 = .ok (.iconst 1, 1) := by decide +kernel
theorem dX11_origins_35 : decode cX11_origins 35 = .ok (.iload 6, 2) := by decide +kernel
theorem dX11_origins_37 : decode cX11_origins 37 = .ok (.ishl, 1) := by decide +kernel
theorem dX11_origins_38 : decode cX11_origins 38 = .ok (.ior, 1) := by decide +kernel
theorem dX11_origins_39 : decode cX11_origins 39 = .ok (.istore 5, 2) := by decide +kernel
theorem dX11_origins_41 : decode cX11_origins 41 = .ok (.iinc 6 1, 3) := by decide +kernel
theorem dX11_origins_44 : decode cX11_origins 44 = .ok (.goto (-38), 3) := by decide +kernel
theorem dX11_origins_47 : decode cX11_origins 47 = .ok (.iload 5, 2) := by decide +kernel
theorem dX11_origins_49 : decode cX11_origins 49 = .ok (.ireturn, 1) := by decide +kernel
theorem dX11_soundsSo_0 : decode cX11_soundsSo 0 = .ok (.iload_n 2, 1) := by decide +kernel
theorem dX11_soundsSo_1 : decode cX11_soundsSo 1 = .ok (.istore 6, 2) := by decide +kernel
theorem dX11_soundsSo_3 : decode cX11_soundsSo 3 = .ok (.iconst 0, 1) := by decide +kernel
theorem dX11_soundsSo_4 : decode cX11_soundsSo 4 = .ok (.istore 7, 2) := by decide +kernel
theorem dX11_soundsSo_6 : decode cX11_soundsSo 6 = .ok (.iload 7, 2) := by decide +kernel
theorem dX11_soundsSo_8 : decode cX11_soundsSo 8 = .ok (.iload 4, 2) := by decide +kernel
theorem dX11_soundsSo_10 : decode cX11_soundsSo 10 = .ok (.if_icmp .ge 56, 3) := by decide +kernel
theorem dX11_soundsSo_13 : decode cX11_soundsSo 13 = .ok (.aload_n 1, 1) := by decide +kernel
theorem dX11_soundsSo_14 : decode cX11_soundsSo 14 = .ok (.iload 6, 2) := by decide +kernel
theorem dX11_soundsSo_16 : decode cX11_soundsSo 16 = .ok (.iload_n 3, 1) := by decide +kernel
theorem dX11_soundsSo_17 : decode cX11_soundsSo 17 = .ok (.iload 7, 2) := by decide +kernel
theorem dX11_soundsSo_19 : decode cX11_soundsSo 19 = .ok (.ishr, 1) := by decide +kernel
theorem dX11_soundsSo_20 : decode cX11_soundsSo 20 = .ok (.iconst 1, 1) := by decide +kernel
theorem dX11_soundsSo_21 : decode cX11_soundsSo 21 = .ok (.iand, 1) := by decide +kernel
theorem dX11_soundsSo_22 : decode cX11_soundsSo 22 = .ok (.iload 7, 2) := by decide +kernel
theorem dX11_soundsSo_24 : decode cX11_soundsSo 24 = .ok (.aload_n 0, 1) := by decide +kernel
theorem dX11_soundsSo_25 : decode cX11_soundsSo 25 = .ok (.getfield 12, 3) := by decide +kernel
theorem dX11_soundsSo_28 : decode cX11_soundsSo 28 = .ok (.getfield 116, 3) := by decide +kernel
theorem dX11_soundsSo_31 : decode cX11_soundsSo 31 = .ok (.invokevirtual 162, 3) := by decide +kernel
theorem dX11_soundsSo_34 : decode cX11_soundsSo 34 = .ok (.istore 6, 2) := by decide +kernel
theorem dX11_soundsSo_36 : decode cX11_soundsSo 36 = .ok (.aload_n 0, 1) := by decide +kernel
theorem dX11_soundsSo_37 : decode cX11_soundsSo 37 = .ok (.getfield 12, 3) := by decide +kernel
theorem dX11_soundsSo_40 : decode cX11_soundsSo 40 = .ok (.getfield 132, 3) := by decide +kernel
theorem dX11_soundsSo_43 : decode cX11_soundsSo 43 = .ok (.iload 6, 2) := by decide +kernel
theorem dX11_soundsSo_45 : decode cX11_soundsSo 45 = .ok (.invokestatic 119, 3) := by decide +kernel
theorem dX11_soundsSo_48 : decode cX11_soundsSo 48 = .ok (.iload 5, 2) := by decide +kernel
theorem dX11_soundsSo_50 : decode cX11_soundsSo 50 = .ok (.iload 7, 2) := by decide +kernel
theorem dX11_soundsSo_52 : decode cX11_soundsSo 52 = .ok (.invokestatic 119, 3) := by decide +kernel
theorem dX11_soundsSo_55 : decode cX11_soundsSo 55 = .ok (.if_icmp .eq 5, 3) := by decide +kernel
theorem dX11_soundsSo_58 : decode cX11_soundsSo 58 = .ok (.iconst 0, 1) := by decide +kernel
theorem dX11_soundsSo_59 : decode cX11_soundsSo 59 = .ok (.ireturn, 1) := by decide +kernel
theorem dX11_soundsSo_60 : decode cX11_soundsSo 60 = .ok (.iinc 7 1, 3) := by decide +kernel
theorem dX11_soundsSo_63 : decode cX11_soundsSo 63 = .ok (.goto (-57), 3) := by decide +kernel
theorem dX11_soundsSo_66 : decode cX11_soundsSo 66 = .ok (.iconst 1, 1) := by decide +kernel
theorem dX11_soundsSo_67 : decode cX11_soundsSo 67 = .ok (.ireturn, 1) := by decide +kernel
theorem dX11_drawOne_0 : decode cX11_drawOne 0 = .ok (.aload_n 0, 1) := by decide +kernel
theorem dX11_drawOne_1 : decode cX11_drawOne 1 = .ok (.getfield 69, 3) := by decide +kernel
theorem dX11_drawOne_4 : decode cX11_drawOne 4 = .ok (.lconst 0, 1) := by decide +kernel
theorem dX11_drawOne_5 : decode cX11_drawOne 5 = .ok (.invokestatic 237, 3) := by decide +kernel
theorem dX11_drawOne_8 : decode cX11_drawOne 8 = .ok (.iconst 0, 1) := by decide +kernel
theorem dX11_drawOne_9 : decode cX11_drawOne 9 = .ok (.istore 4, 2) := by decide +kernel
theorem dX11_drawOne_11 : decode cX11_drawOne 11 = .ok (.iload 4, 2) := by decide +kernel
theorem dX11_drawOne_13 : decode cX11_drawOne 13 = .ok (.aload_n 0, 1) := by decide +kernel
theorem dX11_drawOne_14 : decode cX11_drawOne 14 = .ok (.getfield 12, 3) := by decide +kernel
theorem dX11_drawOne_17 : decode cX11_drawOne 17 = .ok (.getfield 76, 3) := by decide +kernel
theorem dX11_drawOne_20 : decode cX11_drawOne 20 = .ok (.if_icmp .ge 110, 3) := by decide +kernel
theorem dX11_drawOne_23 : decode cX11_drawOne 23 = .ok (.aload_n 1, 1) := by decide +kernel
theorem dX11_drawOne_24 : decode cX11_drawOne 24 = .ok (.iload 4, 2) := by decide +kernel
theorem dX11_drawOne_26 : decode cX11_drawOne 26 = .ok (.iconst 0, 1) := by decide +kernel
theorem dX11_drawOne_27 : decode cX11_drawOne 27 = .ok (.iload_n 2, 1) := by decide +kernel
theorem dX11_drawOne_28 : decode cX11_drawOne 28 = .ok (.aload_n 0, 1) := by decide +kernel
theorem dX11_drawOne_29 : decode cX11_drawOne 29 = .ok (.getfield 12, 3) := by decide +kernel
theorem dX11_drawOne_32 : decode cX11_drawOne 32 = .ok (.getfield 116, 3) := by decide +kernel
theorem dX11_drawOne_35 : decode cX11_drawOne 35 = .ok (.invokevirtual 162, 3) := by decide +kernel
theorem dX11_drawOne_38 : decode cX11_drawOne 38 = .ok (.istore 5, 2) := by decide +kernel
theorem dX11_drawOne_40 : decode cX11_drawOne 40 = .ok (.aload_n 1, 1) := by decide +kernel
theorem dX11_drawOne_41 : decode cX11_drawOne 41 = .ok (.iload 4, 2) := by decide +kernel
theorem dX11_drawOne_43 : decode cX11_drawOne 43 = .ok (.iconst 1, 1) := by decide +kernel
theorem dX11_drawOne_44 : decode cX11_drawOne 44 = .ok (.iload_n 2, 1) := by decide +kernel
theorem dX11_drawOne_45 : decode cX11_drawOne 45 = .ok (.aload_n 0, 1) := by decide +kernel
theorem dX11_drawOne_46 : decode cX11_drawOne 46 = .ok (.getfield 12, 3) := by decide +kernel
theorem dX11_drawOne_49 : decode cX11_drawOne 49 = .ok (.getfield 116, 3) := by decide +kernel
theorem dX11_drawOne_52 : decode cX11_drawOne 52 = .ok (.invokevirtual 162, 3) := by decide +kernel
theorem dX11_drawOne_55 : decode cX11_drawOne 55 = .ok (.istore 6, 2) := by decide +kernel
theorem dX11_drawOne_57 : decode cX11_drawOne 57 = .ok (.aload_n 0, 1) := by decide +kernel
theorem dX11_drawOne_58 : decode cX11_drawOne 58 = .ok (.getfield 12, 3) := by decide +kernel
theorem dX11_drawOne_61 : decode cX11_drawOne 61 = .ok (.iload 5, 2) := by decide +kernel
theorem dX11_drawOne_63 : decode cX11_drawOne 63 = .ok (.invokevirtual 113, 3) := by decide +kernel
theorem dX11_drawOne_66 : decode cX11_drawOne 66 = .ok (.ifCond .eq 58, 3) := by decide +kernel
theorem dX11_drawOne_69 : decode cX11_drawOne 69 = .ok (.aload_n 0, 1) := by decide +kernel
theorem dX11_drawOne_70 : decode cX11_drawOne 70 = .ok (.getfield 12, 3) := by decide +kernel
theorem dX11_drawOne_73 : decode cX11_drawOne 73 = .ok (.iload 6, 2) := by decide +kernel
theorem dX11_drawOne_75 : decode cX11_drawOne 75 = .ok (.invokevirtual 113, 3) := by decide +kernel
theorem dX11_drawOne_78 : decode cX11_drawOne 78 = .ok (.ifCond .eq 46, 3) := by decide +kernel
theorem dX11_drawOne_81 : decode cX11_drawOne 81 = .ok (.aload_n 0, 1) := by decide +kernel
theorem dX11_drawOne_82 : decode cX11_drawOne 82 = .ok (.getfield 69, 3) := by decide +kernel
theorem dX11_drawOne_85 : decode cX11_drawOne 85 = .ok (.iload 5, 2) := by decide +kernel
theorem dX11_drawOne_87 : decode cX11_drawOne 87 = .ok (.dup2, 1) := by decide +kernel
theorem dX11_drawOne_88 : decode cX11_drawOne 88 = .ok (.laload, 1) := by decide +kernel
theorem dX11_drawOne_89 : decode cX11_drawOne 89 = .ok (.bipush 10, 2) := by decide +kernel
theorem dX11_drawOne_91 : decode cX11_drawOne 91 = .ok (.iload_n 3, 1) := by decide +kernel
theorem dX11_drawOne_92 : decode cX11_drawOne 92 = .ok (.isub, 1) := by decide +kernel
theorem dX11_drawOne_93 : decode cX11_drawOne 93 = .ok (.i2l, 1) := by decide +kernel
theorem dX11_drawOne_94 : decode cX11_drawOne 94 = .ok (.aload_n 0, 1) := by decide +kernel
theorem dX11_drawOne_95 : decode cX11_drawOne 95 = .ok (.getfield 65, 3) := by decide +kernel
theorem dX11_drawOne_98 : decode cX11_drawOne 98 = .ok (.iload 4, 2) := by decide +kernel
theorem dX11_drawOne_100 : decode cX11_drawOne 100 = .ok (.laload, 1) := by decide +kernel
theorem dX11_drawOne_101 : decode cX11_drawOne 101 = .ok (.lmul, 1) := by decide +kernel
theorem dX11_drawOne_102 : decode cX11_drawOne 102 = .ok (.ladd, 1) := by decide +kernel
theorem dX11_drawOne_103 : decode cX11_drawOne 103 = .ok (.lastore, 1) := by decide +kernel
theorem dX11_drawOne_104 : decode cX11_drawOne 104 = .ok (.aload_n 0, 1) := by decide +kernel
theorem dX11_drawOne_105 : decode cX11_drawOne 105 = .ok (.getfield 69, 3) := by decide +kernel
theorem dX11_drawOne_108 : decode cX11_drawOne 108 = .ok (.iload 6, 2) := by decide +kernel
theorem dX11_drawOne_110 : decode cX11_drawOne 110 = .ok (.dup2, 1) := by decide +kernel
theorem dX11_drawOne_111 : decode cX11_drawOne 111 = .ok (.laload, 1) := by decide +kernel
theorem dX11_drawOne_112 : decode cX11_drawOne 112 = .ok (.iload_n 3, 1) := by decide +kernel
theorem dX11_drawOne_113 : decode cX11_drawOne 113 = .ok (.i2l, 1) := by decide +kernel
theorem dX11_drawOne_114 : decode cX11_drawOne 114 = .ok (.aload_n 0, 1) := by decide +kernel
theorem dX11_drawOne_115 : decode cX11_drawOne 115 = .ok (.getfield 65, 3) := by decide +kernel
theorem dX11_drawOne_118 : decode cX11_drawOne 118 = .ok (.iload 4, 2) := by decide +kernel
theorem dX11_drawOne_120 : decode cX11_drawOne 120 = .ok (.laload, 1) := by decide +kernel
theorem dX11_drawOne_121 : decode cX11_drawOne 121 = .ok (.lmul, 1) := by decide +kernel
theorem dX11_drawOne_122 : decode cX11_drawOne 122 = .ok (.ladd, 1) := by decide +kernel
theorem dX11_drawOne_123 : decode cX11_drawOne 123 = .ok (.lastore, 1) := by decide +kernel
theorem dX11_drawOne_124 : decode cX11_drawOne 124 = .ok (.iinc 4 1, 3) := by decide +kernel
theorem dX11_drawOne_127 : decode cX11_drawOne 127 = .ok (.goto (-116), 3) := by decide +kernel
theorem dX11_drawOne_130 : decode cX11_drawOne 130 = .ok (.aload_n 0, 1) := by decide +kernel
theorem dX11_drawOne_131 : decode cX11_drawOne 131 = .ok (.getfield 69, 3) := by decide +kernel
theorem dX11_drawOne_134 : decode cX11_drawOne 134 = .ok (.iconst 0, 1) := by decide +kernel
theorem dX11_drawOne_135 : decode cX11_drawOne 135 = .ok (.aload_n 0, 1) := by decide +kernel
theorem dX11_drawOne_136 : decode cX11_drawOne 136 = .ok (.getfield 65, 3) := by decide +kernel
theorem dX11_drawOne_139 : decode cX11_drawOne 139 = .ok (.iconst 0, 1) := by decide +kernel
theorem dX11_drawOne_140 : decode cX11_drawOne 140 = .ok (.iconst 5, 1) := by decide +kernel
theorem dX11_drawOne_141 : decode cX11_drawOne 141 = .ok (.invokestatic 271, 3) := by decide +kernel
theorem dX11_drawOne_144 : decode cX11_drawOne 144 = .ok (.return_, 1) := by decide +kernel
theorem dX11_keepFraction_0 : decode cX11_keepFraction 0 = .ok (.lload_n 1, 1) := by decide +kernel
theorem dX11_keepFraction_1 : decode cX11_keepFraction 1 = .ok (.lload_n 3, 1) := by decide +kernel
theorem dX11_keepFraction_2 : decode cX11_keepFraction 2 = .ok (.invokestatic 277, 3) := by decide +kernel
theorem dX11_keepFraction_5 : decode cX11_keepFraction 5 = .ok (.lstore 5, 2) := by decide +kernel
theorem dX11_keepFraction_7 : decode cX11_keepFraction 7 = .ok (.lload 5, 2) := by decide +kernel
theorem dX11_keepFraction_9 : decode cX11_keepFraction 9 = .ok (.lconst 0, 1) := by decide +kernel
theorem dX11_keepFraction_10 : decode cX11_keepFraction 10 = .ok (.lcmp, 1) := by decide +kernel
theorem dX11_keepFraction_11 : decode cX11_keepFraction 11 = .ok (.ifCond .le 19, 3) := by decide +kernel
theorem dX11_keepFraction_14 : decode cX11_keepFraction 14 = .ok (.aload_n 0, 1) := by decide +kernel
theorem dX11_keepFraction_15 : decode cX11_keepFraction 15 = .ok (.lload_n 1, 1) := by decide +kernel
theorem dX11_keepFraction_16 : decode cX11_keepFraction 16 = .ok (.lload 5, 2) := by decide +kernel
theorem dX11_keepFraction_18 : decode cX11_keepFraction 18 = .ok (.ldiv, 1) := by decide +kernel
theorem dX11_keepFraction_19 : decode cX11_keepFraction 19 = .ok (.putfield 28, 3) := by decide +kernel
theorem dX11_keepFraction_22 : decode cX11_keepFraction 22 = .ok (.aload_n 0, 1) := by decide +kernel
theorem dX11_keepFraction_23 : decode cX11_keepFraction 23 = .ok (.lload_n 3, 1) := by decide +kernel
theorem dX11_keepFraction_24 : decode cX11_keepFraction 24 = .ok (.lload 5, 2) := by decide +kernel
theorem dX11_keepFraction_26 : decode cX11_keepFraction 26 = .ok (.ldiv, 1) := by decide +kernel
theorem dX11_keepFraction_27 : decode cX11_keepFraction 27 = .ok (.putfield 32, 3) := by decide +kernel
theorem dX11_keepFraction_30 : decode cX11_keepFraction 30 = .ok (.return_, 1) := by decide +kernel
theorem dX11_commonDivisor_0 : decode cX11_commonDivisor 0 = .ok (.lload_n 0, 1) := by decide +kernel
theorem dX11_commonDivisor_1 : decode cX11_commonDivisor 1 = .ok (.lstore 4, 2) := by decide +kernel
theorem dX11_commonDivisor_3 : decode cX11_commonDivisor 3 = .ok (.lload_n 2, 1) := by decide +kernel
theorem dX11_commonDivisor_4 : decode cX11_commonDivisor 4 = .ok (.lstore 6, 2) := by decide +kernel
theorem dX11_commonDivisor_6 : decode cX11_commonDivisor 6 = .ok (.iconst 0, 1) := by decide +kernel
theorem dX11_commonDivisor_7 : decode cX11_commonDivisor 7 = .ok (.istore 8, 2) := by decide +kernel
theorem dX11_commonDivisor_9 : decode cX11_commonDivisor 9 = .ok (.iload 8, 2) := by decide +kernel
theorem dX11_commonDivisor_11 : decode cX11_commonDivisor 11 = .ok (.sipush 128, 3) := by decide +kernel
theorem dX11_commonDivisor_14 : decode cX11_commonDivisor 14 = .ok (.if_icmp .ge 31, 3) := by decide +kernel
theorem dX11_commonDivisor_17 : decode cX11_commonDivisor 17 = .ok (.lload 6, 2) := by decide +kernel
theorem dX11_commonDivisor_19 : decode cX11_commonDivisor 19 = .ok (.lconst 0, 1) := by decide +kernel
theorem dX11_commonDivisor_20 : decode cX11_commonDivisor 20 = .ok (.lcmp, 1) := by decide +kernel
theorem dX11_commonDivisor_21 : decode cX11_commonDivisor 21 = .ok (.ifCond .eq 24, 3) := by decide +kernel
theorem dX11_commonDivisor_24 : decode cX11_commonDivisor 24 = .ok (.lload 4, 2) := by decide +kernel
theorem dX11_commonDivisor_26 : decode cX11_commonDivisor 26 = .ok (.lload 6, 2) := by decide +kernel
theorem dX11_commonDivisor_28 : decode cX11_commonDivisor 28 = .ok (.lrem, 1) := by decide +kernel
theorem dX11_commonDivisor_29 : decode cX11_commonDivisor 29 = .ok (.lstore 9, 2) := by decide +kernel
theorem dX11_commonDivisor_31 : decode cX11_commonDivisor 31 = .ok (.lload 6, 2) := by decide +kernel
theorem dX11_commonDivisor_33 : decode cX11_commonDivisor 33 = .ok (.lstore 4, 2) := by decide +kernel
theorem dX11_commonDivisor_35 : decode cX11_commonDivisor 35 = .ok (.lload 9, 2) := by decide +kernel
theorem dX11_commonDivisor_37 : decode cX11_commonDivisor 37 = .ok (.lstore 6, 2) := by decide +kernel
theorem dX11_commonDivisor_39 : decode cX11_commonDivisor 39 = .ok (.iinc 8 1, 3) := by decide +kernel
theorem dX11_commonDivisor_42 : decode cX11_commonDivisor 42 = .ok (.goto (-33), 3) := by decide +kernel
theorem dX11_commonDivisor_45 : decode cX11_commonDivisor 45 = .ok (.lload 4, 2) := by decide +kernel
theorem dX11_commonDivisor_47 : decode cX11_commonDivisor 47 = .ok (.lreturn, 1) := by decide +kernel
theorem dX11_isRowsKind_0 : decode cX11_isRowsKind 0 = .ok (.iload_n 0, 1) := by decide +kernel
theorem dX11_isRowsKind_1 : decode cX11_isRowsKind 1 = .ok (.ifCond .eq 13, 3) := by decide +kernel
theorem dX11_isRowsKind_4 : decode cX11_isRowsKind 4 = .ok (.iload_n 0, 1) := by decide +kernel
theorem dX11_isRowsKind_5 : decode cX11_isRowsKind 5 = .ok (.iconst 1, 1) := by decide +kernel
theorem dX11_isRowsKind_6 : decode cX11_isRowsKind 6 = .ok (.if_icmp .eq 8, 3) := by decide +kernel
theorem dX11_isRowsKind_9 : decode cX11_isRowsKind 9 = .ok (.iload_n 0, 1) := by decide +kernel
theorem dX11_isRowsKind_10 : decode cX11_isRowsKind 10 = .ok (.iconst 4, 1) := by decide +kernel
theorem dX11_isRowsKind_11 : decode cX11_isRowsKind 11 = .ok (.if_icmp .ne 7, 3) := by decide +kernel
theorem dX11_isRowsKind_14 : decode cX11_isRowsKind 14 = .ok (.iconst 1, 1) := by decide +kernel
theorem dX11_isRowsKind_15 : decode cX11_isRowsKind 15 = .ok (.goto 4, 3) := by decide +kernel
theorem dX11_isRowsKind_18 : decode cX11_isRowsKind 18 = .ok (.iconst 0, 1) := by decide +kernel
theorem dX11_isRowsKind_19 : decode cX11_isRowsKind 19 = .ok (.ireturn, 1) := by decide +kernel
theorem dX11_isLearningKind_0 : decode cX11_isLearningKind 0 = .ok (.iload_n 0, 1) := by decide +kernel
theorem dX11_isLearningKind_1 : decode cX11_isLearningKind 1 = .ok (.iconst 2, 1) := by decide +kernel
theorem dX11_isLearningKind_2 : decode cX11_isLearningKind 2 = .ok (.if_icmp .eq 8, 3) := by decide +kernel
theorem dX11_isLearningKind_5 : decode cX11_isLearningKind 5 = .ok (.iload_n 0, 1) := by decide +kernel
theorem dX11_isLearningKind_6 : decode cX11_isLearningKind 6 = .ok (.iconst 3, 1) := by decide +kernel
theorem dX11_isLearningKind_7 : decode cX11_isLearningKind 7 = .ok (.if_icmp .ne 7, 3) := by decide +kernel
theorem dX11_isLearningKind_10 : decode cX11_isLearningKind 10 = .ok (.iconst 1, 1) := by decide +kernel
theorem dX11_isLearningKind_11 : decode cX11_isLearningKind 11 = .ok (.goto 4, 3) := by decide +kernel
theorem dX11_isLearningKind_14 : decode cX11_isLearningKind 14 = .ok (.iconst 0, 1) := by decide +kernel
theorem dX11_isLearningKind_15 : decode cX11_isLearningKind 15 = .ok (.ireturn, 1) := by decide +kernel
theorem dX11_bred_0 : decode cX11_bred 0 = .ok (.iload_n 0, 1) := by decide +kernel
theorem dX11_bred_1 : decode cX11_bred 1 = .ok (.iconst 1, 1) := by decide +kernel
theorem dX11_bred_2 : decode cX11_bred 2 = .ok (.if_icmp .ne 14, 3) := by decide +kernel
theorem dX11_bred_5 : decode cX11_bred 5 = .ok (.new 281, 3) := by decide +kernel
theorem dX11_bred_8 : decode cX11_bred 8 = .ok (.dup, 1) := by decide +kernel
theorem dX11_bred_9 : decode cX11_bred 9 = .ok (.iload_n 0, 1) := by decide +kernel
theorem dX11_bred_10 : decode cX11_bred 10 = .ok (.iload_n 1, 1) := by decide +kernel
theorem dX11_bred_11 : decode cX11_bred 11 = .ok (.iload_n 2, 1) := by decide +kernel
theorem dX11_bred_12 : decode cX11_bred 12 = .ok (.invokespecial 283, 3) := by decide +kernel
theorem dX11_bred_15 : decode cX11_bred 15 = .ok (.areturn, 1) := by decide +kernel
theorem dX11_bred_16 : decode cX11_bred 16 = .ok (.iload_n 0, 1) := by decide +kernel
theorem dX11_bred_17 : decode cX11_bred 17 = .ok (.iconst 4, 1) := by decide +kernel
theorem dX11_bred_18 : decode cX11_bred 18 = .ok (.if_icmp .ne 14, 3) := by decide +kernel
theorem dX11_bred_21 : decode cX11_bred 21 = .ok (.new 286, 3) := by decide +kernel
theorem dX11_bred_24 : decode cX11_bred 24 = .ok (.dup, 1) := by decide +kernel
theorem dX11_bred_25 : decode cX11_bred 25 = .ok (.iload_n 0, 1) := by decide +kernel
theorem dX11_bred_26 : decode cX11_bred 26 = .ok (.iload_n 1, 1) := by decide +kernel
theorem dX11_bred_27 : decode cX11_bred 27 = .ok (.iload_n 2, 1) := by decide +kernel
theorem dX11_bred_28 : decode cX11_bred 28 = .ok (.invokespecial 288, 3) := by decide +kernel
theorem dX11_bred_31 : decode cX11_bred 31 = .ok (.areturn, 1) := by decide +kernel
theorem dX11_bred_32 : decode cX11_bred 32 = .ok (.new 163, 3) := by decide +kernel
theorem dX11_bred_35 : decode cX11_bred 35 = .ok (.dup, 1) := by decide +kernel
theorem dX11_bred_36 : decode cX11_bred 36 = .ok (.iload_n 0, 1) := by decide +kernel
theorem dX11_bred_37 : decode cX11_bred 37 = .ok (.iload_n 1, 1) := by decide +kernel
theorem dX11_bred_38 : decode cX11_bred 38 = .ok (.iload_n 2, 1) := by decide +kernel
theorem dX11_bred_39 : decode cX11_bred 39 = .ok (.invokespecial 289, 3) := by decide +kernel
theorem dX11_bred_42 : decode cX11_bred 42 = .ok (.areturn, 1) := by decide +kernel
theorem dX11_bredLearning_0 : decode cX11_bredLearning 0 = .ok (.iload_n 0, 1) := by decide +kernel
theorem dX11_bredLearning_1 : decode cX11_bredLearning 1 = .ok (.iconst 3, 1) := by decide +kernel
theorem dX11_bredLearning_2 : decode cX11_bredLearning 2 = .ok (.if_icmp .ne 19, 3) := by decide +kernel
theorem dX11_bredLearning_5 : decode cX11_bredLearning 5 = .ok (.new 290, 3) := by decide +kernel
theorem dX11_bredLearning_8 : decode cX11_bredLearning 8 = .ok (.dup, 1) := by decide +kernel
theorem dX11_bredLearning_9 : decode cX11_bredLearning 9 = .ok (.iload_n 0, 1) := by decide +kernel
theorem dX11_bredLearning_10 : decode cX11_bredLearning 10 = .ok (.iload_n 1, 1) := by decide +kernel
theorem dX11_bredLearning_11 : decode cX11_bredLearning 11 = .ok (.iload_n 2, 1) := by decide +kernel
theorem dX11_bredLearning_12 : decode cX11_bredLearning 12 = .ok (.iload_n 3, 1) := by decide +kernel
theorem dX11_bredLearning_13 : decode cX11_bredLearning 13 = .ok (.iload 4, 2) := by decide +kernel
theorem dX11_bredLearning_15 : decode cX11_bredLearning 15 = .ok (.iload 5, 2) := by decide +kernel
theorem dX11_bredLearning_17 : decode cX11_bredLearning 17 = .ok (.invokespecial 292, 3) := by decide +kernel
theorem dX11_bredLearning_20 : decode cX11_bredLearning 20 = .ok (.areturn, 1) := by decide +kernel
theorem dX11_bredLearning_21 : decode cX11_bredLearning 21 = .ok (.new 295, 3) := by decide +kernel
theorem dX11_bredLearning_24 : decode cX11_bredLearning 24 = .ok (.dup, 1) := by decide +kernel
theorem dX11_bredLearning_25 : decode cX11_bredLearning 25 = .ok (.iload_n 0, 1) := by decide +kernel
theorem dX11_bredLearning_26 : decode cX11_bredLearning 26 = .ok (.iload_n 1, 1) := by decide +kernel
theorem dX11_bredLearning_27 : decode cX11_bredLearning 27 = .ok (.iload_n 2, 1) := by decide +kernel
theorem dX11_bredLearning_28 : decode cX11_bredLearning 28 = .ok (.iload_n 3, 1) := by decide +kernel
theorem dX11_bredLearning_29 : decode cX11_bredLearning 29 = .ok (.iload 4, 2) := by decide +kernel
theorem dX11_bredLearning_31 : decode cX11_bredLearning 31 = .ok (.iload 5, 2) := by decide +kernel
theorem dX11_bredLearning_33 : decode cX11_bredLearning 33 = .ok (.invokespecial 297, 3) := by decide +kernel
theorem dX11_bredLearning_36 : decode cX11_bredLearning 36 = .ok (.areturn, 1) := by decide +kernel
theorem dX11_phaseOf_0 : decode cX11_phaseOf 0 = .ok (.iload_n 0, 1) := by decide +kernel
theorem dX11_phaseOf_1 : decode cX11_phaseOf 1 = .ok (.iconst 3, 1) := by decide +kernel
theorem dX11_phaseOf_2 : decode cX11_phaseOf 2 = .ok (.if_icmp .ge 7, 3) := by decide +kernel
theorem dX11_phaseOf_5 : decode cX11_phaseOf 5 = .ok (.iload_n 0, 1) := by decide +kernel
theorem dX11_phaseOf_6 : decode cX11_phaseOf 6 = .ok (.goto 8, 3) := by decide +kernel
theorem dX11_phaseOf_9 : decode cX11_phaseOf 9 = .ok (.iconst 4, 1) := by decide +kernel
theorem dX11_phaseOf_10 : decode cX11_phaseOf 10 = .ok (.iload_n 0, 1) := by decide +kernel
theorem dX11_phaseOf_11 : decode cX11_phaseOf 11 = .ok (.iconst 1, 1) := by decide +kernel
theorem dX11_phaseOf_12 : decode cX11_phaseOf 12 = .ok (.iand, 1) := by decide +kernel
theorem dX11_phaseOf_13 : decode cX11_phaseOf 13 = .ok (.isub, 1) := by decide +kernel
theorem dX11_phaseOf_14 : decode cX11_phaseOf 14 = .ok (.ireturn, 1) := by decide +kernel
theorem dX11_lowestBitIndex_0 : decode cX11_lowestBitIndex 0 = .ok (.iload_n 0, 1) := by decide +kernel
theorem dX11_lowestBitIndex_1 : decode cX11_lowestBitIndex 1 = .ok (.iload_n 0, 1) := by decide +kernel
theorem dX11_lowestBitIndex_2 : decode cX11_lowestBitIndex 2 = .ok (.ineg, 1) := by decide +kernel
theorem dX11_lowestBitIndex_3 : decode cX11_lowestBitIndex 3 = .ok (.iand, 1) := by decide +kernel
theorem dX11_lowestBitIndex_4 : decode cX11_lowestBitIndex 4 = .ok (.iconst 1, 1) := by decide +kernel
theorem dX11_lowestBitIndex_5 : decode cX11_lowestBitIndex 5 = .ok (.isub, 1) := by decide +kernel
theorem dX11_lowestBitIndex_6 : decode cX11_lowestBitIndex 6 = .ok (.invokestatic 203, 3) := by decide +kernel
theorem dX11_lowestBitIndex_9 : decode cX11_lowestBitIndex 9 = .ok (.ireturn, 1) := by decide +kernel
theorem dX12_init_0 : decode cX12_init 0 = .ok (.aload_n 0, 1) := by decide +kernel
theorem dX12_init_1 : decode cX12_init 1 = .ok (.invokespecial 1, 3) := by decide +kernel
theorem dX12_init_4 : decode cX12_init 4 = .ok (.aload_n 0, 1) := by decide +kernel
theorem dX12_init_5 : decode cX12_init 5 = .ok (.bipush 25, 2) := by decide +kernel
theorem dX12_init_7 : decode cX12_init 7 = .ok (.newarray .int, 2) := by decide +kernel
theorem dX12_init_9 : decode cX12_init 9 = .ok (.putfield 7, 3) := by decide +kernel
theorem dX12_init_12 : decode cX12_init 12 = .ok (.aload_n 0, 1) := by decide +kernel
theorem dX12_init_13 : decode cX12_init 13 = .ok (.bipush 25, 2) := by decide +kernel
theorem dX12_init_15 : decode cX12_init 15 = .ok (.newarray .int, 2) := by decide +kernel
theorem dX12_init_17 : decode cX12_init 17 = .ok (.putfield 13, 3) := by decide +kernel
theorem dX12_init_20 : decode cX12_init 20 = .ok (.aload_n 0, 1) := by decide +kernel
theorem dX12_init_21 : decode cX12_init 21 = .ok (.bipush 50, 2) := by decide +kernel
theorem dX12_init_23 : decode cX12_init 23 = .ok (.newarray .int, 2) := by decide +kernel
theorem dX12_init_25 : decode cX12_init 25 = .ok (.putfield 16, 3) := by decide +kernel
theorem dX12_init_28 : decode cX12_init 28 = .ok (.aload_n 0, 1) := by decide +kernel
theorem dX12_init_29 : decode cX12_init 29 = .ok (.iconst 2, 1) := by decide +kernel
theorem dX12_init_30 : decode cX12_init 30 = .ok (.newarray .boolean, 2) := by decide +kernel
theorem dX12_init_32 : decode cX12_init 32 = .ok (.putfield 19, 3) := by decide +kernel
theorem dX12_init_35 : decode cX12_init 35 = .ok (.aload_n 0, 1) := by decide +kernel
theorem dX12_init_36 : decode cX12_init 36 = .ok (.sipush 200, 3) := by decide +kernel
theorem dX12_init_39 : decode cX12_init 39 = .ok (.newarray .int, 2) := by decide +kernel
theorem dX12_init_41 : decode cX12_init 41 = .ok (.putfield 23, 3) := by decide +kernel
theorem dX12_init_44 : decode cX12_init 44 = .ok (.aload_n 0, 1) := by decide +kernel
theorem dX12_init_45 : decode cX12_init 45 = .ok (.iconst 3, 1) := by decide +kernel
theorem dX12_init_46 : decode cX12_init 46 = .ok (.newarray .int, 2) := by decide +kernel
theorem dX12_init_48 : decode cX12_init 48 = .ok (.putfield 26, 3) := by decide +kernel
theorem dX12_init_51 : decode cX12_init 51 = .ok (.aload_n 0, 1) := by decide +kernel
theorem dX12_init_52 : decode cX12_init 52 = .ok (.ldc 29, 2) := by decide +kernel
theorem dX12_init_54 : decode cX12_init 54 = .ok (.newarray .int, 2) := by decide +kernel
theorem dX12_init_56 : decode cX12_init 56 = .ok (.putfield 30, 3) := by decide +kernel
theorem dX12_init_59 : decode cX12_init 59 = .ok (.aload_n 0, 1) := by decide +kernel
theorem dX12_init_60 : decode cX12_init 60 = .ok (.ldc 29, 2) := by decide +kernel
theorem dX12_init_62 : decode cX12_init 62 = .ok (.newarray .int, 2) := by decide +kernel
theorem dX12_init_64 : decode cX12_init 64 = .ok (.putfield 33, 3) := by decide +kernel
theorem dX12_init_67 : decode cX12_init 67 = .ok (.aload_n 0, 1) := by decide +kernel
theorem dX12_init_68 : decode cX12_init 68 = .ok (.iconst 2, 1) := by decide +kernel
theorem dX12_init_69 : decode cX12_init 69 = .ok (.newarray .int, 2) := by decide +kernel
theorem dX12_init_71 : decode cX12_init 71 = .ok (.putfield 36, 3) := by decide +kernel
theorem dX12_init_74 : decode cX12_init 74 = .ok (.aload_n 0, 1) := by decide +kernel
theorem dX12_init_75 : decode cX12_init 75 = .ok (.bipush 125, 2) := by decide +kernel
theorem dX12_init_77 : decode cX12_init 77 = .ok (.newarray .boolean, 2) := by decide +kernel
theorem dX12_init_79 : decode cX12_init 79 = .ok (.putfield 39, 3) := by decide +kernel
theorem dX12_init_82 : decode cX12_init 82 = .ok (.aload_n 0, 1) := by decide +kernel
theorem dX12_init_83 : decode cX12_init 83 = .ok (.sipush 288, 3) := by decide +kernel
theorem dX12_init_86 : decode cX12_init 86 = .ok (.newarray .int, 2) := by decide +kernel
theorem dX12_init_88 : decode cX12_init 88 = .ok (.putfield 42, 3) := by decide +kernel
theorem dX12_init_91 : decode cX12_init 91 = .ok (.aload_n 0, 1) := by decide +kernel
theorem dX12_init_92 : decode cX12_init 92 = .ok (.bipush 10, 2) := by decide +kernel
theorem dX12_init_94 : decode cX12_init 94 = .ok (.newarray .long, 2) := by decide +kernel
theorem dX12_init_96 : decode cX12_init 96 = .ok (.putfield 45, 3) := by decide +kernel
theorem dX12_init_99 : decode cX12_init 99 = .ok (.aload_n 0, 1) := by decide +kernel
theorem dX12_init_100 : decode cX12_init 100 = .ok (.getfield 7, 3) := by decide +kernel
theorem dX12_init_103 : decode cX12_init 103 = .ok (.iconst 0, 1) := by decide +kernel
theorem dX12_init_104 : decode cX12_init 104 = .ok (.iconst 5, 1) := by decide +kernel
theorem dX12_init_105 : decode cX12_init 105 = .ok (.iastore, 1) := by decide +kernel
theorem dX12_init_106 : decode cX12_init 106 = .ok (.aload_n 0, 1) := by decide +kernel
theorem dX12_init_107 : decode cX12_init 107 = .ok (.getfield 7, 3) := by decide +kernel
theorem dX12_init_110 : decode cX12_init 110 = .ok (.iconst 4, 1) := by decide +kernel
theorem dX12_init_111 : decode cX12_init 111 = .ok (.iconst 1, 1) := by decide +kernel
theorem dX12_init_112 : decode cX12_init 112 = .ok (.iastore, 1) := by decide +kernel
theorem dX12_init_113 : decode cX12_init 113 = .ok (.aload_n 0, 1) := by decide +kernel
theorem dX12_init_114 : decode cX12_init 114 = .ok (.getfield 7, 3) := by decide +kernel
theorem dX12_init_117 : decode cX12_init 117 = .ok (.iconst 5, 1) := by decide +kernel
theorem dX12_init_118 : decode cX12_init 118 = .ok (.iconst 1, 1) := by decide +kernel
theorem dX12_init_119 : decode cX12_init 119 = .ok (.iastore, 1) := by decide +kernel
theorem dX12_init_120 : decode cX12_init 120 = .ok (.aload_n 0, 1) := by decide +kernel
theorem dX12_init_121 : decode cX12_init 121 = .ok (.lconst 1, 1) := by decide +kernel
theorem dX12_init_122 : decode cX12_init 122 = .ok (.putfield 49, 3) := by decide +kernel
theorem dX12_init_125 : decode cX12_init 125 = .ok (.return_, 1) := by decide +kernel
theorem dX12_in_0 : decode cX12_in 0 = .ok (.iload_n 0, 1) := by decide +kernel
theorem dX12_in_1 : decode cX12_in 1 = .ok (.iload_n 1, 1) := by decide +kernel
theorem dX12_in_2 : decode cX12_in 2 = .ok (.if_icmp .lt 12, 3) := by decide +kernel
theorem dX12_in_5 : decode cX12_in 5 = .ok (.iload_n 0, 1) := by decide +kernel
theorem dX12_in_6 : decode cX12_in 6 = .ok (.iload_n 2, 1) := by decide +kernel
theorem dX12_in_7 : decode cX12_in 7 = .ok (.if_icmp .gt 7, 3) := by decide +kernel
theorem dX12_in_10 : decode cX12_in 10 = .ok (.iconst 1, 1) := by decide +kernel
theorem dX12_in_11 : decode cX12_in 11 = .ok (.goto 4, 3) := by decide +kernel
theorem dX12_in_14 : decode cX12_in 14 = .ok (.iconst 0, 1) := by decide +kernel
theorem dX12_in_15 : decode cX12_in 15 = .ok (.ireturn, 1) := by decide +kernel
theorem dX12_refuses_0 : decode cX12_refuses 0 = .ok (.aload_n 0, 1) := by decide +kernel
theorem dX12_refuses_1 : decode cX12_refuses 1 = .ok (.getfield 26, 3) := by decide +kernel
theorem dX12_refuses_4 : decode cX12_refuses 4 = .ok (.iload_n 1, 1) := by decide +kernel
theorem dX12_refuses_5 : decode cX12_refuses 5 = .ok (.dup2, 1) := by decide +kernel
theorem dX12_refuses_6 : decode cX12_refuses 6 = .ok (.iaload, 1) := by decide +kernel
theorem dX12_refuses_7 : decode cX12_refuses 7 = .ok (.iconst 1, 1) := by decide +kernel
theorem dX12_refuses_8 : decode cX12_refuses 8 = .ok (.iadd, 1) := by decide +kernel
theorem dX12_refuses_9 : decode cX12_refuses 9 = .ok (.iastore, 1) := by decide +kernel
theorem dX12_refuses_10 : decode cX12_refuses 10 = .ok (.iload_n 2, 1) := by decide +kernel
theorem dX12_refuses_11 : decode cX12_refuses 11 = .ok (.ireturn, 1) := by decide +kernel
theorem dX12_bad_0 : decode cX12_bad 0 = .ok (.aload_n 0, 1) := by decide +kernel
theorem dX12_bad_1 : decode cX12_bad 1 = .ok (.iconst 0, 1) := by decide +kernel
theorem dX12_bad_2 : decode cX12_bad 2 = .ok (.bipush (-2), 2) := by decide +kernel
theorem dX12_bad_4 : decode cX12_bad 4 = .ok (.invokevirtual 53, 3) := by decide +kernel
theorem dX12_bad_7 : decode cX12_bad 7 = .ok (.ireturn, 1) := by decide +kernel
theorem dX12_isPlace_0 : decode cX12_isPlace 0 = .ok (.iload_n 1, 1) := by decide +kernel
theorem dX12_isPlace_1 : decode cX12_isPlace 1 = .ok (.iconst 0, 1) := by decide +kernel
theorem dX12_isPlace_2 : decode cX12_isPlace 2 = .ok (.aload_n 0, 1) := by decide +kernel
theorem dX12_isPlace_3 : decode cX12_isPlace 3 = .ok (.getfield 7, 3) := by decide +kernel
theorem dX12_isPlace_6 : decode cX12_isPlace 6 = .ok (.iconst 0, 1) := by decide +kernel
theorem dX12_isPlace_7 : decode cX12_isPlace 7 = .ok (.iaload, 1) := by decide +kernel
theorem dX12_isPlace_8 : decode cX12_isPlace 8 = .ok (.iconst 1, 1) := by decide +kernel
theorem dX12_isPlace_9 : decode cX12_isPlace 9 = .ok (.isub, 1) := by decide +kernel
theorem dX12_isPlace_10 : decode cX12_isPlace 10 = .ok (.invokestatic 57, 3) := by decide +kernel
theorem dX12_isPlace_13 : decode cX12_isPlace 13 = .ok (.ireturn, 1) := by decide +kernel
theorem dX12_isDog_0 : decode cX12_isDog 0 = .ok (.iload_n 1, 1) := by decide +kernel
theorem dX12_isDog_1 : decode cX12_isDog 1 = .ok (.iconst 0, 1) := by decide +kernel
theorem dX12_isDog_2 : decode cX12_isDog 2 = .ok (.aload_n 0, 1) := by decide +kernel
theorem dX12_isDog_3 : decode cX12_isDog 3 = .ok (.getfield 7, 3) := by decide +kernel
theorem dX12_isDog_6 : decode cX12_isDog 6 = .ok (.bipush 6, 2) := by decide +kernel
theorem dX12_isDog_8 : decode cX12_isDog 8 = .ok (.iaload, 1) := by decide +kernel
theorem dX12_isDog_9 : decode cX12_isDog 9 = .ok (.iconst 1, 1) := by decide +kernel
theorem dX12_isDog_10 : decode cX12_isDog 10 = .ok (.isub, 1) := by decide +kernel
theorem dX12_isDog_11 : decode cX12_isDog 11 = .ok (.invokestatic 57, 3) := by decide +kernel
theorem dX12_isDog_14 : decode cX12_isDog 14 = .ok (.ireturn, 1) := by decide +kernel
theorem dX12_isSet_0 : decode cX12_isSet 0 = .ok (.iload_n 1, 1) := by decide +kernel
theorem dX12_isSet_1 : decode cX12_isSet 1 = .ok (.iconst 0, 1) := by decide +kernel
theorem dX12_isSet_2 : decode cX12_isSet 2 = .ok (.iconst 1, 1) := by decide +kernel
theorem dX12_isSet_3 : decode cX12_isSet 3 = .ok (.aload_n 0, 1) := by decide +kernel
theorem dX12_isSet_4 : decode cX12_isSet 4 = .ok (.getfield 7, 3) := by decide +kernel
theorem dX12_isSet_7 : decode cX12_isSet 7 = .ok (.bipush 6, 2) := by decide +kernel
theorem dX12_isSet_9 : decode cX12_isSet 9 = .ok (.iaload, 1) := by decide +kernel
theorem dX12_isSet_10 : decode cX12_isSet 10 = .ok (.ishl, 1) := by decide +kernel
theorem dX12_isSet_11 : decode cX12_isSet 11 = .ok (.iconst 1, 1) := by decide +kernel
theorem dX12_isSet_12 : decode cX12_isSet 12 = .ok (.isub, 1) := by decide +kernel
theorem dX12_isSet_13 : decode cX12_isSet 13 = .ok (.invokestatic 57, 3) := by decide +kernel
theorem dX12_isSet_16 : decode cX12_isSet 16 = .ok (.ireturn, 1) := by decide +kernel
theorem dX12_isTune_0 : decode cX12_isTune 0 = .ok (.iload_n 1, 1) := by decide +kernel
theorem dX12_isTune_1 : decode cX12_isTune 1 = .ok (.iconst 0, 1) := by decide +kernel
theorem dX12_isTune_2 : decode cX12_isTune 2 = .ok (.iconst 1, 1) := by decide +kernel
theorem dX12_isTune_3 : decode cX12_isTune 3 = .ok (.iload_n 2, 1) := by decide +kernel
theorem dX12_isTune_4 : decode cX12_isTune 4 = .ok (.ishl, 1) := by decide +kernel
theorem dX12_isTune_5 : decode cX12_isTune 5 = .ok (.iconst 1, 1) := by decide +kernel
theorem dX12_isTune_6 : decode cX12_isTune 6 = .ok (.isub, 1) := by decide +kernel
theorem dX12_isTune_7 : decode cX12_isTune 7 = .ok (.invokestatic 57, 3) := by decide +kernel
theorem dX12_isTune_10 : decode cX12_isTune 10 = .ok (.ireturn, 1) := by decide +kernel
theorem dX12_places_0 : decode cX12_places 0 = .ok (.iload_n 1, 1) := by decide +kernel
theorem dX12_places_1 : decode cX12_places 1 = .ok (.iconst 2, 1) := by decide +kernel
theorem dX12_places_2 : decode cX12_places 2 = .ok (.iconst 5, 1) := by decide +kernel
theorem dX12_places_3 : decode cX12_places 3 = .ok (.invokestatic 57, 3) := by decide +kernel
theorem dX12_places_6 : decode cX12_places 6 = .ok (.ifCond .ne 8, 3) := by decide +kernel
theorem dX12_places_9 : decode cX12_places 9 = .ok (.aload_n 0, 1) := by decide +kernel
theorem dX12_places_10 : decode cX12_places 10 = .ok (.invokevirtual 61, 3) := by decide +kernel
theorem dX12_places_13 : decode cX12_places 13 = .ok (.ireturn, 1) := by decide +kernel
theorem dX12_places_14 : decode cX12_places 14 = .ok (.aload_n 0, 1) := by decide +kernel
theorem dX12_places_15 : decode cX12_places 15 = .ok (.getfield 7, 3) := by decide +kernel
theorem dX12_places_18 : decode cX12_places 18 = .ok (.iconst 0, 1) := by decide +kernel
theorem dX12_places_19 : decode cX12_places 19 = .ok (.iaload, 1) := by decide +kernel
theorem dX12_places_20 : decode cX12_places 20 = .ok (.istore_n 2, 1) := by decide +kernel
theorem dX12_places_21 : decode cX12_places 21 = .ok (.aload_n 0, 1) := by decide +kernel
theorem dX12_places_22 : decode cX12_places 22 = .ok (.getfield 7, 3) := by decide +kernel
theorem dX12_places_25 : decode cX12_places 25 = .ok (.iconst 4, 1) := by decide +kernel
theorem dX12_places_26 : decode cX12_places 26 = .ok (.iaload, 1) := by decide +kernel
theorem dX12_places_27 : decode cX12_places 27 = .ok (.istore_n 3, 1) := by decide +kernel
theorem dX12_places_28 : decode cX12_places 28 = .ok (.aload_n 0, 1) := by decide +kernel
theorem dX12_places_29 : decode cX12_places 29 = .ok (.getfield 7, 3) := by decide +kernel
theorem dX12_places_32 : decode cX12_places 32 = .ok (.iconst 5, 1) := by decide +kernel
theorem dX12_places_33 : decode cX12_places 33 = .ok (.iaload, 1) := by decide +kernel
theorem dX12_places_34 : decode cX12_places 34 = .ok (.istore 4, 2) := by decide +kernel
theorem dX12_places_36 : decode cX12_places 36 = .ok (.iconst 0, 1) := by decide +kernel
theorem dX12_places_37 : decode cX12_places 37 = .ok (.istore 5, 2) := by decide +kernel
theorem dX12_places_39 : decode cX12_places 39 = .ok (.iload 5, 2) := by decide +kernel
theorem dX12_places_41 : decode cX12_places 41 = .ok (.bipush 25, 2) := by decide +kernel
theorem dX12_places_43 : decode cX12_places 43 = .ok (.if_icmp .ge 17, 3) := by decide +kernel
theorem dX12_places_46 : decode cX12_places 46 = .ok (.aload_n 0, 1) := by decide +kernel
theorem dX12_places_47 : decode cX12_places 47 = .ok (.getfield 7, 3) := by decide +kernel
theorem dX12_places_50 : decode cX12_places 50 = .ok (.iload 5, 2) := by decide +kernel
theorem dX12_places_52 : decode cX12_places 52 = .ok (.iconst 0, 1) := by decide +kernel
theorem dX12_places_53 : decode cX12_places 53 = .ok (.iastore, 1) := by decide +kernel
theorem dX12_places_54 : decode cX12_places 54 = .ok (.iinc 5 1, 3) := by decide +kernel
theorem dX12_places_57 : decode cX12_places 57 = .ok (.goto (-18), 3) := by decide +kernel
theorem dX12_places_60 : decode cX12_places 60 = .ok (.aload_n 0, 1) := by decide +kernel
theorem dX12_places_61 : decode cX12_places 61 = .ok (.getfield 7, 3) := by decide +kernel
theorem dX12_places_64 : decode cX12_places 64 = .ok (.iconst 0, 1) := by decide +kernel
theorem dX12_places_65 : decode cX12_places 65 = .ok (.iload_n 1, 1) := by decide +kernel
theorem dX12_places_66 : decode cX12_places 66 = .ok (.iastore, 1) := by decide +kernel
theorem dX12_places_67 : decode cX12_places 67 = .ok (.aload_n 0, 1) := by decide +kernel
theorem dX12_places_68 : decode cX12_places 68 = .ok (.getfield 7, 3) := by decide +kernel
theorem dX12_places_71 : decode cX12_places 71 = .ok (.iconst 4, 1) := by decide +kernel
theorem dX12_places_72 : decode cX12_places 72 = .ok (.iload_n 3, 1) := by decide +kernel
theorem dX12_places_73 : decode cX12_places 73 = .ok (.iastore, 1) := by decide +kernel
theorem dX12_places_74 : decode cX12_places 74 = .ok (.aload_n 0, 1) := by decide +kernel
theorem dX12_places_75 : decode cX12_places 75 = .ok (.getfield 7, 3) := by decide +kernel
theorem dX12_places_78 : decode cX12_places 78 = .ok (.iconst 5, 1) := by decide +kernel
theorem dX12_places_79 : decode cX12_places 79 = .ok (.iload 4, 2) := by decide +kernel
theorem dX12_places_81 : decode cX12_places 81 = .ok (.iastore, 1) := by decide +kernel
theorem dX12_places_82 : decode cX12_places 82 = .ok (.iload_n 2, 1) := by decide +kernel
theorem dX12_places_83 : decode cX12_places 83 = .ok (.ireturn, 1) := by decide +kernel
theorem dX12_isRow_0 : decode cX12_isRow 0 = .ok (.iload_n 1, 1) := by decide +kernel
theorem dX12_isRow_1 : decode cX12_isRow 1 = .ok (.istore_n 2, 1) := by decide +kernel
theorem dX12_isRow_2 : decode cX12_isRow 2 = .ok (.iload_n 1, 1) := by decide +kernel
theorem dX12_isRow_3 : decode cX12_isRow 3 = .ok (.ifCond .lt 7, 3) := by decide +kernel
theorem dX12_isRow_6 : decode cX12_isRow 6 = .ok (.iconst 1, 1) := by decide +kernel
theorem dX12_isRow_7 : decode cX12_isRow 7 = .ok (.goto 4, 3) := by decide +kernel
theorem dX12_isRow_10 : decode cX12_isRow 10 = .ok (.iconst 0, 1) := by decide +kernel
theorem dX12_isRow_11 : decode cX12_isRow 11 = .ok (.istore_n 3, 1) := by decide +kernel
theorem dX12_isRow_12 : decode cX12_isRow 12 = .ok (.iconst 0, 1) := by decide +kernel
theorem dX12_isRow_13 : decode cX12_isRow 13 = .ok (.istore 4, 2) := by decide +kernel
theorem dX12_isRow_15 : decode cX12_isRow 15 = .ok (.iload 4, 2) := by decide +kernel
theorem dX12_isRow_17 : decode cX12_isRow 17 = .ok (.aload_n 0, 1) := by decide +kernel
theorem dX12_isRow_18 : decode cX12_isRow 18 = .ok (.getfield 7, 3) := by decide +kernel
theorem dX12_isRow_21 : decode cX12_isRow 21 = .ok (.iconst 0, 1) := by decide +kernel
theorem dX12_isRow_22 : decode cX12_isRow 22 = .ok (.iaload, 1) := by decide +kernel
theorem dX12_isRow_23 : decode cX12_isRow 23 = .ok (.if_icmp .ge 37, 3) := by decide +kernel
theorem dX12_isRow_26 : decode cX12_isRow 26 = .ok (.iload_n 3, 1) := by decide +kernel
theorem dX12_isRow_27 : decode cX12_isRow 27 = .ok (.ifCond .eq 20, 3) := by decide +kernel
theorem dX12_isRow_30 : decode cX12_isRow 30 = .ok (.iload_n 2, 1) := by decide +kernel
theorem dX12_isRow_31 : decode cX12_isRow 31 = .ok (.bipush 8, 2) := by decide +kernel
theorem dX12_isRow_33 : decode cX12_isRow 33 = .ok (.irem, 1) := by decide +kernel
theorem dX12_isRow_34 : decode cX12_isRow 34 = .ok (.aload_n 0, 1) := by decide +kernel
theorem dX12_isRow_35 : decode cX12_isRow 35 = .ok (.getfield 7, 3) := by decide +kernel
theorem dX12_isRow_38 : decode cX12_isRow 38 = .ok (.iconst 0, 1) := by decide +kernel
theorem dX12_isRow_39 : decode cX12_isRow 39 = .ok (.iaload, 1) := by decide +kernel
theorem dX12_isRow_40 : decode cX12_isRow 40 = .ok (.if_icmp .ge 7, 3) := by decide +kernel
theorem dX12_isRow_43 : decode cX12_isRow 43 = .ok (.iconst 1, 1) := by decide +kernel
theorem dX12_isRow_44 : decode cX12_isRow 44 = .ok (.goto 4, 3) := by decide +kernel
theorem dX12_isRow_47 : decode cX12_isRow 47 = .ok (.iconst 0, 1) := by decide +kernel
theorem dX12_isRow_48 : decode cX12_isRow 48 = .ok (.istore_n 3, 1) := by decide +kernel
theorem dX12_isRow_49 : decode cX12_isRow 49 = .ok (.iload_n 2, 1) := by decide +kernel
theorem dX12_isRow_50 : decode cX12_isRow 50 = .ok (.bipush 8, 2) := by decide +kernel
theorem dX12_isRow_52 : decode cX12_isRow 52 = .ok (.idiv, 1) := by decide +kernel
theorem dX12_isRow_53 : decode cX12_isRow 53 = .ok (.istore_n 2, 1) := by decide +kernel
theorem dX12_isRow_54 : decode cX12_isRow 54 = .ok (.iinc 4 1, 3) := by decide +kernel
theorem dX12_isRow_57 : decode cX12_isRow 57 = .ok (.goto (-42), 3) := by decide +kernel
theorem dX12_isRow_60 : decode cX12_isRow 60 = .ok (.iload_n 3, 1) := by decide +kernel
theorem dX12_isRow_61 : decode cX12_isRow 61 = .ok (.ifCond .eq 11, 3) := by decide +kernel
theorem dX12_isRow_64 : decode cX12_isRow 64 = .ok (.iload_n 2, 1) := by decide +kernel
theorem dX12_isRow_65 : decode cX12_isRow 65 = .ok (.ifCond .ne 7, 3) := by decide +kernel
theorem dX12_isRow_68 : decode cX12_isRow 68 = .ok (.iconst 1, 1) := by decide +kernel
theorem dX12_isRow_69 : decode cX12_isRow 69 = .ok (.goto 4, 3) := by decide +kernel
theorem dX12_isRow_72 : decode cX12_isRow 72 = .ok (.iconst 0, 1) := by decide +kernel
theorem dX12_isRow_73 : decode cX12_isRow 73 = .ok (.ireturn, 1) := by decide +kernel
theorem dX12_comes_0 : decode cX12_comes 0 = .ok (.aload_n 0, 1) := by decide +kernel
theorem dX12_comes_1 : decode cX12_comes 1 = .ok (.getfield 7, 3) := by decide +kernel
theorem dX12_comes_4 : decode cX12_comes 4 = .ok (.bipush 6, 2) := by decide +kernel
theorem dX12_comes_6 : decode cX12_comes 6 = .ok (.iaload, 1) := by decide +kernel
theorem dX12_comes_7 : decode cX12_comes 7 = .ok (.iconst 3, 1) := by decide +kernel
theorem dX12_comes_8 : decode cX12_comes 8 = .ok (.if_icmp .ne 11, 3) := by decide +kernel
theorem dX12_comes_11 : decode cX12_comes 11 = .ok (.aload_n 0, 1) := by decide +kernel
theorem dX12_comes_12 : decode cX12_comes 12 = .ok (.iconst 2, 1) := by decide +kernel
theorem dX12_comes_13 : decode cX12_comes 13 = .ok (.bipush (-4), 2) := by decide +kernel
theorem dX12_comes_15 : decode cX12_comes 15 = .ok (.invokevirtual 53, 3) := by decide +kernel
theorem dX12_comes_18 : decode cX12_comes 18 = .ok (.ireturn, 1) := by decide +kernel
theorem dX12_comes_19 : decode cX12_comes 19 = .ok (.bipush 7, 2) := by decide +kernel
theorem dX12_comes_21 : decode cX12_comes 21 = .ok (.bipush 6, 2) := by decide +kernel
theorem dX12_comes_23 : decode cX12_comes 23 = .ok (.aload_n 0, 1) := by decide +kernel
theorem dX12_comes_24 : decode cX12_comes 24 = .ok (.getfield 7, 3) := by decide +kernel
theorem dX12_comes_27 : decode cX12_comes 27 = .ok (.bipush 6, 2) := by decide +kernel
theorem dX12_comes_29 : decode cX12_comes 29 = .ok (.iaload, 1) := by decide +kernel
theorem dX12_comes_30 : decode cX12_comes 30 = .ok (.imul, 1) := by decide +kernel
theorem dX12_comes_31 : decode cX12_comes 31 = .ok (.iadd, 1) := by decide +kernel
theorem dX12_comes_32 : decode cX12_comes 32 = .ok (.istore 7, 2) := by decide +kernel
theorem dX12_comes_34 : decode cX12_comes 34 = .ok (.aload_n 0, 1) := by decide +kernel
theorem dX12_comes_35 : decode cX12_comes 35 = .ok (.getfield 7, 3) := by decide +kernel
theorem dX12_comes_38 : decode cX12_comes 38 = .ok (.iload 7, 2) := by decide +kernel
theorem dX12_comes_40 : decode cX12_comes 40 = .ok (.iload_n 1, 1) := by decide +kernel
theorem dX12_comes_41 : decode cX12_comes 41 = .ok (.iastore, 1) := by decide +kernel
theorem dX12_comes_42 : decode cX12_comes 42 = .ok (.aload_n 0, 1) := by decide +kernel
theorem dX12_comes_43 : decode cX12_comes 43 = .ok (.getfield 7, 3) := by decide +kernel
theorem dX12_comes_46 : decode cX12_comes 46 = .ok (.iload 7, 2) := by decide +kernel
theorem dX12_comes_48 : decode cX12_comes 48 = .ok (.iconst 1, 1) := by decide +kernel
theorem dX12_comes_49 : decode cX12_comes 49 = .ok (.iadd, 1) := by decide +kernel
theorem dX12_comes_50 : decode cX12_comes 50 = .ok (.iload_n 2, 1) := by decide +kernel
theorem dX12_comes_51 : decode cX12_comes 51 = .ok (.iastore, 1) := by decide +kernel
theorem dX12_comes_52 : decode cX12_comes 52 = .ok (.aload_n 0, 1) := by decide +kernel
theorem dX12_comes_53 : decode cX12_comes 53 = .ok (.getfield 7, 3) := by decide +kernel
theorem dX12_comes_56 : decode cX12_comes 56 = .ok (.iload 7, 2) := by decide +kernel
theorem dX12_comes_58 : decode cX12_comes 58 = .ok (.iconst 2, 1) := by decide +kernel
theorem dX12_comes_59 : decode cX12_comes 59 = .ok (.iadd, 1) := by decide +kernel
theorem dX12_comes_60 : decode cX12_comes 60 = .ok (.iload_n 3, 1) := by decide +kernel
theorem dX12_comes_61 : decode cX12_comes 61 = .ok (.iastore, 1) := by decide +kernel
theorem dX12_comes_62 : decode cX12_comes 62 = .ok (.aload_n 0, 1) := by decide +kernel
theorem dX12_comes_63 : decode cX12_comes 63 = .ok (.getfield 7, 3) := by decide +kernel
theorem dX12_comes_66 : decode cX12_comes 66 = .ok (.iload 7, 2) := by decide +kernel
theorem dX12_comes_68 : decode cX12_comes 68 = .ok (.iconst 3, 1) := by decide +kernel
theorem dX12_comes_69 : decode cX12_comes 69 = .ok (.iadd, 1) := by decide +kernel
theorem dX12_comes_70 : decode cX12_comes 70 = .ok (.iload 4, 2) := by decide +kernel
theorem dX12_comes_72 : decode cX12_comes 72 = .ok (.iastore, 1) := by decide +kernel
theorem dX12_comes_73 : decode cX12_comes 73 = .ok (.aload_n 0, 1) := by decide +kernel
theorem dX12_comes_74 : decode cX12_comes 74 = .ok (.getfield 7, 3) := by decide +kernel
theorem dX12_comes_77 : decode cX12_comes 77 = .ok (.iload 7, 2) := by decide +kernel
theorem dX12_comes_79 : decode cX12_comes 79 = .ok (.iconst 4, 1) := by decide +kernel
theorem dX12_comes_80 : decode cX12_comes 80 = .ok (.iadd, 1) := by decide +kernel
theorem dX12_comes_81 : decode cX12_comes 81 = .ok (.iload 5, 2) := by decide +kernel
theorem dX12_comes_83 : decode cX12_comes 83 = .ok (.iastore, 1) := by decide +kernel
theorem dX12_comes_84 : decode cX12_comes 84 = .ok (.aload_n 0, 1) := by decide +kernel
theorem dX12_comes_85 : decode cX12_comes 85 = .ok (.getfield 7, 3) := by decide +kernel
theorem dX12_comes_88 : decode cX12_comes 88 = .ok (.iload 7, 2) := by decide +kernel
theorem dX12_comes_90 : decode cX12_comes 90 = .ok (.iconst 5, 1) := by decide +kernel
theorem dX12_comes_91 : decode cX12_comes 91 = .ok (.iadd, 1) := by decide +kernel
theorem dX12_comes_92 : decode cX12_comes 92 = .ok (.iload 6, 2) := by decide +kernel
theorem dX12_comes_94 : decode cX12_comes 94 = .ok (.iastore, 1) := by decide +kernel
theorem dX12_comes_95 : decode cX12_comes 95 = .ok (.aload_n 0, 1) := by decide +kernel
theorem dX12_comes_96 : decode cX12_comes 96 = .ok (.getfield 7, 3) := by decide +kernel
theorem dX12_comes_99 : decode cX12_comes 99 = .ok (.bipush 6, 2) := by decide +kernel
theorem dX12_comes_101 : decode cX12_comes 101 = .ok (.dup2, 1) := by decide +kernel
theorem dX12_comes_102 : decode cX12_comes 102 = .ok (.iaload, 1) := by decide +kernel
theorem dX12_comes_103 : decode cX12_comes 103 = .ok (.iconst 1, 1) := by decide +kernel
theorem dX12_comes_104 : decode cX12_comes 104 = .ok (.iadd, 1) := by decide +kernel
theorem dX12_comes_105 : decode cX12_comes 105 = .ok (.iastore, 1) := by decide +kernel
theorem dX12_comes_106 : decode cX12_comes 106 = .ok (.aload_n 0, 1) := by decide +kernel
theorem dX12_comes_107 : decode cX12_comes 107 = .ok (.getfield 7, 3) := by decide +kernel
theorem dX12_comes_110 : decode cX12_comes 110 = .ok (.bipush 6, 2) := by decide +kernel
theorem dX12_comes_112 : decode cX12_comes 112 = .ok (.iaload, 1) := by decide +kernel
theorem dX12_comes_113 : decode cX12_comes 113 = .ok (.iconst 1, 1) := by decide +kernel
theorem dX12_comes_114 : decode cX12_comes 114 = .ok (.isub, 1) := by decide +kernel
theorem dX12_comes_115 : decode cX12_comes 115 = .ok (.ireturn, 1) := by decide +kernel
theorem dX12_dog_0 : decode cX12_dog 0 = .ok (.iload_n 1, 1) := by decide +kernel
theorem dX12_dog_1 : decode cX12_dog 1 = .ok (.iconst 0, 1) := by decide +kernel
theorem dX12_dog_2 : decode cX12_dog 2 = .ok (.iconst 4, 1) := by decide +kernel
theorem dX12_dog_3 : decode cX12_dog 3 = .ok (.invokestatic 57, 3) := by decide +kernel
theorem dX12_dog_6 : decode cX12_dog 6 = .ok (.ifCond .eq 29, 3) := by decide +kernel
theorem dX12_dog_9 : decode cX12_dog 9 = .ok (.iload_n 1, 1) := by decide +kernel
theorem dX12_dog_10 : decode cX12_dog 10 = .ok (.iconst 2, 1) := by decide +kernel
theorem dX12_dog_11 : decode cX12_dog 11 = .ok (.if_icmp .eq 24, 3) := by decide +kernel
theorem dX12_dog_14 : decode cX12_dog 14 = .ok (.iload_n 1, 1) := by decide +kernel
theorem dX12_dog_15 : decode cX12_dog 15 = .ok (.iconst 3, 1) := by decide +kernel
theorem dX12_dog_16 : decode cX12_dog 16 = .ok (.if_icmp .eq 19, 3) := by decide +kernel
theorem dX12_dog_19 : decode cX12_dog 19 = .ok (.aload_n 0, 1) := by decide +kernel
theorem dX12_dog_20 : decode cX12_dog 20 = .ok (.iload_n 2, 1) := by decide +kernel
theorem dX12_dog_21 : decode cX12_dog 21 = .ok (.invokevirtual 65, 3) := by decide +kernel
theorem dX12_dog_24 : decode cX12_dog 24 = .ok (.ifCond .eq 11, 3) := by decide +kernel
theorem dX12_dog_27 : decode cX12_dog 27 = .ok (.aload_n 0, 1) := by decide +kernel
theorem dX12_dog_28 : decode cX12_dog 28 = .ok (.iload_n 3, 1) := by decide +kernel
end
section
theorem dX12_dog_29 : decode cX12_dog 29 = .ok (.invokevirtual 65, 3) := by decide +kernel
theorem dX12_dog_32 : decode cX12_dog 32 = .ok (.ifCond .ne 8, 3) := by decide +kernel
theorem dX12_dog_35 : decode cX12_dog 35 = .ok (.aload_n 0, 1) := by decide +kernel
theorem dX12_dog_36 : decode cX12_dog 36 = .ok (.invokevirtual 61, 3) := by decide +kernel
theorem dX12_dog_39 : decode cX12_dog 39 = .ok (.ireturn, 1) := by decide +kernel
theorem dX12_dog_40 : decode cX12_dog 40 = .ok (.aload_n 0, 1) := by decide +kernel
theorem dX12_dog_41 : decode cX12_dog 41 = .ok (.iload_n 1, 1) := by decide +kernel
theorem dX12_dog_42 : decode cX12_dog 42 = .ok (.iload_n 2, 1) := by decide +kernel
theorem dX12_dog_43 : decode cX12_dog 43 = .ok (.iload_n 3, 1) := by decide +kernel
theorem dX12_dog_44 : decode cX12_dog 44 = .ok (.iconst 0, 1) := by decide +kernel
theorem dX12_dog_45 : decode cX12_dog 45 = .ok (.iconst 0, 1) := by decide +kernel
theorem dX12_dog_46 : decode cX12_dog 46 = .ok (.iconst 0, 1) := by decide +kernel
theorem dX12_dog_47 : decode cX12_dog 47 = .ok (.invokevirtual 69, 3) := by decide +kernel
theorem dX12_dog_50 : decode cX12_dog 50 = .ok (.ireturn, 1) := by decide +kernel
theorem dX12_pup_0 : decode cX12_pup 0 = .ok (.iload_n 1, 1) := by decide +kernel
theorem dX12_pup_1 : decode cX12_pup 1 = .ok (.iconst 2, 1) := by decide +kernel
theorem dX12_pup_2 : decode cX12_pup 2 = .ok (.iconst 3, 1) := by decide +kernel
theorem dX12_pup_3 : decode cX12_pup 3 = .ok (.invokestatic 57, 3) := by decide +kernel
theorem dX12_pup_6 : decode cX12_pup 6 = .ok (.ifCond .eq 47, 3) := by decide +kernel
theorem dX12_pup_9 : decode cX12_pup 9 = .ok (.aload_n 0, 1) := by decide +kernel
theorem dX12_pup_10 : decode cX12_pup 10 = .ok (.iload_n 2, 1) := by decide +kernel
theorem dX12_pup_11 : decode cX12_pup 11 = .ok (.invokevirtual 65, 3) := by decide +kernel
theorem dX12_pup_14 : decode cX12_pup 14 = .ok (.ifCond .eq 39, 3) := by decide +kernel
theorem dX12_pup_17 : decode cX12_pup 17 = .ok (.aload_n 0, 1) := by decide +kernel
theorem dX12_pup_18 : decode cX12_pup 18 = .ok (.iload_n 3, 1) := by decide +kernel
theorem dX12_pup_19 : decode cX12_pup 19 = .ok (.invokevirtual 65, 3) := by decide +kernel
theorem dX12_pup_22 : decode cX12_pup 22 = .ok (.ifCond .eq 31, 3) := by decide +kernel
theorem dX12_pup_25 : decode cX12_pup 25 = .ok (.aload_n 0, 1) := by decide +kernel
theorem dX12_pup_26 : decode cX12_pup 26 = .ok (.iload 4, 2) := by decide +kernel
theorem dX12_pup_28 : decode cX12_pup 28 = .ok (.invokevirtual 65, 3) := by decide +kernel
theorem dX12_pup_31 : decode cX12_pup 31 = .ok (.ifCond .eq 22, 3) := by decide +kernel
theorem dX12_pup_34 : decode cX12_pup 34 = .ok (.aload_n 0, 1) := by decide +kernel
theorem dX12_pup_35 : decode cX12_pup 35 = .ok (.iload 5, 2) := by decide +kernel
theorem dX12_pup_37 : decode cX12_pup 37 = .ok (.invokevirtual 65, 3) := by decide +kernel
theorem dX12_pup_40 : decode cX12_pup 40 = .ok (.ifCond .eq 13, 3) := by decide +kernel
theorem dX12_pup_43 : decode cX12_pup 43 = .ok (.iload 6, 2) := by decide +kernel
theorem dX12_pup_45 : decode cX12_pup 45 = .ok (.iconst 1, 1) := by decide +kernel
theorem dX12_pup_46 : decode cX12_pup 46 = .ok (.iconst 3, 1) := by decide +kernel
theorem dX12_pup_47 : decode cX12_pup 47 = .ok (.invokestatic 57, 3) := by decide +kernel
theorem dX12_pup_50 : decode cX12_pup 50 = .ok (.ifCond .ne 8, 3) := by decide +kernel
theorem dX12_pup_53 : decode cX12_pup 53 = .ok (.aload_n 0, 1) := by decide +kernel
theorem dX12_pup_54 : decode cX12_pup 54 = .ok (.invokevirtual 61, 3) := by decide +kernel
theorem dX12_pup_57 : decode cX12_pup 57 = .ok (.ireturn, 1) := by decide +kernel
theorem dX12_pup_58 : decode cX12_pup 58 = .ok (.aload_n 0, 1) := by decide +kernel
theorem dX12_pup_59 : decode cX12_pup 59 = .ok (.iload_n 1, 1) := by decide +kernel
theorem dX12_pup_60 : decode cX12_pup 60 = .ok (.iload_n 2, 1) := by decide +kernel
theorem dX12_pup_61 : decode cX12_pup 61 = .ok (.iload_n 3, 1) := by decide +kernel
theorem dX12_pup_62 : decode cX12_pup 62 = .ok (.iload 4, 2) := by decide +kernel
theorem dX12_pup_64 : decode cX12_pup 64 = .ok (.iload 5, 2) := by decide +kernel
theorem dX12_pup_66 : decode cX12_pup 66 = .ok (.iload 6, 2) := by decide +kernel
theorem dX12_pup_68 : decode cX12_pup 68 = .ok (.invokevirtual 69, 3) := by decide +kernel
theorem dX12_pup_71 : decode cX12_pup 71 = .ok (.ireturn, 1) := by decide +kernel
theorem dX12_shut_0 : decode cX12_shut 0 = .ok (.aload_n 0, 1) := by decide +kernel
theorem dX12_shut_1 : decode cX12_shut 1 = .ok (.iload_n 1, 1) := by decide +kernel
theorem dX12_shut_2 : decode cX12_shut 2 = .ok (.invokevirtual 73, 3) := by decide +kernel
theorem dX12_shut_5 : decode cX12_shut 5 = .ok (.ifCond .ne 8, 3) := by decide +kernel
theorem dX12_shut_8 : decode cX12_shut 8 = .ok (.aload_n 0, 1) := by decide +kernel
theorem dX12_shut_9 : decode cX12_shut 9 = .ok (.invokevirtual 61, 3) := by decide +kernel
theorem dX12_shut_12 : decode cX12_shut 12 = .ok (.ireturn, 1) := by decide +kernel
theorem dX12_shut_13 : decode cX12_shut 13 = .ok (.aload_n 0, 1) := by decide +kernel
theorem dX12_shut_14 : decode cX12_shut 14 = .ok (.getfield 7, 3) := by decide +kernel
theorem dX12_shut_17 : decode cX12_shut 17 = .ok (.iconst 1, 1) := by decide +kernel
theorem dX12_shut_18 : decode cX12_shut 18 = .ok (.iaload, 1) := by decide +kernel
theorem dX12_shut_19 : decode cX12_shut 19 = .ok (.iload_n 1, 1) := by decide +kernel
theorem dX12_shut_20 : decode cX12_shut 20 = .ok (.ishr, 1) := by decide +kernel
theorem dX12_shut_21 : decode cX12_shut 21 = .ok (.iconst 1, 1) := by decide +kernel
theorem dX12_shut_22 : decode cX12_shut 22 = .ok (.iand, 1) := by decide +kernel
theorem dX12_shut_23 : decode cX12_shut 23 = .ok (.iconst 1, 1) := by decide +kernel
theorem dX12_shut_24 : decode cX12_shut 24 = .ok (.if_icmp .ne 7, 3) := by decide +kernel
theorem dX12_shut_27 : decode cX12_shut 27 = .ok (.iconst 1, 1) := by decide +kernel
theorem dX12_shut_28 : decode cX12_shut 28 = .ok (.goto 4, 3) := by decide +kernel
theorem dX12_shut_31 : decode cX12_shut 31 = .ok (.iconst 0, 1) := by decide +kernel
theorem dX12_shut_32 : decode cX12_shut 32 = .ok (.istore_n 3, 1) := by decide +kernel
theorem dX12_shut_33 : decode cX12_shut 33 = .ok (.iload_n 3, 1) := by decide +kernel
theorem dX12_shut_34 : decode cX12_shut 34 = .ok (.iload_n 2, 1) := by decide +kernel
theorem dX12_shut_35 : decode cX12_shut 35 = .ok (.if_icmp .ne 11, 3) := by decide +kernel
theorem dX12_shut_38 : decode cX12_shut 38 = .ok (.aload_n 0, 1) := by decide +kernel
theorem dX12_shut_39 : decode cX12_shut 39 = .ok (.iconst 1, 1) := by decide +kernel
theorem dX12_shut_40 : decode cX12_shut 40 = .ok (.bipush (-3), 2) := by decide +kernel
theorem dX12_shut_42 : decode cX12_shut 42 = .ok (.invokevirtual 53, 3) := by decide +kernel
theorem dX12_shut_45 : decode cX12_shut 45 = .ok (.ireturn, 1) := by decide +kernel
theorem dX12_shut_46 : decode cX12_shut 46 = .ok (.aload_n 0, 1) := by decide +kernel
theorem dX12_shut_47 : decode cX12_shut 47 = .ok (.getfield 7, 3) := by decide +kernel
theorem dX12_shut_50 : decode cX12_shut 50 = .ok (.iconst 1, 1) := by decide +kernel
theorem dX12_shut_51 : decode cX12_shut 51 = .ok (.dup2, 1) := by decide +kernel
theorem dX12_shut_52 : decode cX12_shut 52 = .ok (.iaload, 1) := by decide +kernel
theorem dX12_shut_53 : decode cX12_shut 53 = .ok (.iconst 1, 1) := by decide +kernel
theorem dX12_shut_54 : decode cX12_shut 54 = .ok (.iload_n 1, 1) := by decide +kernel
theorem dX12_shut_55 : decode cX12_shut 55 = .ok (.ishl, 1) := by decide +kernel
theorem dX12_shut_56 : decode cX12_shut 56 = .ok (.ixor, 1) := by decide +kernel
theorem dX12_shut_57 : decode cX12_shut 57 = .ok (.iastore, 1) := by decide +kernel
theorem dX12_shut_58 : decode cX12_shut 58 = .ok (.iconst 1, 1) := by decide +kernel
theorem dX12_shut_59 : decode cX12_shut 59 = .ok (.ireturn, 1) := by decide +kernel
theorem dX12_put_0 : decode cX12_put 0 = .ok (.iload_n 1, 1) := by decide +kernel
theorem dX12_put_1 : decode cX12_put 1 = .ok (.ifCond .ne 11, 3) := by decide +kernel
theorem dX12_put_4 : decode cX12_put 4 = .ok (.aload_n 0, 1) := by decide +kernel
theorem dX12_put_5 : decode cX12_put 5 = .ok (.iload_n 2, 1) := by decide +kernel
theorem dX12_put_6 : decode cX12_put 6 = .ok (.invokevirtual 73, 3) := by decide +kernel
theorem dX12_put_9 : decode cX12_put 9 = .ok (.goto 33, 3) := by decide +kernel
theorem dX12_put_12 : decode cX12_put 12 = .ok (.iload_n 1, 1) := by decide +kernel
theorem dX12_put_13 : decode cX12_put 13 = .ok (.iconst 1, 1) := by decide +kernel
theorem dX12_put_14 : decode cX12_put 14 = .ok (.if_icmp .ne 21, 3) := by decide +kernel
theorem dX12_put_17 : decode cX12_put 17 = .ok (.iload_n 2, 1) := by decide +kernel
theorem dX12_put_18 : decode cX12_put 18 = .ok (.iconst 0, 1) := by decide +kernel
theorem dX12_put_19 : decode cX12_put 19 = .ok (.iconst 1, 1) := by decide +kernel
theorem dX12_put_20 : decode cX12_put 20 = .ok (.aload_n 0, 1) := by decide +kernel
theorem dX12_put_21 : decode cX12_put 21 = .ok (.getfield 7, 3) := by decide +kernel
theorem dX12_put_24 : decode cX12_put 24 = .ok (.iconst 0, 1) := by decide +kernel
theorem dX12_put_25 : decode cX12_put 25 = .ok (.iaload, 1) := by decide +kernel
theorem dX12_put_26 : decode cX12_put 26 = .ok (.ishl, 1) := by decide +kernel
theorem dX12_put_27 : decode cX12_put 27 = .ok (.iconst 1, 1) := by decide +kernel
theorem dX12_put_28 : decode cX12_put 28 = .ok (.isub, 1) := by decide +kernel
theorem dX12_put_29 : decode cX12_put 29 = .ok (.invokestatic 57, 3) := by decide +kernel
theorem dX12_put_32 : decode cX12_put 32 = .ok (.goto 10, 3) := by decide +kernel
theorem dX12_put_35 : decode cX12_put 35 = .ok (.iload_n 2, 1) := by decide +kernel
theorem dX12_put_36 : decode cX12_put 36 = .ok (.iconst 1, 1) := by decide +kernel
theorem dX12_put_37 : decode cX12_put 37 = .ok (.bipush 9, 2) := by decide +kernel
theorem dX12_put_39 : decode cX12_put 39 = .ok (.invokestatic 57, 3) := by decide +kernel
theorem dX12_put_42 : decode cX12_put 42 = .ok (.istore_n 3, 1) := by decide +kernel
theorem dX12_put_43 : decode cX12_put 43 = .ok (.iload_n 1, 1) := by decide +kernel
theorem dX12_put_44 : decode cX12_put 44 = .ok (.iconst 0, 1) := by decide +kernel
theorem dX12_put_45 : decode cX12_put 45 = .ok (.iconst 3, 1) := by decide +kernel
theorem dX12_put_46 : decode cX12_put 46 = .ok (.invokestatic 57, 3) := by decide +kernel
theorem dX12_put_49 : decode cX12_put 49 = .ok (.ifCond .eq 7, 3) := by decide +kernel
theorem dX12_put_52 : decode cX12_put 52 = .ok (.iload_n 3, 1) := by decide +kernel
theorem dX12_put_53 : decode cX12_put 53 = .ok (.ifCond .ne 8, 3) := by decide +kernel
theorem dX12_put_56 : decode cX12_put 56 = .ok (.aload_n 0, 1) := by decide +kernel
theorem dX12_put_57 : decode cX12_put 57 = .ok (.invokevirtual 61, 3) := by decide +kernel
theorem dX12_put_60 : decode cX12_put 60 = .ok (.ireturn, 1) := by decide +kernel
theorem dX12_put_61 : decode cX12_put 61 = .ok (.iconst 2, 1) := by decide +kernel
theorem dX12_put_62 : decode cX12_put 62 = .ok (.iload_n 1, 1) := by decide +kernel
theorem dX12_put_63 : decode cX12_put 63 = .ok (.iadd, 1) := by decide +kernel
theorem dX12_put_64 : decode cX12_put 64 = .ok (.istore 4, 2) := by decide +kernel
theorem dX12_put_66 : decode cX12_put 66 = .ok (.aload_n 0, 1) := by decide +kernel
theorem dX12_put_67 : decode cX12_put 67 = .ok (.getfield 7, 3) := by decide +kernel
theorem dX12_put_70 : decode cX12_put 70 = .ok (.iload 4, 2) := by decide +kernel
theorem dX12_put_72 : decode cX12_put 72 = .ok (.iaload, 1) := by decide +kernel
theorem dX12_put_73 : decode cX12_put 73 = .ok (.istore 5, 2) := by decide +kernel
theorem dX12_put_75 : decode cX12_put 75 = .ok (.aload_n 0, 1) := by decide +kernel
theorem dX12_put_76 : decode cX12_put 76 = .ok (.getfield 7, 3) := by decide +kernel
theorem dX12_put_79 : decode cX12_put 79 = .ok (.iload 4, 2) := by decide +kernel
theorem dX12_put_81 : decode cX12_put 81 = .ok (.iload_n 2, 1) := by decide +kernel
theorem dX12_put_82 : decode cX12_put 82 = .ok (.iastore, 1) := by decide +kernel
theorem dX12_put_83 : decode cX12_put 83 = .ok (.iload 5, 2) := by decide +kernel
theorem dX12_put_85 : decode cX12_put 85 = .ok (.ireturn, 1) := by decide +kernel
theorem dX12_type_0 : decode cX12_type 0 = .ok (.iload_n 3, 1) := by decide +kernel
theorem dX12_type_1 : decode cX12_type 1 = .ok (.iconst 1, 1) := by decide +kernel
theorem dX12_type_2 : decode cX12_type 2 = .ok (.bipush 8, 2) := by decide +kernel
theorem dX12_type_4 : decode cX12_type 4 = .ok (.invokestatic 57, 3) := by decide +kernel
theorem dX12_type_7 : decode cX12_type 7 = .ok (.ifCond .ne 8, 3) := by decide +kernel
theorem dX12_type_10 : decode cX12_type 10 = .ok (.aload_n 0, 1) := by decide +kernel
theorem dX12_type_11 : decode cX12_type 11 = .ok (.invokevirtual 61, 3) := by decide +kernel
theorem dX12_type_14 : decode cX12_type 14 = .ok (.ireturn, 1) := by decide +kernel
theorem dX12_type_15 : decode cX12_type 15 = .ok (.aload_n 0, 1) := by decide +kernel
theorem dX12_type_16 : decode cX12_type 16 = .ok (.getfield 76, 3) := by decide +kernel
theorem dX12_type_19 : decode cX12_type 19 = .ok (.iload_n 3, 1) := by decide +kernel
theorem dX12_type_20 : decode cX12_type 20 = .ok (.iadd, 1) := by decide +kernel
theorem dX12_type_21 : decode cX12_type 21 = .ok (.sipush 200, 3) := by decide +kernel
theorem dX12_type_24 : decode cX12_type 24 = .ok (.if_icmp .le 11, 3) := by decide +kernel
theorem dX12_type_27 : decode cX12_type 27 = .ok (.aload_n 0, 1) := by decide +kernel
theorem dX12_type_28 : decode cX12_type 28 = .ok (.iconst 2, 1) := by decide +kernel
theorem dX12_type_29 : decode cX12_type 29 = .ok (.bipush (-4), 2) := by decide +kernel
theorem dX12_type_31 : decode cX12_type 31 = .ok (.invokevirtual 53, 3) := by decide +kernel
theorem dX12_type_34 : decode cX12_type 34 = .ok (.ireturn, 1) := by decide +kernel
theorem dX12_type_35 : decode cX12_type 35 = .ok (.iload_n 3, 1) := by decide +kernel
theorem dX12_type_36 : decode cX12_type 36 = .ok (.iconst 1, 1) := by decide +kernel
theorem dX12_type_37 : decode cX12_type 37 = .ok (.isub, 1) := by decide +kernel
theorem dX12_type_38 : decode cX12_type 38 = .ok (.istore 4, 2) := by decide +kernel
theorem dX12_type_40 : decode cX12_type 40 = .ok (.iload 4, 2) := by decide +kernel
theorem dX12_type_42 : decode cX12_type 42 = .ok (.ifCond .lt 40, 3) := by decide +kernel
theorem dX12_type_45 : decode cX12_type 45 = .ok (.aload_n 0, 1) := by decide +kernel
theorem dX12_type_46 : decode cX12_type 46 = .ok (.getfield 23, 3) := by decide +kernel
theorem dX12_type_49 : decode cX12_type 49 = .ok (.aload_n 0, 1) := by decide +kernel
theorem dX12_type_50 : decode cX12_type 50 = .ok (.getfield 76, 3) := by decide +kernel
theorem dX12_type_53 : decode cX12_type 53 = .ok (.lload_n 1, 1) := by decide +kernel
theorem dX12_type_54 : decode cX12_type 54 = .ok (.bipush 8, 2) := by decide +kernel
theorem dX12_type_56 : decode cX12_type 56 = .ok (.iload 4, 2) := by decide +kernel
theorem dX12_type_58 : decode cX12_type 58 = .ok (.imul, 1) := by decide +kernel
theorem dX12_type_59 : decode cX12_type 59 = .ok (.lshr, 1) := by decide +kernel
theorem dX12_type_60 : decode cX12_type 60 = .ok (.ldc2_w 80, 3) := by decide +kernel
theorem dX12_type_63 : decode cX12_type 63 = .ok (.land, 1) := by decide +kernel
theorem dX12_type_64 : decode cX12_type 64 = .ok (.l2i, 1) := by decide +kernel
theorem dX12_type_65 : decode cX12_type 65 = .ok (.iastore, 1) := by decide +kernel
theorem dX12_type_66 : decode cX12_type 66 = .ok (.aload_n 0, 1) := by decide +kernel
theorem dX12_type_67 : decode cX12_type 67 = .ok (.dup, 1) := by decide +kernel
theorem dX12_type_68 : decode cX12_type 68 = .ok (.getfield 76, 3) := by decide +kernel
theorem dX12_type_71 : decode cX12_type 71 = .ok (.iconst 1, 1) := by decide +kernel
theorem dX12_type_72 : decode cX12_type 72 = .ok (.iadd, 1) := by decide +kernel
theorem dX12_type_73 : decode cX12_type 73 = .ok (.putfield 76, 3) := by decide +kernel
theorem dX12_type_76 : decode cX12_type 76 = .ok (.iinc 4 (-1), 3) := by decide +kernel
theorem dX12_type_79 : decode cX12_type 79 = .ok (.goto (-39), 3) := by decide +kernel
theorem dX12_type_82 : decode cX12_type 82 = .ok (.aload_n 0, 1) := by decide +kernel
theorem dX12_type_83 : decode cX12_type 83 = .ok (.getfield 76, 3) := by decide +kernel
theorem dX12_type_86 : decode cX12_type 86 = .ok (.ireturn, 1) := by decide +kernel
theorem dX12_clear_0 : decode cX12_clear 0 = .ok (.aload_n 0, 1) := by decide +kernel
theorem dX12_clear_1 : decode cX12_clear 1 = .ok (.getfield 76, 3) := by decide +kernel
theorem dX12_clear_4 : decode cX12_clear 4 = .ok (.istore_n 1, 1) := by decide +kernel
theorem dX12_clear_5 : decode cX12_clear 5 = .ok (.aload_n 0, 1) := by decide +kernel
theorem dX12_clear_6 : decode cX12_clear 6 = .ok (.iconst 0, 1) := by decide +kernel
theorem dX12_clear_7 : decode cX12_clear 7 = .ok (.putfield 76, 3) := by decide +kernel
theorem dX12_clear_10 : decode cX12_clear 10 = .ok (.iload_n 1, 1) := by decide +kernel
theorem dX12_clear_11 : decode cX12_clear 11 = .ok (.ireturn, 1) := by decide +kernel
theorem dX12_byteAt_0 : decode cX12_byteAt 0 = .ok (.iload_n 1, 1) := by decide +kernel
theorem dX12_byteAt_1 : decode cX12_byteAt 1 = .ok (.aload_n 0, 1) := by decide +kernel
theorem dX12_byteAt_2 : decode cX12_byteAt 2 = .ok (.getfield 76, 3) := by decide +kernel
theorem dX12_byteAt_5 : decode cX12_byteAt 5 = .ok (.if_icmp .ge 12, 3) := by decide +kernel
theorem dX12_byteAt_8 : decode cX12_byteAt 8 = .ok (.aload_n 0, 1) := by decide +kernel
theorem dX12_byteAt_9 : decode cX12_byteAt 9 = .ok (.getfield 23, 3) := by decide +kernel
theorem dX12_byteAt_12 : decode cX12_byteAt 12 = .ok (.iload_n 1, 1) := by decide +kernel
theorem dX12_byteAt_13 : decode cX12_byteAt 13 = .ok (.iaload, 1) := by decide +kernel
theorem dX12_byteAt_14 : decode cX12_byteAt 14 = .ok (.goto 4, 3) := by decide +kernel
theorem dX12_byteAt_17 : decode cX12_byteAt 17 = .ok (.iconst (-1), 1) := by decide +kernel
theorem dX12_byteAt_18 : decode cX12_byteAt 18 = .ok (.ireturn, 1) := by decide +kernel
theorem dX12_sortOf_0 : decode cX12_sortOf 0 = .ok (.iload_n 0, 1) := by decide +kernel
theorem dX12_sortOf_1 : decode cX12_sortOf 1 = .ok (.ifCond .ge 7, 3) := by decide +kernel
theorem dX12_sortOf_4 : decode cX12_sortOf 4 = .ok (.iconst 0, 1) := by decide +kernel
theorem dX12_sortOf_5 : decode cX12_sortOf 5 = .ok (.goto 44, 3) := by decide +kernel
theorem dX12_sortOf_8 : decode cX12_sortOf 8 = .ok (.iload_n 0, 1) := by decide +kernel
theorem dX12_sortOf_9 : decode cX12_sortOf 9 = .ok (.bipush 97, 2) := by decide +kernel
theorem dX12_sortOf_11 : decode cX12_sortOf 11 = .ok (.bipush 122, 2) := by decide +kernel
theorem dX12_sortOf_13 : decode cX12_sortOf 13 = .ok (.invokestatic 57, 3) := by decide +kernel
theorem dX12_sortOf_16 : decode cX12_sortOf 16 = .ok (.ifCond .eq 7, 3) := by decide +kernel
theorem dX12_sortOf_19 : decode cX12_sortOf 19 = .ok (.iconst 1, 1) := by decide +kernel
theorem dX12_sortOf_20 : decode cX12_sortOf 20 = .ok (.goto 29, 3) := by decide +kernel
theorem dX12_sortOf_23 : decode cX12_sortOf 23 = .ok (.iload_n 0, 1) := by decide +kernel
theorem dX12_sortOf_24 : decode cX12_sortOf 24 = .ok (.bipush 48, 2) := by decide +kernel
theorem dX12_sortOf_26 : decode cX12_sortOf 26 = .ok (.bipush 57, 2) := by decide +kernel
theorem dX12_sortOf_28 : decode cX12_sortOf 28 = .ok (.invokestatic 57, 3) := by decide +kernel
theorem dX12_sortOf_31 : decode cX12_sortOf 31 = .ok (.ifCond .eq 7, 3) := by decide +kernel
theorem dX12_sortOf_34 : decode cX12_sortOf 34 = .ok (.iconst 2, 1) := by decide +kernel
theorem dX12_sortOf_35 : decode cX12_sortOf 35 = .ok (.goto 14, 3) := by decide +kernel
theorem dX12_sortOf_38 : decode cX12_sortOf 38 = .ok (.iload_n 0, 1) := by decide +kernel
theorem dX12_sortOf_39 : decode cX12_sortOf 39 = .ok (.bipush 59, 2) := by decide +kernel
theorem dX12_sortOf_41 : decode cX12_sortOf 41 = .ok (.if_icmp .ne 7, 3) := by decide +kernel
theorem dX12_sortOf_44 : decode cX12_sortOf 44 = .ok (.iconst 3, 1) := by decide +kernel
theorem dX12_sortOf_45 : decode cX12_sortOf 45 = .ok (.goto 4, 3) := by decide +kernel
theorem dX12_sortOf_48 : decode cX12_sortOf 48 = .ok (.iconst 4, 1) := by decide +kernel
theorem dX12_sortOf_49 : decode cX12_sortOf 49 = .ok (.ireturn, 1) := by decide +kernel
theorem dX12_token_0 : decode cX12_token 0 = .ok (.aload_n 0, 1) := by decide +kernel
theorem dX12_token_1 : decode cX12_token 1 = .ok (.aload_n 0, 1) := by decide +kernel
theorem dX12_token_2 : decode cX12_token 2 = .ok (.getfield 82, 3) := by decide +kernel
theorem dX12_token_5 : decode cX12_token 5 = .ok (.invokevirtual 85, 3) := by decide +kernel
theorem dX12_token_8 : decode cX12_token 8 = .ok (.bipush 32, 2) := by decide +kernel
theorem dX12_token_10 : decode cX12_token 10 = .ok (.if_icmp .ne 16, 3) := by decide +kernel
theorem dX12_token_13 : decode cX12_token 13 = .ok (.aload_n 0, 1) := by decide +kernel
theorem dX12_token_14 : decode cX12_token 14 = .ok (.dup, 1) := by decide +kernel
theorem dX12_token_15 : decode cX12_token 15 = .ok (.getfield 82, 3) := by decide +kernel
theorem dX12_token_18 : decode cX12_token 18 = .ok (.iconst 1, 1) := by decide +kernel
theorem dX12_token_19 : decode cX12_token 19 = .ok (.iadd, 1) := by decide +kernel
theorem dX12_token_20 : decode cX12_token 20 = .ok (.putfield 82, 3) := by decide +kernel
theorem dX12_token_23 : decode cX12_token 23 = .ok (.goto (-23), 3) := by decide +kernel
theorem dX12_token_26 : decode cX12_token 26 = .ok (.aload_n 0, 1) := by decide +kernel
theorem dX12_token_27 : decode cX12_token 27 = .ok (.aload_n 0, 1) := by decide +kernel
theorem dX12_token_28 : decode cX12_token 28 = .ok (.getfield 82, 3) := by decide +kernel
theorem dX12_token_31 : decode cX12_token 31 = .ok (.putfield 89, 3) := by decide +kernel
theorem dX12_token_34 : decode cX12_token 34 = .ok (.aload_n 0, 1) := by decide +kernel
theorem dX12_token_35 : decode cX12_token 35 = .ok (.aload_n 0, 1) := by decide +kernel
theorem dX12_token_36 : decode cX12_token 36 = .ok (.aload_n 0, 1) := by decide +kernel
theorem dX12_token_37 : decode cX12_token 37 = .ok (.getfield 82, 3) := by decide +kernel
theorem dX12_token_40 : decode cX12_token 40 = .ok (.invokevirtual 85, 3) := by decide +kernel
theorem dX12_token_43 : decode cX12_token 43 = .ok (.invokestatic 92, 3) := by decide +kernel
theorem dX12_token_46 : decode cX12_token 46 = .ok (.putfield 95, 3) := by decide +kernel
theorem dX12_token_49 : decode cX12_token 49 = .ok (.aload_n 0, 1) := by decide +kernel
theorem dX12_token_50 : decode cX12_token 50 = .ok (.iconst 0, 1) := by decide +kernel
theorem dX12_token_51 : decode cX12_token 51 = .ok (.putfield 98, 3) := by decide +kernel
theorem dX12_token_54 : decode cX12_token 54 = .ok (.aload_n 0, 1) := by decide +kernel
theorem dX12_token_55 : decode cX12_token 55 = .ok (.getfield 98, 3) := by decide +kernel
theorem dX12_token_58 : decode cX12_token 58 = .ok (.ifCond .ne 10, 3) := by decide +kernel
theorem dX12_token_61 : decode cX12_token 61 = .ok (.aload_n 0, 1) := by decide +kernel
theorem dX12_token_62 : decode cX12_token 62 = .ok (.getfield 95, 3) := by decide +kernel
theorem dX12_token_65 : decode cX12_token 65 = .ok (.ifCond .ne 37, 3) := by decide +kernel
theorem dX12_token_68 : decode cX12_token 68 = .ok (.aload_n 0, 1) := by decide +kernel
theorem dX12_token_69 : decode cX12_token 69 = .ok (.getfield 95, 3) := by decide +kernel
theorem dX12_token_72 : decode cX12_token 72 = .ok (.iconst 1, 1) := by decide +kernel
theorem dX12_token_73 : decode cX12_token 73 = .ok (.if_icmp .eq 11, 3) := by decide +kernel
theorem dX12_token_76 : decode cX12_token 76 = .ok (.aload_n 0, 1) := by decide +kernel
theorem dX12_token_77 : decode cX12_token 77 = .ok (.getfield 95, 3) := by decide +kernel
theorem dX12_token_80 : decode cX12_token 80 = .ok (.iconst 2, 1) := by decide +kernel
theorem dX12_token_81 : decode cX12_token 81 = .ok (.if_icmp .ne 44, 3) := by decide +kernel
theorem dX12_token_84 : decode cX12_token 84 = .ok (.aload_n 0, 1) := by decide +kernel
theorem dX12_token_85 : decode cX12_token 85 = .ok (.aload_n 0, 1) := by decide +kernel
theorem dX12_token_86 : decode cX12_token 86 = .ok (.getfield 82, 3) := by decide +kernel
theorem dX12_token_89 : decode cX12_token 89 = .ok (.invokevirtual 85, 3) := by decide +kernel
theorem dX12_token_92 : decode cX12_token 92 = .ok (.invokestatic 92, 3) := by decide +kernel
theorem dX12_token_95 : decode cX12_token 95 = .ok (.aload_n 0, 1) := by decide +kernel
theorem dX12_token_96 : decode cX12_token 96 = .ok (.getfield 95, 3) := by decide +kernel
theorem dX12_token_99 : decode cX12_token 99 = .ok (.if_icmp .ne 26, 3) := by decide +kernel
theorem dX12_token_102 : decode cX12_token 102 = .ok (.aload_n 0, 1) := by decide +kernel
theorem dX12_token_103 : decode cX12_token 103 = .ok (.dup, 1) := by decide +kernel
theorem dX12_token_104 : decode cX12_token 104 = .ok (.getfield 82, 3) := by decide +kernel
theorem dX12_token_107 : decode cX12_token 107 = .ok (.iconst 1, 1) := by decide +kernel
theorem dX12_token_108 : decode cX12_token 108 = .ok (.iadd, 1) := by decide +kernel
theorem dX12_token_109 : decode cX12_token 109 = .ok (.putfield 82, 3) := by decide +kernel
theorem dX12_token_112 : decode cX12_token 112 = .ok (.aload_n 0, 1) := by decide +kernel
theorem dX12_token_113 : decode cX12_token 113 = .ok (.dup, 1) := by decide +kernel
theorem dX12_token_114 : decode cX12_token 114 = .ok (.getfield 98, 3) := by decide +kernel
theorem dX12_token_117 : decode cX12_token 117 = .ok (.iconst 1, 1) := by decide +kernel
theorem dX12_token_118 : decode cX12_token 118 = .ok (.iadd, 1) := by decide +kernel
theorem dX12_token_119 : decode cX12_token 119 = .ok (.putfield 98, 3) := by decide +kernel
theorem dX12_token_122 : decode cX12_token 122 = .ok (.goto (-68), 3) := by decide +kernel
theorem dX12_token_125 : decode cX12_token 125 = .ok (.return_, 1) := by decide +kernel
theorem dX12_verb_0 : decode cX12_verb 0 = .ok (.aload_n 0, 1) := by decide +kernel
theorem dX12_verb_1 : decode cX12_verb 1 = .ok (.getfield 95, 3) := by decide +kernel
theorem dX12_verb_4 : decode cX12_verb 4 = .ok (.iconst 1, 1) := by decide +kernel
theorem dX12_verb_5 : decode cX12_verb 5 = .ok (.if_icmp .eq 5, 3) := by decide +kernel
theorem dX12_verb_8 : decode cX12_verb 8 = .ok (.iconst (-1), 1) := by decide +kernel
theorem dX12_verb_9 : decode cX12_verb 9 = .ok (.ireturn, 1) := by decide +kernel
theorem dX12_verb_10 : decode cX12_verb 10 = .ok (.lconst 0, 1) := by decide +kernel
theorem dX12_verb_11 : decode cX12_verb 11 = .ok (.lstore_n 1, 1) := by decide +kernel
theorem dX12_verb_12 : decode cX12_verb 12 = .ok (.iconst 0, 1) := by decide +kernel
theorem dX12_verb_13 : decode cX12_verb 13 = .ok (.istore_n 3, 1) := by decide +kernel
theorem dX12_verb_14 : decode cX12_verb 14 = .ok (.iload_n 3, 1) := by decide +kernel
theorem dX12_verb_15 : decode cX12_verb 15 = .ok (.aload_n 0, 1) := by decide +kernel
theorem dX12_verb_16 : decode cX12_verb 16 = .ok (.getfield 98, 3) := by decide +kernel
theorem dX12_verb_19 : decode cX12_verb 19 = .ok (.if_icmp .ge 33, 3) := by decide +kernel
theorem dX12_verb_22 : decode cX12_verb 22 = .ok (.iload_n 3, 1) := by decide +kernel
theorem dX12_verb_23 : decode cX12_verb 23 = .ok (.bipush 7, 2) := by decide +kernel
theorem dX12_verb_25 : decode cX12_verb 25 = .ok (.if_icmp .ge 27, 3) := by decide +kernel
theorem dX12_verb_28 : decode cX12_verb 28 = .ok (.ldc2_w 101, 3) := by decide +kernel
theorem dX12_verb_31 : decode cX12_verb 31 = .ok (.lload_n 1, 1) := by decide +kernel
theorem dX12_verb_32 : decode cX12_verb 32 = .ok (.lmul, 1) := by decide +kernel
theorem dX12_verb_33 : decode cX12_verb 33 = .ok (.aload_n 0, 1) := by decide +kernel
theorem dX12_verb_34 : decode cX12_verb 34 = .ok (.aload_n 0, 1) := by decide +kernel
theorem dX12_verb_35 : decode cX12_verb 35 = .ok (.getfield 89, 3) := by decide +kernel
theorem dX12_verb_38 : decode cX12_verb 38 = .ok (.iload_n 3, 1) := by decide +kernel
theorem dX12_verb_39 : decode cX12_verb 39 = .ok (.iadd, 1) := by decide +kernel
theorem dX12_verb_40 : decode cX12_verb 40 = .ok (.invokevirtual 85, 3) := by decide +kernel
theorem dX12_verb_43 : decode cX12_verb 43 = .ok (.i2l, 1) := by decide +kernel
theorem dX12_verb_44 : decode cX12_verb 44 = .ok (.ladd, 1) := by decide +kernel
theorem dX12_verb_45 : decode cX12_verb 45 = .ok (.lstore_n 1, 1) := by decide +kernel
theorem dX12_verb_46 : decode cX12_verb 46 = .ok (.iinc 3 1, 3) := by decide +kernel
theorem dX12_verb_49 : decode cX12_verb 49 = .ok (.goto (-35), 3) := by decide +kernel
theorem dX12_verb_52 : decode cX12_verb 52 = .ok (.lload_n 1, 1) := by decide +kernel
theorem dX12_verb_53 : decode cX12_verb 53 = .ok (.ldc2_w 103, 3) := by decide +kernel
theorem dX12_verb_56 : decode cX12_verb 56 = .ok (.lcmp, 1) := by decide +kernel
theorem dX12_verb_57 : decode cX12_verb 57 = .ok (.ifCond .ne 5, 3) := by decide +kernel
theorem dX12_verb_60 : decode cX12_verb 60 = .ok (.iconst 0, 1) := by decide +kernel
theorem dX12_verb_61 : decode cX12_verb 61 = .ok (.ireturn, 1) := by decide +kernel
theorem dX12_verb_62 : decode cX12_verb 62 = .ok (.lload_n 1, 1) := by decide +kernel
theorem dX12_verb_63 : decode cX12_verb 63 = .ok (.ldc2_w 105, 3) := by decide +kernel
theorem dX12_verb_66 : decode cX12_verb 66 = .ok (.lcmp, 1) := by decide +kernel
theorem dX12_verb_67 : decode cX12_verb 67 = .ok (.ifCond .ne 7, 3) := by decide +kernel
theorem dX12_verb_70 : decode cX12_verb 70 = .ok (.iconst 1, 1) := by decide +kernel
theorem dX12_verb_71 : decode cX12_verb 71 = .ok (.goto 52, 3) := by decide +kernel
theorem dX12_verb_74 : decode cX12_verb 74 = .ok (.lload_n 1, 1) := by decide +kernel
theorem dX12_verb_75 : decode cX12_verb 75 = .ok (.ldc2_w 107, 3) := by decide +kernel
theorem dX12_verb_78 : decode cX12_verb 78 = .ok (.lcmp, 1) := by decide +kernel
theorem dX12_verb_79 : decode cX12_verb 79 = .ok (.ifCond .ne 7, 3) := by decide +kernel
theorem dX12_verb_82 : decode cX12_verb 82 = .ok (.iconst 2, 1) := by decide +kernel
theorem dX12_verb_83 : decode cX12_verb 83 = .ok (.goto 40, 3) := by decide +kernel
theorem dX12_verb_86 : decode cX12_verb 86 = .ok (.lload_n 1, 1) := by decide +kernel
theorem dX12_verb_87 : decode cX12_verb 87 = .ok (.ldc2_w 109, 3) := by decide +kernel
theorem dX12_verb_90 : decode cX12_verb 90 = .ok (.lcmp, 1) := by decide +kernel
theorem dX12_verb_91 : decode cX12_verb 91 = .ok (.ifCond .ne 7, 3) := by decide +kernel
theorem dX12_verb_94 : decode cX12_verb 94 = .ok (.iconst 3, 1) := by decide +kernel
theorem dX12_verb_95 : decode cX12_verb 95 = .ok (.goto 28, 3) := by decide +kernel
theorem dX12_verb_98 : decode cX12_verb 98 = .ok (.lload_n 1, 1) := by decide +kernel
theorem dX12_verb_99 : decode cX12_verb 99 = .ok (.ldc2_w 111, 3) := by decide +kernel
theorem dX12_verb_102 : decode cX12_verb 102 = .ok (.lcmp, 1) := by decide +kernel
theorem dX12_verb_103 : decode cX12_verb 103 = .ok (.ifCond .ne 7, 3) := by decide +kernel
theorem dX12_verb_106 : decode cX12_verb 106 = .ok (.iconst 4, 1) := by decide +kernel
theorem dX12_verb_107 : decode cX12_verb 107 = .ok (.goto 16, 3) := by decide +kernel
theorem dX12_verb_110 : decode cX12_verb 110 = .ok (.lload_n 1, 1) := by decide +kernel
theorem dX12_verb_111 : decode cX12_verb 111 = .ok (.ldc2_w 113, 3) := by decide +kernel
theorem dX12_verb_114 : decode cX12_verb 114 = .ok (.lcmp, 1) := by decide +kernel
theorem dX12_verb_115 : decode cX12_verb 115 = .ok (.ifCond .ne 7, 3) := by decide +kernel
theorem dX12_verb_118 : decode cX12_verb 118 = .ok (.iconst 5, 1) := by decide +kernel
theorem dX12_verb_119 : decode cX12_verb 119 = .ok (.goto 4, 3) := by decide +kernel
theorem dX12_verb_122 : decode cX12_verb 122 = .ok (.iconst (-1), 1) := by decide +kernel
theorem dX12_verb_123 : decode cX12_verb 123 = .ok (.ireturn, 1) := by decide +kernel
theorem dX12_figure_0 : decode cX12_figure 0 = .ok (.aload_n 0, 1) := by decide +kernel
theorem dX12_figure_1 : decode cX12_figure 1 = .ok (.invokevirtual 115, 3) := by decide +kernel
theorem dX12_figure_4 : decode cX12_figure 4 = .ok (.aload_n 0, 1) := by decide +kernel
theorem dX12_figure_5 : decode cX12_figure 5 = .ok (.aload_n 0, 1) := by decide +kernel
theorem dX12_figure_6 : decode cX12_figure 6 = .ok (.getfield 89, 3) := by decide +kernel
theorem dX12_figure_9 : decode cX12_figure 9 = .ok (.invokevirtual 85, 3) := by decide +kernel
theorem dX12_figure_12 : decode cX12_figure 12 = .ok (.bipush 48, 2) := by decide +kernel
theorem dX12_figure_14 : decode cX12_figure 14 = .ok (.isub, 1) := by decide +kernel
theorem dX12_figure_15 : decode cX12_figure 15 = .ok (.istore_n 3, 1) := by decide +kernel
theorem dX12_figure_16 : decode cX12_figure 16 = .ok (.aload_n 0, 1) := by decide +kernel
theorem dX12_figure_17 : decode cX12_figure 17 = .ok (.getfield 95, 3) := by decide +kernel
theorem dX12_figure_20 : decode cX12_figure 20 = .ok (.iconst 2, 1) := by decide +kernel
theorem dX12_figure_21 : decode cX12_figure 21 = .ok (.if_icmp .ne 24, 3) := by decide +kernel
theorem dX12_figure_24 : decode cX12_figure 24 = .ok (.aload_n 0, 1) := by decide +kernel
theorem dX12_figure_25 : decode cX12_figure 25 = .ok (.getfield 98, 3) := by decide +kernel
theorem dX12_figure_28 : decode cX12_figure 28 = .ok (.iconst 1, 1) := by decide +kernel
theorem dX12_figure_29 : decode cX12_figure 29 = .ok (.if_icmp .ne 16, 3) := by decide +kernel
theorem dX12_figure_32 : decode cX12_figure 32 = .ok (.iload_n 3, 1) := by decide +kernel
theorem dX12_figure_33 : decode cX12_figure 33 = .ok (.iload_n 1, 1) := by decide +kernel
theorem dX12_figure_34 : decode cX12_figure 34 = .ok (.iload_n 2, 1) := by decide +kernel
theorem dX12_figure_35 : decode cX12_figure 35 = .ok (.invokestatic 57, 3) := by decide +kernel
theorem dX12_figure_38 : decode cX12_figure 38 = .ok (.ifCond .eq 7, 3) := by decide +kernel
theorem dX12_figure_41 : decode cX12_figure 41 = .ok (.iload_n 3, 1) := by decide +kernel
theorem dX12_figure_42 : decode cX12_figure 42 = .ok (.goto 4, 3) := by decide +kernel
theorem dX12_figure_45 : decode cX12_figure 45 = .ok (.iconst (-1), 1) := by decide +kernel
theorem dX12_figure_46 : decode cX12_figure 46 = .ok (.ireturn, 1) := by decide +kernel
theorem dX12_row_0 : decode cX12_row 0 = .ok (.aload_n 0, 1) := by decide +kernel
theorem dX12_row_1 : decode cX12_row 1 = .ok (.invokevirtual 115, 3) := by decide +kernel
theorem dX12_row_4 : decode cX12_row 4 = .ok (.aload_n 0, 1) := by decide +kernel
theorem dX12_row_5 : decode cX12_row 5 = .ok (.getfield 95, 3) := by decide +kernel
theorem dX12_row_8 : decode cX12_row 8 = .ok (.iconst 1, 1) := by decide +kernel
theorem dX12_row_9 : decode cX12_row 9 = .ok (.if_icmp .ne 16, 3) := by decide +kernel
theorem dX12_row_12 : decode cX12_row 12 = .ok (.aload_n 0, 1) := by decide +kernel
theorem dX12_row_13 : decode cX12_row 13 = .ok (.getfield 98, 3) := by decide +kernel
theorem dX12_row_16 : decode cX12_row 16 = .ok (.aload_n 0, 1) := by decide +kernel
theorem dX12_row_17 : decode cX12_row 17 = .ok (.getfield 13, 3) := by decide +kernel
theorem dX12_row_20 : decode cX12_row 20 = .ok (.iconst 0, 1) := by decide +kernel
theorem dX12_row_21 : decode cX12_row 21 = .ok (.iaload, 1) := by decide +kernel
theorem dX12_row_22 : decode cX12_row 22 = .ok (.if_icmp .eq 5, 3) := by decide +kernel
theorem dX12_row_25 : decode cX12_row 25 = .ok (.iconst (-1), 1) := by decide +kernel
theorem dX12_row_26 : decode cX12_row 26 = .ok (.ireturn, 1) := by decide +kernel
theorem dX12_row_27 : decode cX12_row 27 = .ok (.iconst 0, 1) := by decide +kernel
theorem dX12_row_28 : decode cX12_row 28 = .ok (.istore_n 1, 1) := by decide +kernel
theorem dX12_row_29 : decode cX12_row 29 = .ok (.iconst 1, 1) := by decide +kernel
theorem dX12_row_30 : decode cX12_row 30 = .ok (.istore_n 2, 1) := by decide +kernel
theorem dX12_row_31 : decode cX12_row 31 = .ok (.aload_n 0, 1) := by decide +kernel
theorem dX12_row_32 : decode cX12_row 32 = .ok (.getfield 98, 3) := by decide +kernel
theorem dX12_row_35 : decode cX12_row 35 = .ok (.iconst 1, 1) := by decide +kernel
theorem dX12_row_36 : decode cX12_row 36 = .ok (.isub, 1) := by decide +kernel
theorem dX12_row_37 : decode cX12_row 37 = .ok (.istore_n 3, 1) := by decide +kernel
theorem dX12_row_38 : decode cX12_row 38 = .ok (.iload_n 3, 1) := by decide +kernel
theorem dX12_row_39 : decode cX12_row 39 = .ok (.ifCond .lt 53, 3) := by decide +kernel
theorem dX12_row_42 : decode cX12_row 42 = .ok (.aload_n 0, 1) := by decide +kernel
theorem dX12_row_43 : decode cX12_row 43 = .ok (.aload_n 0, 1) := by decide +kernel
theorem dX12_row_44 : decode cX12_row 44 = .ok (.getfield 89, 3) := by decide +kernel
theorem dX12_row_47 : decode cX12_row 47 = .ok (.iload_n 3, 1) := by decide +kernel
theorem dX12_row_48 : decode cX12_row 48 = .ok (.iadd, 1) := by decide +kernel
theorem dX12_row_49 : decode cX12_row 49 = .ok (.invokevirtual 85, 3) := by decide +kernel
theorem dX12_row_52 : decode cX12_row 52 = .ok (.bipush 97, 2) := by decide +kernel
theorem dX12_row_54 : decode cX12_row 54 = .ok (.isub, 1) := by decide +kernel
theorem dX12_row_55 : decode cX12_row 55 = .ok (.istore 4, 2) := by decide +kernel
theorem dX12_row_57 : decode cX12_row 57 = .ok (.iload_n 2, 1) := by decide +kernel
theorem dX12_row_58 : decode cX12_row 58 = .ok (.ifCond .eq 18, 3) := by decide +kernel
theorem dX12_row_61 : decode cX12_row 61 = .ok (.iload 4, 2) := by decide +kernel
theorem dX12_row_63 : decode cX12_row 63 = .ok (.aload_n 0, 1) := by decide +kernel
theorem dX12_row_64 : decode cX12_row 64 = .ok (.getfield 13, 3) := by decide +kernel
theorem dX12_row_67 : decode cX12_row 67 = .ok (.iconst 0, 1) := by decide +kernel
theorem dX12_row_68 : decode cX12_row 68 = .ok (.iaload, 1) := by decide +kernel
theorem dX12_row_69 : decode cX12_row 69 = .ok (.if_icmp .ge 7, 3) := by decide +kernel
theorem dX12_row_72 : decode cX12_row 72 = .ok (.iconst 1, 1) := by decide +kernel
theorem dX12_row_73 : decode cX12_row 73 = .ok (.goto 4, 3) := by decide +kernel
theorem dX12_row_76 : decode cX12_row 76 = .ok (.iconst 0, 1) := by decide +kernel
theorem dX12_row_77 : decode cX12_row 77 = .ok (.istore_n 2, 1) := by decide +kernel
theorem dX12_row_78 : decode cX12_row 78 = .ok (.bipush 8, 2) := by decide +kernel
theorem dX12_row_80 : decode cX12_row 80 = .ok (.iload_n 1, 1) := by decide +kernel
theorem dX12_row_81 : decode cX12_row 81 = .ok (.imul, 1) := by decide +kernel
theorem dX12_row_82 : decode cX12_row 82 = .ok (.iload 4, 2) := by decide +kernel
theorem dX12_row_84 : decode cX12_row 84 = .ok (.iadd, 1) := by decide +kernel
theorem dX12_row_85 : decode cX12_row 85 = .ok (.istore_n 1, 1) := by decide +kernel
theorem dX12_row_86 : decode cX12_row 86 = .ok (.iinc 3 (-1), 3) := by decide +kernel
theorem dX12_row_89 : decode cX12_row 89 = .ok (.goto (-51), 3) := by decide +kernel
theorem dX12_row_92 : decode cX12_row 92 = .ok (.iload_n 2, 1) := by decide +kernel
theorem dX12_row_93 : decode cX12_row 93 = .ok (.ifCond .eq 7, 3) := by decide +kernel
theorem dX12_row_96 : decode cX12_row 96 = .ok (.iload_n 1, 1) := by decide +kernel
theorem dX12_row_97 : decode cX12_row 97 = .ok (.goto 4, 3) := by decide +kernel
theorem dX12_row_100 : decode cX12_row 100 = .ok (.iconst (-1), 1) := by decide +kernel
theorem dX12_row_101 : decode cX12_row 101 = .ok (.ireturn, 1) := by decide +kernel
theorem dX12_readsDog_0 : decode cX12_readsDog 0 = .ok (.aload_n 0, 1) := by decide +kernel
theorem dX12_readsDog_1 : decode cX12_readsDog 1 = .ok (.getfield 13, 3) := by decide +kernel
theorem dX12_readsDog_4 : decode cX12_readsDog 4 = .ok (.bipush 6, 2) := by decide +kernel
theorem dX12_readsDog_6 : decode cX12_readsDog 6 = .ok (.iaload, 1) := by decide +kernel
theorem dX12_readsDog_7 : decode cX12_readsDog 7 = .ok (.iconst 3, 1) := by decide +kernel
theorem dX12_readsDog_8 : decode cX12_readsDog 8 = .ok (.if_icmp .ne 5, 3) := by decide +kernel
theorem dX12_readsDog_11 : decode cX12_readsDog 11 = .ok (.iconst 0, 1) := by decide +kernel
theorem dX12_readsDog_12 : decode cX12_readsDog 12 = .ok (.ireturn, 1) := by decide +kernel
theorem dX12_readsDog_13 : decode cX12_readsDog 13 = .ok (.aload_n 0, 1) := by decide +kernel
theorem dX12_readsDog_14 : decode cX12_readsDog 14 = .ok (.iconst 0, 1) := by decide +kernel
theorem dX12_readsDog_15 : decode cX12_readsDog 15 = .ok (.iconst 4, 1) := by decide +kernel
theorem dX12_readsDog_16 : decode cX12_readsDog 16 = .ok (.invokevirtual 118, 3) := by decide +kernel
theorem dX12_readsDog_19 : decode cX12_readsDog 19 = .ok (.istore_n 1, 1) := by decide +kernel
theorem dX12_readsDog_20 : decode cX12_readsDog 20 = .ok (.iload_n 1, 1) := by decide +kernel
theorem dX12_readsDog_21 : decode cX12_readsDog 21 = .ok (.iconst (-1), 1) := by decide +kernel
theorem dX12_readsDog_22 : decode cX12_readsDog 22 = .ok (.if_icmp .ne 5, 3) := by decide +kernel
theorem dX12_readsDog_25 : decode cX12_readsDog 25 = .ok (.iconst 0, 1) := by decide +kernel
theorem dX12_readsDog_26 : decode cX12_readsDog 26 = .ok (.ireturn, 1) := by decide +kernel
theorem dX12_readsDog_27 : decode cX12_readsDog 27 = .ok (.bipush 7, 2) := by decide +kernel
theorem dX12_readsDog_29 : decode cX12_readsDog 29 = .ok (.bipush 6, 2) := by decide +kernel
theorem dX12_readsDog_31 : decode cX12_readsDog 31 = .ok (.aload_n 0, 1) := by decide +kernel
theorem dX12_readsDog_32 : decode cX12_readsDog 32 = .ok (.getfield 13, 3) := by decide +kernel
theorem dX12_readsDog_35 : decode cX12_readsDog 35 = .ok (.bipush 6, 2) := by decide +kernel
theorem dX12_readsDog_37 : decode cX12_readsDog 37 = .ok (.iaload, 1) := by decide +kernel
theorem dX12_readsDog_38 : decode cX12_readsDog 38 = .ok (.imul, 1) := by decide +kernel
theorem dX12_readsDog_39 : decode cX12_readsDog 39 = .ok (.iadd, 1) := by decide +kernel
theorem dX12_readsDog_40 : decode cX12_readsDog 40 = .ok (.istore_n 2, 1) := by decide +kernel
theorem dX12_readsDog_41 : decode cX12_readsDog 41 = .ok (.iload_n 1, 1) := by decide +kernel
theorem dX12_readsDog_42 : decode cX12_readsDog 42 = .ok (.iconst 2, 1) := by decide +kernel
theorem dX12_readsDog_43 : decode cX12_readsDog 43 = .ok (.if_icmp .eq 8, 3) := by decide +kernel
theorem dX12_readsDog_46 : decode cX12_readsDog 46 = .ok (.iload_n 1, 1) := by decide +kernel
theorem dX12_readsDog_47 : decode cX12_readsDog 47 = .ok (.iconst 3, 1) := by decide +kernel
theorem dX12_readsDog_48 : decode cX12_readsDog 48 = .ok (.if_icmp .ne 7, 3) := by decide +kernel
theorem dX12_readsDog_51 : decode cX12_readsDog 51 = .ok (.iconst 1, 1) := by decide +kernel
theorem dX12_readsDog_52 : decode cX12_readsDog 52 = .ok (.goto 4, 3) := by decide +kernel
theorem dX12_readsDog_55 : decode cX12_readsDog 55 = .ok (.iconst 0, 1) := by decide +kernel
theorem dX12_readsDog_56 : decode cX12_readsDog 56 = .ok (.istore_n 3, 1) := by decide +kernel
theorem dX12_readsDog_57 : decode cX12_readsDog 57 = .ok (.aload_n 0, 1) := by decide +kernel
theorem dX12_readsDog_58 : decode cX12_readsDog 58 = .ok (.getfield 13, 3) := by decide +kernel
theorem dX12_readsDog_61 : decode cX12_readsDog 61 = .ok (.iload_n 2, 1) := by decide +kernel
theorem dX12_readsDog_62 : decode cX12_readsDog 62 = .ok (.iload_n 1, 1) := by decide +kernel
theorem dX12_readsDog_63 : decode cX12_readsDog 63 = .ok (.iastore, 1) := by decide +kernel
theorem dX12_readsDog_64 : decode cX12_readsDog 64 = .ok (.iconst 1, 1) := by decide +kernel
theorem dX12_readsDog_65 : decode cX12_readsDog 65 = .ok (.istore 4, 2) := by decide +kernel
theorem dX12_readsDog_67 : decode cX12_readsDog 67 = .ok (.iload 4, 2) := by decide +kernel
theorem dX12_readsDog_69 : decode cX12_readsDog 69 = .ok (.iload_n 3, 1) := by decide +kernel
theorem dX12_readsDog_70 : decode cX12_readsDog 70 = .ok (.ifCond .eq 7, 3) := by decide +kernel
theorem dX12_readsDog_73 : decode cX12_readsDog 73 = .ok (.iconst 5, 1) := by decide +kernel
theorem dX12_readsDog_74 : decode cX12_readsDog 74 = .ok (.goto 4, 3) := by decide +kernel
theorem dX12_readsDog_77 : decode cX12_readsDog 77 = .ok (.iconst 3, 1) := by decide +kernel
theorem dX12_readsDog_78 : decode cX12_readsDog 78 = .ok (.if_icmp .ge 34, 3) := by decide +kernel
theorem dX12_readsDog_81 : decode cX12_readsDog 81 = .ok (.aload_n 0, 1) := by decide +kernel
theorem dX12_readsDog_82 : decode cX12_readsDog 82 = .ok (.invokevirtual 121, 3) := by decide +kernel
theorem dX12_readsDog_85 : decode cX12_readsDog 85 = .ok (.istore 5, 2) := by decide +kernel
theorem dX12_readsDog_87 : decode cX12_readsDog 87 = .ok (.iload 5, 2) := by decide +kernel
theorem dX12_readsDog_89 : decode cX12_readsDog 89 = .ok (.iconst (-1), 1) := by decide +kernel
theorem dX12_readsDog_90 : decode cX12_readsDog 90 = .ok (.if_icmp .ne 5, 3) := by decide +kernel
theorem dX12_readsDog_93 : decode cX12_readsDog 93 = .ok (.iconst 0, 1) := by decide +kernel
theorem dX12_readsDog_94 : decode cX12_readsDog 94 = .ok (.ireturn, 1) := by decide +kernel
theorem dX12_readsDog_95 : decode cX12_readsDog 95 = .ok (.aload_n 0, 1) := by decide +kernel
theorem dX12_readsDog_96 : decode cX12_readsDog 96 = .ok (.getfield 13, 3) := by decide +kernel
theorem dX12_readsDog_99 : decode cX12_readsDog 99 = .ok (.iload_n 2, 1) := by decide +kernel
theorem dX12_readsDog_100 : decode cX12_readsDog 100 = .ok (.iload 4, 2) := by decide +kernel
theorem dX12_readsDog_102 : decode cX12_readsDog 102 = .ok (.iadd, 1) := by decide +kernel
theorem dX12_readsDog_103 : decode cX12_readsDog 103 = .ok (.iload 5, 2) := by decide +kernel
theorem dX12_readsDog_105 : decode cX12_readsDog 105 = .ok (.iastore, 1) := by decide +kernel
theorem dX12_readsDog_106 : decode cX12_readsDog 106 = .ok (.iinc 4 1, 3) := by decide +kernel
theorem dX12_readsDog_109 : decode cX12_readsDog 109 = .ok (.goto (-42), 3) := by decide +kernel
theorem dX12_readsDog_112 : decode cX12_readsDog 112 = .ok (.iload_n 3, 1) := by decide +kernel
theorem dX12_readsDog_113 : decode cX12_readsDog 113 = .ok (.ifCond .eq 29, 3) := by decide +kernel
theorem dX12_readsDog_116 : decode cX12_readsDog 116 = .ok (.aload_n 0, 1) := by decide +kernel
theorem dX12_readsDog_117 : decode cX12_readsDog 117 = .ok (.iconst 1, 1) := by decide +kernel
theorem dX12_readsDog_118 : decode cX12_readsDog 118 = .ok (.iconst 3, 1) := by decide +kernel
theorem dX12_readsDog_119 : decode cX12_readsDog 119 = .ok (.invokevirtual 118, 3) := by decide +kernel
theorem dX12_readsDog_122 : decode cX12_readsDog 122 = .ok (.istore 4, 2) := by decide +kernel
theorem dX12_readsDog_124 : decode cX12_readsDog 124 = .ok (.iload 4, 2) := by decide +kernel
theorem dX12_readsDog_126 : decode cX12_readsDog 126 = .ok (.iconst (-1), 1) := by decide +kernel
theorem dX12_readsDog_127 : decode cX12_readsDog 127 = .ok (.if_icmp .ne 5, 3) := by decide +kernel
theorem dX12_readsDog_130 : decode cX12_readsDog 130 = .ok (.iconst 0, 1) := by decide +kernel
theorem dX12_readsDog_131 : decode cX12_readsDog 131 = .ok (.ireturn, 1) := by decide +kernel
theorem dX12_readsDog_132 : decode cX12_readsDog 132 = .ok (.aload_n 0, 1) := by decide +kernel
theorem dX12_readsDog_133 : decode cX12_readsDog 133 = .ok (.getfield 13, 3) := by decide +kernel
theorem dX12_readsDog_136 : decode cX12_readsDog 136 = .ok (.iload_n 2, 1) := by decide +kernel
theorem dX12_readsDog_137 : decode cX12_readsDog 137 = .ok (.iconst 5, 1) := by decide +kernel
theorem dX12_readsDog_138 : decode cX12_readsDog 138 = .ok (.iadd, 1) := by decide +kernel
theorem dX12_readsDog_139 : decode cX12_readsDog 139 = .ok (.iload 4, 2) := by decide +kernel
theorem dX12_readsDog_141 : decode cX12_readsDog 141 = .ok (.iastore, 1) := by decide +kernel
theorem dX12_readsDog_142 : decode cX12_readsDog 142 = .ok (.aload_n 0, 1) := by decide +kernel
theorem dX12_readsDog_143 : decode cX12_readsDog 143 = .ok (.getfield 13, 3) := by decide +kernel
theorem dX12_readsDog_146 : decode cX12_readsDog 146 = .ok (.bipush 6, 2) := by decide +kernel
theorem dX12_readsDog_148 : decode cX12_readsDog 148 = .ok (.dup2, 1) := by decide +kernel
theorem dX12_readsDog_149 : decode cX12_readsDog 149 = .ok (.iaload, 1) := by decide +kernel
theorem dX12_readsDog_150 : decode cX12_readsDog 150 = .ok (.iconst 1, 1) := by decide +kernel
theorem dX12_readsDog_151 : decode cX12_readsDog 151 = .ok (.iadd, 1) := by decide +kernel
theorem dX12_readsDog_152 : decode cX12_readsDog 152 = .ok (.iastore, 1) := by decide +kernel
theorem dX12_readsDog_153 : decode cX12_readsDog 153 = .ok (.iconst 1, 1) := by decide +kernel
theorem dX12_readsDog_154 : decode cX12_readsDog 154 = .ok (.ireturn, 1) := by decide +kernel
theorem dX12_readsItem_0 : decode cX12_readsItem 0 = .ok (.iload_n 1, 1) := by decide +kernel
theorem dX12_readsItem_1 : decode cX12_readsItem 1 = .ok (.iconst 5, 1) := by decide +kernel
theorem dX12_readsItem_2 : decode cX12_readsItem 2 = .ok (.if_icmp .ne 8, 3) := by decide +kernel
theorem dX12_readsItem_5 : decode cX12_readsItem 5 = .ok (.aload_n 0, 1) := by decide +kernel
theorem dX12_readsItem_6 : decode cX12_readsItem 6 = .ok (.invokevirtual 124, 3) := by decide +kernel
theorem dX12_readsItem_9 : decode cX12_readsItem 9 = .ok (.ireturn, 1) := by decide +kernel
theorem dX12_readsItem_10 : decode cX12_readsItem 10 = .ok (.iload_n 1, 1) := by decide +kernel
theorem dX12_readsItem_11 : decode cX12_readsItem 11 = .ok (.ifCond .ne 12, 3) := by decide +kernel
theorem dX12_readsItem_14 : decode cX12_readsItem 14 = .ok (.aload_n 0, 1) := by decide +kernel
theorem dX12_readsItem_15 : decode cX12_readsItem 15 = .ok (.iconst 2, 1) := by decide +kernel
theorem dX12_readsItem_16 : decode cX12_readsItem 16 = .ok (.iconst 5, 1) := by decide +kernel
theorem dX12_readsItem_17 : decode cX12_readsItem 17 = .ok (.invokevirtual 118, 3) := by decide +kernel
theorem dX12_readsItem_20 : decode cX12_readsItem 20 = .ok (.goto 30, 3) := by decide +kernel
theorem dX12_readsItem_23 : decode cX12_readsItem 23 = .ok (.iload_n 1, 1) := by decide +kernel
theorem dX12_readsItem_24 : decode cX12_readsItem 24 = .ok (.iconst 4, 1) := by decide +kernel
theorem dX12_readsItem_25 : decode cX12_readsItem 25 = .ok (.if_icmp .ne 12, 3) := by decide +kernel
theorem dX12_readsItem_28 : decode cX12_readsItem 28 = .ok (.aload_n 0, 1) := by decide +kernel
theorem dX12_readsItem_29 : decode cX12_readsItem 29 = .ok (.iconst 0, 1) := by decide +kernel
theorem dX12_readsItem_30 : decode cX12_readsItem 30 = .ok (.iconst 1, 1) := by decide +kernel
theorem dX12_readsItem_31 : decode cX12_readsItem 31 = .ok (.invokevirtual 118, 3) := by decide +kernel
theorem dX12_readsItem_34 : decode cX12_readsItem 34 = .ok (.goto 16, 3) := by decide +kernel
theorem dX12_readsItem_37 : decode cX12_readsItem 37 = .ok (.aload_n 0, 1) := by decide +kernel
theorem dX12_readsItem_38 : decode cX12_readsItem 38 = .ok (.iconst 0, 1) := by decide +kernel
theorem dX12_readsItem_39 : decode cX12_readsItem 39 = .ok (.aload_n 0, 1) := by decide +kernel
theorem dX12_readsItem_40 : decode cX12_readsItem 40 = .ok (.getfield 13, 3) := by decide +kernel
theorem dX12_readsItem_43 : decode cX12_readsItem 43 = .ok (.iconst 0, 1) := by decide +kernel
theorem dX12_readsItem_44 : decode cX12_readsItem 44 = .ok (.iaload, 1) := by decide +kernel
theorem dX12_readsItem_45 : decode cX12_readsItem 45 = .ok (.iconst 1, 1) := by decide +kernel
theorem dX12_readsItem_46 : decode cX12_readsItem 46 = .ok (.isub, 1) := by decide +kernel
theorem dX12_readsItem_47 : decode cX12_readsItem 47 = .ok (.invokevirtual 118, 3) := by decide +kernel
theorem dX12_readsItem_50 : decode cX12_readsItem 50 = .ok (.istore_n 2, 1) := by decide +kernel
theorem dX12_readsItem_51 : decode cX12_readsItem 51 = .ok (.iload_n 2, 1) := by decide +kernel
theorem dX12_readsItem_52 : decode cX12_readsItem 52 = .ok (.iconst (-1), 1) := by decide +kernel
theorem dX12_readsItem_53 : decode cX12_readsItem 53 = .ok (.if_icmp .ne 5, 3) := by decide +kernel
theorem dX12_readsItem_56 : decode cX12_readsItem 56 = .ok (.iconst 0, 1) := by decide +kernel
theorem dX12_readsItem_57 : decode cX12_readsItem 57 = .ok (.ireturn, 1) := by decide +kernel
theorem dX12_readsItem_58 : decode cX12_readsItem 58 = .ok (.iload_n 1, 1) := by decide +kernel
theorem dX12_readsItem_59 : decode cX12_readsItem 59 = .ok (.ifCond .ne 13, 3) := by decide +kernel
theorem dX12_readsItem_62 : decode cX12_readsItem 62 = .ok (.aload_n 0, 1) := by decide +kernel
theorem dX12_readsItem_63 : decode cX12_readsItem 63 = .ok (.getfield 13, 3) := by decide +kernel
theorem dX12_readsItem_66 : decode cX12_readsItem 66 = .ok (.iconst 0, 1) := by decide +kernel
theorem dX12_readsItem_67 : decode cX12_readsItem 67 = .ok (.iload_n 2, 1) := by decide +kernel
theorem dX12_readsItem_68 : decode cX12_readsItem 68 = .ok (.iastore, 1) := by decide +kernel
theorem dX12_readsItem_69 : decode cX12_readsItem 69 = .ok (.goto 82, 3) := by decide +kernel
theorem dX12_readsItem_72 : decode cX12_readsItem 72 = .ok (.iload_n 1, 1) := by decide +kernel
theorem dX12_readsItem_73 : decode cX12_readsItem 73 = .ok (.iconst 1, 1) := by decide +kernel
theorem dX12_readsItem_74 : decode cX12_readsItem 74 = .ok (.if_icmp .ne 18, 3) := by decide +kernel
theorem dX12_readsItem_77 : decode cX12_readsItem 77 = .ok (.aload_n 0, 1) := by decide +kernel
theorem dX12_readsItem_78 : decode cX12_readsItem 78 = .ok (.getfield 13, 3) := by decide +kernel
theorem dX12_readsItem_81 : decode cX12_readsItem 81 = .ok (.iconst 1, 1) := by decide +kernel
theorem dX12_readsItem_82 : decode cX12_readsItem 82 = .ok (.dup2, 1) := by decide +kernel
theorem dX12_readsItem_83 : decode cX12_readsItem 83 = .ok (.iaload, 1) := by decide +kernel
theorem dX12_readsItem_84 : decode cX12_readsItem 84 = .ok (.iconst 1, 1) := by decide +kernel
theorem dX12_readsItem_85 : decode cX12_readsItem 85 = .ok (.iload_n 2, 1) := by decide +kernel
theorem dX12_readsItem_86 : decode cX12_readsItem 86 = .ok (.ishl, 1) := by decide +kernel
theorem dX12_readsItem_87 : decode cX12_readsItem 87 = .ok (.ior, 1) := by decide +kernel
theorem dX12_readsItem_88 : decode cX12_readsItem 88 = .ok (.iastore, 1) := by decide +kernel
theorem dX12_readsItem_89 : decode cX12_readsItem 89 = .ok (.goto 62, 3) := by decide +kernel
theorem dX12_readsItem_92 : decode cX12_readsItem 92 = .ok (.iload_n 1, 1) := by decide +kernel
theorem dX12_readsItem_93 : decode cX12_readsItem 93 = .ok (.iconst 2, 1) := by decide +kernel
theorem dX12_readsItem_94 : decode cX12_readsItem 94 = .ok (.if_icmp .ne 13, 3) := by decide +kernel
theorem dX12_readsItem_97 : decode cX12_readsItem 97 = .ok (.aload_n 0, 1) := by decide +kernel
theorem dX12_readsItem_98 : decode cX12_readsItem 98 = .ok (.getfield 13, 3) := by decide +kernel
theorem dX12_readsItem_101 : decode cX12_readsItem 101 = .ok (.iconst 2, 1) := by decide +kernel
theorem dX12_readsItem_102 : decode cX12_readsItem 102 = .ok (.iload_n 2, 1) := by decide +kernel
theorem dX12_readsItem_103 : decode cX12_readsItem 103 = .ok (.iastore, 1) := by decide +kernel
theorem dX12_readsItem_104 : decode cX12_readsItem 104 = .ok (.goto 47, 3) := by decide +kernel
theorem dX12_readsItem_107 : decode cX12_readsItem 107 = .ok (.iload_n 1, 1) := by decide +kernel
theorem dX12_readsItem_108 : decode cX12_readsItem 108 = .ok (.iconst 3, 1) := by decide +kernel
theorem dX12_readsItem_109 : decode cX12_readsItem 109 = .ok (.if_icmp .ne 18, 3) := by decide +kernel
theorem dX12_readsItem_112 : decode cX12_readsItem 112 = .ok (.aload_n 0, 1) := by decide +kernel
theorem dX12_readsItem_113 : decode cX12_readsItem 113 = .ok (.getfield 13, 3) := by decide +kernel
theorem dX12_readsItem_116 : decode cX12_readsItem 116 = .ok (.iconst 3, 1) := by decide +kernel
theorem dX12_readsItem_117 : decode cX12_readsItem 117 = .ok (.dup2, 1) := by decide +kernel
theorem dX12_readsItem_118 : decode cX12_readsItem 118 = .ok (.iaload, 1) := by decide +kernel
theorem dX12_readsItem_119 : decode cX12_readsItem 119 = .ok (.iconst 1, 1) := by decide +kernel
theorem dX12_readsItem_120 : decode cX12_readsItem 120 = .ok (.iload_n 2, 1) := by decide +kernel
theorem dX12_readsItem_121 : decode cX12_readsItem 121 = .ok (.ishl, 1) := by decide +kernel
theorem dX12_readsItem_122 : decode cX12_readsItem 122 = .ok (.ior, 1) := by decide +kernel
theorem dX12_readsItem_123 : decode cX12_readsItem 123 = .ok (.iastore, 1) := by decide +kernel
theorem dX12_readsItem_124 : decode cX12_readsItem 124 = .ok (.goto 27, 3) := by decide +kernel
theorem dX12_readsItem_127 : decode cX12_readsItem 127 = .ok (.aload_n 0, 1) := by decide +kernel
theorem dX12_readsItem_128 : decode cX12_readsItem 128 = .ok (.iconst 1, 1) := by decide +kernel
theorem dX12_readsItem_129 : decode cX12_readsItem 129 = .ok (.bipush 9, 2) := by decide +kernel
theorem dX12_readsItem_131 : decode cX12_readsItem 131 = .ok (.invokevirtual 118, 3) := by decide +kernel
theorem dX12_readsItem_134 : decode cX12_readsItem 134 = .ok (.istore_n 3, 1) := by decide +kernel
theorem dX12_readsItem_135 : decode cX12_readsItem 135 = .ok (.iload_n 3, 1) := by decide +kernel
theorem dX12_readsItem_136 : decode cX12_readsItem 136 = .ok (.iconst (-1), 1) := by decide +kernel
theorem dX12_readsItem_137 : decode cX12_readsItem 137 = .ok (.if_icmp .ne 5, 3) := by decide +kernel
theorem dX12_readsItem_140 : decode cX12_readsItem 140 = .ok (.iconst 0, 1) := by decide +kernel
theorem dX12_readsItem_141 : decode cX12_readsItem 141 = .ok (.ireturn, 1) := by decide +kernel
theorem dX12_readsItem_142 : decode cX12_readsItem 142 = .ok (.aload_n 0, 1) := by decide +kernel
theorem dX12_readsItem_143 : decode cX12_readsItem 143 = .ok (.getfield 13, 3) := by decide +kernel
theorem dX12_readsItem_146 : decode cX12_readsItem 146 = .ok (.iconst 4, 1) := by decide +kernel
theorem dX12_readsItem_147 : decode cX12_readsItem 147 = .ok (.iload_n 2, 1) := by decide +kernel
theorem dX12_readsItem_148 : decode cX12_readsItem 148 = .ok (.iadd, 1) := by decide +kernel
theorem dX12_readsItem_149 : decode cX12_readsItem 149 = .ok (.iload_n 3, 1) := by decide +kernel
theorem dX12_readsItem_150 : decode cX12_readsItem 150 = .ok (.iastore, 1) := by decide +kernel
theorem dX12_readsItem_151 : decode cX12_readsItem 151 = .ok (.iconst 1, 1) := by decide +kernel
theorem dX12_readsItem_152 : decode cX12_readsItem 152 = .ok (.ireturn, 1) := by decide +kernel
theorem dX12_reads_0 : decode cX12_reads 0 = .ok (.iconst 0, 1) := by decide +kernel
theorem dX12_reads_1 : decode cX12_reads 1 = .ok (.istore_n 1, 1) := by decide +kernel
theorem dX12_reads_2 : decode cX12_reads 2 = .ok (.iload_n 1, 1) := by decide +kernel
theorem dX12_reads_3 : decode cX12_reads 3 = .ok (.bipush 25, 2) := by decide +kernel
theorem dX12_reads_5 : decode cX12_reads 5 = .ok (.if_icmp .ge 16, 3) := by decide +kernel
theorem dX12_reads_8 : decode cX12_reads 8 = .ok (.aload_n 0, 1) := by decide +kernel
theorem dX12_reads_9 : decode cX12_reads 9 = .ok (.getfield 13, 3) := by decide +kernel
theorem dX12_reads_12 : decode cX12_reads 12 = .ok (.iload_n 1, 1) := by decide +kernel
theorem dX12_reads_13 : decode cX12_reads 13 = .ok (.iconst 0, 1) := by decide +kernel
theorem dX12_reads_14 : decode cX12_reads 14 = .ok (.iastore, 1) := by decide +kernel
theorem dX12_reads_15 : decode cX12_reads 15 = .ok (.iinc 1 1, 3) := by decide +kernel
theorem dX12_reads_18 : decode cX12_reads 18 = .ok (.goto (-16), 3) := by decide +kernel
theorem dX12_reads_21 : decode cX12_reads 21 = .ok (.aload_n 0, 1) := by decide +kernel
theorem dX12_reads_22 : decode cX12_reads 22 = .ok (.getfield 13, 3) := by decide +kernel
theorem dX12_reads_25 : decode cX12_reads 25 = .ok (.iconst 4, 1) := by decide +kernel
theorem dX12_reads_26 : decode cX12_reads 26 = .ok (.iconst 1, 1) := by decide +kernel
theorem dX12_reads_27 : decode cX12_reads 27 = .ok (.iastore, 1) := by decide +kernel
theorem dX12_reads_28 : decode cX12_reads 28 = .ok (.aload_n 0, 1) := by decide +kernel
theorem dX12_reads_29 : decode cX12_reads 29 = .ok (.getfield 13, 3) := by decide +kernel
theorem dX12_reads_32 : decode cX12_reads 32 = .ok (.iconst 5, 1) := by decide +kernel
theorem dX12_reads_33 : decode cX12_reads 33 = .ok (.iconst 1, 1) := by decide +kernel
theorem dX12_reads_34 : decode cX12_reads 34 = .ok (.iastore, 1) := by decide +kernel
theorem dX12_reads_35 : decode cX12_reads 35 = .ok (.aload_n 0, 1) := by decide +kernel
theorem dX12_reads_36 : decode cX12_reads 36 = .ok (.iconst 0, 1) := by decide +kernel
theorem dX12_reads_37 : decode cX12_reads 37 = .ok (.putfield 82, 3) := by decide +kernel
theorem dX12_reads_40 : decode cX12_reads 40 = .ok (.aload_n 0, 1) := by decide +kernel
theorem dX12_reads_41 : decode cX12_reads 41 = .ok (.invokevirtual 115, 3) := by decide +kernel
theorem dX12_reads_44 : decode cX12_reads 44 = .ok (.iconst 1, 1) := by decide +kernel
theorem dX12_reads_45 : decode cX12_reads 45 = .ok (.istore_n 1, 1) := by decide +kernel
theorem dX12_reads_46 : decode cX12_reads 46 = .ok (.iload_n 1, 1) := by decide +kernel
theorem dX12_reads_47 : decode cX12_reads 47 = .ok (.ifCond .ne 10, 3) := by decide +kernel
theorem dX12_reads_50 : decode cX12_reads 50 = .ok (.aload_n 0, 1) := by decide +kernel
theorem dX12_reads_51 : decode cX12_reads 51 = .ok (.getfield 95, 3) := by decide +kernel
theorem dX12_reads_54 : decode cX12_reads 54 = .ok (.ifCond .eq 59, 3) := by decide +kernel
theorem dX12_reads_57 : decode cX12_reads 57 = .ok (.aload_n 0, 1) := by decide +kernel
theorem dX12_reads_58 : decode cX12_reads 58 = .ok (.invokevirtual 128, 3) := by decide +kernel
theorem dX12_reads_61 : decode cX12_reads 61 = .ok (.istore_n 2, 1) := by decide +kernel
theorem dX12_reads_62 : decode cX12_reads 62 = .ok (.iload_n 2, 1) := by decide +kernel
theorem dX12_reads_63 : decode cX12_reads 63 = .ok (.iconst (-1), 1) := by decide +kernel
theorem dX12_reads_64 : decode cX12_reads 64 = .ok (.if_icmp .eq 24, 3) := by decide +kernel
theorem dX12_reads_67 : decode cX12_reads 67 = .ok (.iload_n 2, 1) := by decide +kernel
theorem dX12_reads_68 : decode cX12_reads 68 = .ok (.ifCond .ne 7, 3) := by decide +kernel
theorem dX12_reads_71 : decode cX12_reads 71 = .ok (.iconst 1, 1) := by decide +kernel
theorem dX12_reads_72 : decode cX12_reads 72 = .ok (.goto 4, 3) := by decide +kernel
theorem dX12_reads_75 : decode cX12_reads 75 = .ok (.iconst 0, 1) := by decide +kernel
theorem dX12_reads_76 : decode cX12_reads 76 = .ok (.iload_n 1, 1) := by decide +kernel
theorem dX12_reads_77 : decode cX12_reads 77 = .ok (.if_icmp .ne 11, 3) := by decide +kernel
theorem dX12_reads_80 : decode cX12_reads 80 = .ok (.aload_n 0, 1) := by decide +kernel
theorem dX12_reads_81 : decode cX12_reads 81 = .ok (.iload_n 2, 1) := by decide +kernel
theorem dX12_reads_82 : decode cX12_reads 82 = .ok (.invokevirtual 131, 3) := by decide +kernel
theorem dX12_reads_85 : decode cX12_reads 85 = .ok (.ifCond .ne 5, 3) := by decide +kernel
theorem dX12_reads_88 : decode cX12_reads 88 = .ok (.iconst 0, 1) := by decide +kernel
theorem dX12_reads_89 : decode cX12_reads 89 = .ok (.ireturn, 1) := by decide +kernel
theorem dX12_reads_90 : decode cX12_reads 90 = .ok (.aload_n 0, 1) := by decide +kernel
theorem dX12_reads_91 : decode cX12_reads 91 = .ok (.invokevirtual 115, 3) := by decide +kernel
theorem dX12_reads_94 : decode cX12_reads 94 = .ok (.aload_n 0, 1) := by decide +kernel
theorem dX12_reads_95 : decode cX12_reads 95 = .ok (.getfield 95, 3) := by decide +kernel
theorem dX12_reads_98 : decode cX12_reads 98 = .ok (.iconst 3, 1) := by decide +kernel
theorem dX12_reads_99 : decode cX12_reads 99 = .ok (.if_icmp .eq 5, 3) := by decide +kernel
theorem dX12_reads_102 : decode cX12_reads 102 = .ok (.iconst 0, 1) := by decide +kernel
theorem dX12_reads_103 : decode cX12_reads 103 = .ok (.ireturn, 1) := by decide +kernel
theorem dX12_reads_104 : decode cX12_reads 104 = .ok (.iconst 0, 1) := by decide +kernel
theorem dX12_reads_105 : decode cX12_reads 105 = .ok (.istore_n 1, 1) := by decide +kernel
theorem dX12_reads_106 : decode cX12_reads 106 = .ok (.aload_n 0, 1) := by decide +kernel
theorem dX12_reads_107 : decode cX12_reads 107 = .ok (.invokevirtual 115, 3) := by decide +kernel
theorem dX12_reads_110 : decode cX12_reads 110 = .ok (.goto (-64), 3) := by decide +kernel
theorem dX12_reads_113 : decode cX12_reads 113 = .ok (.iconst 1, 1) := by decide +kernel
theorem dX12_reads_114 : decode cX12_reads 114 = .ok (.ireturn, 1) := by decide +kernel
theorem dX12_read_0 : decode cX12_read 0 = .ok (.aload_n 0, 1) := by decide +kernel
theorem dX12_read_1 : decode cX12_read 1 = .ok (.invokevirtual 134, 3) := by decide +kernel
theorem dX12_read_4 : decode cX12_read 4 = .ok (.ifCond .ne 11, 3) := by decide +kernel
theorem dX12_read_7 : decode cX12_read 7 = .ok (.bipush (-10), 2) := by decide +kernel
theorem dX12_read_9 : decode cX12_read 9 = .ok (.aload_n 0, 1) := by decide +kernel
theorem dX12_read_10 : decode cX12_read 10 = .ok (.getfield 89, 3) := by decide +kernel
theorem dX12_read_13 : decode cX12_read 13 = .ok (.isub, 1) := by decide +kernel
theorem dX12_read_14 : decode cX12_read 14 = .ok (.ireturn, 1) := by decide +kernel
theorem dX12_read_15 : decode cX12_read 15 = .ok (.iconst 0, 1) := by decide +kernel
theorem dX12_read_16 : decode cX12_read 16 = .ok (.istore_n 1, 1) := by decide +kernel
theorem dX12_read_17 : decode cX12_read 17 = .ok (.iload_n 1, 1) := by decide +kernel
theorem dX12_read_18 : decode cX12_read 18 = .ok (.bipush 25, 2) := by decide +kernel
theorem dX12_read_20 : decode cX12_read 20 = .ok (.if_icmp .ge 21, 3) := by decide +kernel
theorem dX12_read_23 : decode cX12_read 23 = .ok (.aload_n 0, 1) := by decide +kernel
theorem dX12_read_24 : decode cX12_read 24 = .ok (.getfield 7, 3) := by decide +kernel
theorem dX12_read_27 : decode cX12_read 27 = .ok (.iload_n 1, 1) := by decide +kernel
theorem dX12_read_28 : decode cX12_read 28 = .ok (.aload_n 0, 1) := by decide +kernel
theorem dX12_read_29 : decode cX12_read 29 = .ok (.getfield 13, 3) := by decide +kernel
theorem dX12_read_32 : decode cX12_read 32 = .ok (.iload_n 1, 1) := by decide +kernel
theorem dX12_read_33 : decode cX12_read 33 = .ok (.iaload, 1) := by decide +kernel
theorem dX12_read_34 : decode cX12_read 34 = .ok (.iastore, 1) := by decide +kernel
theorem dX12_read_35 : decode cX12_read 35 = .ok (.iinc 1 1, 3) := by decide +kernel
theorem dX12_read_38 : decode cX12_read 38 = .ok (.goto (-21), 3) := by decide +kernel
theorem dX12_read_41 : decode cX12_read 41 = .ok (.aload_n 0, 1) := by decide +kernel
theorem dX12_read_42 : decode cX12_read 42 = .ok (.getfield 7, 3) := by decide +kernel
theorem dX12_read_45 : decode cX12_read 45 = .ok (.bipush 6, 2) := by decide +kernel
theorem dX12_read_47 : decode cX12_read 47 = .ok (.iaload, 1) := by decide +kernel
theorem dX12_read_48 : decode cX12_read 48 = .ok (.ireturn, 1) := by decide +kernel
theorem dX12_step_0 : decode cX12_step 0 = .ok (.iload_n 1, 1) := by decide +kernel
theorem dX12_step_1 : decode cX12_step 1 = .ok (.iconst 3, 1) := by decide +kernel
theorem dX12_step_2 : decode cX12_step 2 = .ok (.iload_n 2, 1) := by decide +kernel
theorem dX12_step_3 : decode cX12_step 3 = .ok (.imul, 1) := by decide +kernel
theorem dX12_step_4 : decode cX12_step 4 = .ok (.ishr, 1) := by decide +kernel
theorem dX12_step_5 : decode cX12_step 5 = .ok (.bipush 7, 2) := by decide +kernel
theorem dX12_step_7 : decode cX12_step 7 = .ok (.iand, 1) := by decide +kernel
theorem dX12_step_8 : decode cX12_step 8 = .ok (.istore_n 3, 1) := by decide +kernel
theorem dX12_step_9 : decode cX12_step 9 = .ok (.aload_n 0, 1) := by decide +kernel
theorem dX12_step_10 : decode cX12_step 10 = .ok (.getfield 7, 3) := by decide +kernel
theorem dX12_step_13 : decode cX12_step 13 = .ok (.iconst 1, 1) := by decide +kernel
theorem dX12_step_14 : decode cX12_step 14 = .ok (.iaload, 1) := by decide +kernel
theorem dX12_step_15 : decode cX12_step 15 = .ok (.iload_n 3, 1) := by decide +kernel
theorem dX12_step_16 : decode cX12_step 16 = .ok (.ishr, 1) := by decide +kernel
theorem dX12_step_17 : decode cX12_step 17 = .ok (.iconst 1, 1) := by decide +kernel
theorem dX12_step_18 : decode cX12_step 18 = .ok (.iand, 1) := by decide +kernel
theorem dX12_step_19 : decode cX12_step 19 = .ok (.iconst 1, 1) := by decide +kernel
theorem dX12_step_20 : decode cX12_step 20 = .ok (.if_icmp .ne 7, 3) := by decide +kernel
theorem dX12_step_23 : decode cX12_step 23 = .ok (.iload_n 2, 1) := by decide +kernel
theorem dX12_step_24 : decode cX12_step 24 = .ok (.goto 4, 3) := by decide +kernel
theorem dX12_step_27 : decode cX12_step 27 = .ok (.iload_n 3, 1) := by decide +kernel
theorem dX12_step_28 : decode cX12_step 28 = .ok (.ireturn, 1) := by decide +kernel
theorem dX12_go_0 : decode cX12_go 0 = .ok (.bipush 7, 2) := by decide +kernel
theorem dX12_go_2 : decode cX12_go 2 = .ok (.bipush 6, 2) := by decide +kernel
theorem dX12_go_4 : decode cX12_go 4 = .ok (.iload_n 1, 1) := by decide +kernel
theorem dX12_go_5 : decode cX12_go 5 = .ok (.imul, 1) := by decide +kernel
theorem dX12_go_6 : decode cX12_go 6 = .ok (.iadd, 1) := by decide +kernel
theorem dX12_go_7 : decode cX12_go 7 = .ok (.istore 5, 2) := by decide +kernel
theorem dX12_go_9 : decode cX12_go 9 = .ok (.aload_n 0, 1) := by decide +kernel
theorem dX12_go_10 : decode cX12_go 10 = .ok (.getfield 7, 3) := by decide +kernel
theorem dX12_go_13 : decode cX12_go 13 = .ok (.iload 5, 2) := by decide +kernel
theorem dX12_go_15 : decode cX12_go 15 = .ok (.iaload, 1) := by decide +kernel
theorem dX12_go_16 : decode cX12_go 16 = .ok (.istore 6, 2) := by decide +kernel
theorem dX12_go_18 : decode cX12_go 18 = .ok (.iload 6, 2) := by decide +kernel
theorem dX12_go_20 : decode cX12_go 20 = .ok (.iconst 1, 1) := by decide +kernel
theorem dX12_go_21 : decode cX12_go 21 = .ok (.if_icmp .ne 11, 3) := by decide +kernel
theorem dX12_go_24 : decode cX12_go 24 = .ok (.iload 4, 2) := by decide +kernel
theorem dX12_go_26 : decode cX12_go 26 = .ok (.iconst 2, 1) := by decide +kernel
theorem dX12_go_27 : decode cX12_go 27 = .ok (.irem, 1) := by decide +kernel
theorem dX12_go_28 : decode cX12_go 28 = .ok (.iconst 1, 1) := by decide +kernel
theorem dX12_go_29 : decode cX12_go 29 = .ok (.if_icmp .eq 16, 3) := by decide +kernel
theorem dX12_go_32 : decode cX12_go 32 = .ok (.iload 6, 2) := by decide +kernel
theorem dX12_go_34 : decode cX12_go 34 = .ok (.iconst 4, 1) := by decide +kernel
theorem dX12_go_35 : decode cX12_go 35 = .ok (.if_icmp .ne 12, 3) := by decide +kernel
theorem dX12_go_38 : decode cX12_go 38 = .ok (.iload 4, 2) := by decide +kernel
theorem dX12_go_40 : decode cX12_go 40 = .ok (.iconst 2, 1) := by decide +kernel
theorem dX12_go_41 : decode cX12_go 41 = .ok (.irem, 1) := by decide +kernel
theorem dX12_go_42 : decode cX12_go 42 = .ok (.ifCond .ne 5, 3) := by decide +kernel
theorem dX12_go_45 : decode cX12_go 45 = .ok (.iload_n 2, 1) := by decide +kernel
theorem dX12_go_46 : decode cX12_go 46 = .ok (.ireturn, 1) := by decide +kernel
theorem dX12_go_47 : decode cX12_go 47 = .ok (.iload 6, 2) := by decide +kernel
theorem dX12_go_49 : decode cX12_go 49 = .ok (.iconst 2, 1) := by decide +kernel
theorem dX12_go_50 : decode cX12_go 50 = .ok (.if_icmp .eq 9, 3) := by decide +kernel
theorem dX12_go_53 : decode cX12_go 53 = .ok (.iload 6, 2) := by decide +kernel
theorem dX12_go_55 : decode cX12_go 55 = .ok (.iconst 3, 1) := by decide +kernel
theorem dX12_go_56 : decode cX12_go 56 = .ok (.if_icmp .ne 21, 3) := by decide +kernel
theorem dX12_go_59 : decode cX12_go 59 = .ok (.iload 4, 2) := by decide +kernel
theorem dX12_go_61 : decode cX12_go 61 = .ok (.aload_n 0, 1) := by decide +kernel
theorem dX12_go_62 : decode cX12_go 62 = .ok (.getfield 7, 3) := by decide +kernel
theorem dX12_go_65 : decode cX12_go 65 = .ok (.iload 5, 2) := by decide +kernel
theorem dX12_go_67 : decode cX12_go 67 = .ok (.iconst 5, 1) := by decide +kernel
theorem dX12_go_68 : decode cX12_go 68 = .ok (.iadd, 1) := by decide +kernel
theorem dX12_go_69 : decode cX12_go 69 = .ok (.iaload, 1) := by decide +kernel
theorem dX12_go_70 : decode cX12_go 70 = .ok (.if_icmp .lt 7, 3) := by decide +kernel
theorem dX12_go_73 : decode cX12_go 73 = .ok (.iconst 1, 1) := by decide +kernel
theorem dX12_go_74 : decode cX12_go 74 = .ok (.goto 4, 3) := by decide +kernel
theorem dX12_go_77 : decode cX12_go 77 = .ok (.iconst 0, 1) := by decide +kernel
theorem dX12_go_78 : decode cX12_go 78 = .ok (.istore 7, 2) := by decide +kernel
theorem dX12_go_80 : decode cX12_go 80 = .ok (.aload_n 0, 1) := by decide +kernel
theorem dX12_go_81 : decode cX12_go 81 = .ok (.getfield 7, 3) := by decide +kernel
theorem dX12_go_84 : decode cX12_go 84 = .ok (.iload 5, 2) := by decide +kernel
theorem dX12_go_86 : decode cX12_go 86 = .ok (.iconst 1, 1) := by decide +kernel
theorem dX12_go_87 : decode cX12_go 87 = .ok (.iadd, 1) := by decide +kernel
theorem dX12_go_88 : decode cX12_go 88 = .ok (.iload_n 3, 1) := by decide +kernel
theorem dX12_go_89 : decode cX12_go 89 = .ok (.iadd, 1) := by decide +kernel
theorem dX12_go_90 : decode cX12_go 90 = .ok (.iload 7, 2) := by decide +kernel
theorem dX12_go_92 : decode cX12_go 92 = .ok (.ifCond .eq 7, 3) := by decide +kernel
theorem dX12_go_95 : decode cX12_go 95 = .ok (.iconst 2, 1) := by decide +kernel
theorem dX12_go_96 : decode cX12_go 96 = .ok (.goto 4, 3) := by decide +kernel
theorem dX12_go_99 : decode cX12_go 99 = .ok (.iconst 0, 1) := by decide +kernel
theorem dX12_go_100 : decode cX12_go 100 = .ok (.iadd, 1) := by decide +kernel
theorem dX12_go_101 : decode cX12_go 101 = .ok (.iaload, 1) := by decide +kernel
theorem dX12_go_102 : decode cX12_go 102 = .ok (.istore 8, 2) := by decide +kernel
theorem dX12_go_104 : decode cX12_go 104 = .ok (.aload_n 0, 1) := by decide +kernel
theorem dX12_go_105 : decode cX12_go 105 = .ok (.iload 8, 2) := by decide +kernel
theorem dX12_go_107 : decode cX12_go 107 = .ok (.iload_n 2, 1) := by decide +kernel
theorem dX12_go_108 : decode cX12_go 108 = .ok (.invokevirtual 137, 3) := by decide +kernel
theorem dX12_go_111 : decode cX12_go 111 = .ok (.istore 9, 2) := by decide +kernel
theorem dX12_go_113 : decode cX12_go 113 = .ok (.iload 7, 2) := by decide +kernel
theorem dX12_go_115 : decode cX12_go 115 = .ok (.ifCond .eq 20, 3) := by decide +kernel
theorem dX12_go_118 : decode cX12_go 118 = .ok (.iload 6, 2) := by decide +kernel
theorem dX12_go_120 : decode cX12_go 120 = .ok (.iconst 3, 1) := by decide +kernel
theorem dX12_go_121 : decode cX12_go 121 = .ok (.if_icmp .ne 14, 3) := by decide +kernel
theorem dX12_go_124 : decode cX12_go 124 = .ok (.aload_n 0, 1) := by decide +kernel
theorem dX12_go_125 : decode cX12_go 125 = .ok (.iload 8, 2) := by decide +kernel
theorem dX12_go_127 : decode cX12_go 127 = .ok (.iload 9, 2) := by decide +kernel
theorem dX12_go_129 : decode cX12_go 129 = .ok (.invokevirtual 137, 3) := by decide +kernel
theorem dX12_go_132 : decode cX12_go 132 = .ok (.goto 5, 3) := by decide +kernel
theorem dX12_go_135 : decode cX12_go 135 = .ok (.iload 9, 2) := by decide +kernel
theorem dX12_go_137 : decode cX12_go 137 = .ok (.ireturn, 1) := by decide +kernel
theorem dX12_goes_0 : decode cX12_goes 0 = .ok (.aload_n 0, 1) := by decide +kernel
theorem dX12_goes_1 : decode cX12_goes 1 = .ok (.iload_n 1, 1) := by decide +kernel
theorem dX12_goes_2 : decode cX12_goes 2 = .ok (.invokevirtual 140, 3) := by decide +kernel
theorem dX12_goes_5 : decode cX12_goes 5 = .ok (.ifCond .eq 43, 3) := by decide +kernel
theorem dX12_goes_8 : decode cX12_goes 8 = .ok (.aload_n 0, 1) := by decide +kernel
theorem dX12_goes_9 : decode cX12_goes 9 = .ok (.iload_n 2, 1) := by decide +kernel
theorem dX12_goes_10 : decode cX12_goes 10 = .ok (.invokevirtual 73, 3) := by decide +kernel
theorem dX12_goes_13 : decode cX12_goes 13 = .ok (.ifCond .eq 35, 3) := by decide +kernel
theorem dX12_goes_16 : decode cX12_goes 16 = .ok (.iload_n 3, 1) := by decide +kernel
theorem dX12_goes_17 : decode cX12_goes 17 = .ok (.iconst 0, 1) := by decide +kernel
theorem dX12_goes_18 : decode cX12_goes 18 = .ok (.iconst 1, 1) := by decide +kernel
theorem dX12_goes_19 : decode cX12_goes 19 = .ok (.invokestatic 57, 3) := by decide +kernel
theorem dX12_goes_22 : decode cX12_goes 22 = .ok (.ifCond .eq 26, 3) := by decide +kernel
theorem dX12_goes_25 : decode cX12_goes 25 = .ok (.iload 4, 2) := by decide +kernel
theorem dX12_goes_27 : decode cX12_goes 27 = .ok (.iconst 0, 1) := by decide +kernel
theorem dX12_goes_28 : decode cX12_goes 28 = .ok (.bipush 99, 2) := by decide +kernel
theorem dX12_goes_30 : decode cX12_goes 30 = .ok (.invokestatic 57, 3) := by decide +kernel
theorem dX12_goes_33 : decode cX12_goes 33 = .ok (.ifCond .eq 15, 3) := by decide +kernel
theorem dX12_goes_36 : decode cX12_goes 36 = .ok (.aload_n 0, 1) := by decide +kernel
theorem dX12_goes_37 : decode cX12_goes 37 = .ok (.iload_n 1, 1) := by decide +kernel
theorem dX12_goes_38 : decode cX12_goes 38 = .ok (.iload_n 2, 1) := by decide +kernel
theorem dX12_goes_39 : decode cX12_goes 39 = .ok (.iload_n 3, 1) := by decide +kernel
theorem dX12_goes_40 : decode cX12_goes 40 = .ok (.iload 4, 2) := by decide +kernel
theorem dX12_goes_42 : decode cX12_goes 42 = .ok (.invokevirtual 143, 3) := by decide +kernel
theorem dX12_goes_45 : decode cX12_goes 45 = .ok (.goto 7, 3) := by decide +kernel
theorem dX12_goes_48 : decode cX12_goes 48 = .ok (.aload_n 0, 1) := by decide +kernel
theorem dX12_goes_49 : decode cX12_goes 49 = .ok (.invokevirtual 61, 3) := by decide +kernel
theorem dX12_goes_52 : decode cX12_goes 52 = .ok (.ireturn, 1) := by decide +kernel
theorem dX12_ran_0 : decode cX12_ran 0 = .ok (.iload_n 2, 1) := by decide +kernel
theorem dX12_ran_1 : decode cX12_ran 1 = .ok (.istore 5, 2) := by decide +kernel
theorem dX12_ran_3 : decode cX12_ran 3 = .ok (.iconst 0, 1) := by decide +kernel
theorem dX12_ran_4 : decode cX12_ran 4 = .ok (.istore 6, 2) := by decide +kernel
theorem dX12_ran_6 : decode cX12_ran 6 = .ok (.iload 6, 2) := by decide +kernel
theorem dX12_ran_8 : decode cX12_ran 8 = .ok (.iload 4, 2) := by decide +kernel
theorem dX12_ran_10 : decode cX12_ran 10 = .ok (.if_icmp .ge 26, 3) := by decide +kernel
theorem dX12_ran_13 : decode cX12_ran 13 = .ok (.aload_n 0, 1) := by decide +kernel
theorem dX12_ran_14 : decode cX12_ran 14 = .ok (.iload_n 1, 1) := by decide +kernel
theorem dX12_ran_15 : decode cX12_ran 15 = .ok (.iload 5, 2) := by decide +kernel
theorem dX12_ran_17 : decode cX12_ran 17 = .ok (.iload_n 3, 1) := by decide +kernel
theorem dX12_ran_18 : decode cX12_ran 18 = .ok (.iload 6, 2) := by decide +kernel
theorem dX12_ran_20 : decode cX12_ran 20 = .ok (.ishr, 1) := by decide +kernel
theorem dX12_ran_21 : decode cX12_ran 21 = .ok (.iconst 1, 1) := by decide +kernel
theorem dX12_ran_22 : decode cX12_ran 22 = .ok (.iand, 1) := by decide +kernel
theorem dX12_ran_23 : decode cX12_ran 23 = .ok (.iload 6, 2) := by decide +kernel
theorem dX12_ran_25 : decode cX12_ran 25 = .ok (.invokevirtual 143, 3) := by decide +kernel
theorem dX12_ran_28 : decode cX12_ran 28 = .ok (.istore 5, 2) := by decide +kernel
theorem dX12_ran_30 : decode cX12_ran 30 = .ok (.iinc 6 1, 3) := by decide +kernel
theorem dX12_ran_33 : decode cX12_ran 33 = .ok (.goto (-27), 3) := by decide +kernel
theorem dX12_ran_36 : decode cX12_ran 36 = .ok (.iload 5, 2) := by decide +kernel
theorem dX12_ran_38 : decode cX12_ran 38 = .ok (.ireturn, 1) := by decide +kernel
theorem dX12_run_0 : decode cX12_run 0 = .ok (.aload_n 0, 1) := by decide +kernel
theorem dX12_run_1 : decode cX12_run 1 = .ok (.iload_n 1, 1) := by decide +kernel
theorem dX12_run_2 : decode cX12_run 2 = .ok (.invokevirtual 140, 3) := by decide +kernel
theorem dX12_run_5 : decode cX12_run 5 = .ok (.ifCond .eq 44, 3) := by decide +kernel
theorem dX12_run_8 : decode cX12_run 8 = .ok (.aload_n 0, 1) := by decide +kernel
theorem dX12_run_9 : decode cX12_run 9 = .ok (.iload_n 2, 1) := by decide +kernel
theorem dX12_run_10 : decode cX12_run 10 = .ok (.invokevirtual 73, 3) := by decide +kernel
theorem dX12_run_13 : decode cX12_run 13 = .ok (.ifCond .eq 36, 3) := by decide +kernel
theorem dX12_run_16 : decode cX12_run 16 = .ok (.iload 4, 2) := by decide +kernel
theorem dX12_run_18 : decode cX12_run 18 = .ok (.iconst 0, 1) := by decide +kernel
theorem dX12_run_19 : decode cX12_run 19 = .ok (.bipush 20, 2) := by decide +kernel
theorem dX12_run_21 : decode cX12_run 21 = .ok (.invokestatic 57, 3) := by decide +kernel
theorem dX12_run_24 : decode cX12_run 24 = .ok (.ifCond .eq 25, 3) := by decide +kernel
theorem dX12_run_27 : decode cX12_run 27 = .ok (.aload_n 0, 1) := by decide +kernel
theorem dX12_run_28 : decode cX12_run 28 = .ok (.iload_n 3, 1) := by decide +kernel
theorem dX12_run_29 : decode cX12_run 29 = .ok (.iload 4, 2) := by decide +kernel
theorem dX12_run_31 : decode cX12_run 31 = .ok (.invokevirtual 147, 3) := by decide +kernel
theorem dX12_run_34 : decode cX12_run 34 = .ok (.ifCond .eq 15, 3) := by decide +kernel
theorem dX12_run_37 : decode cX12_run 37 = .ok (.aload_n 0, 1) := by decide +kernel
theorem dX12_run_38 : decode cX12_run 38 = .ok (.iload_n 1, 1) := by decide +kernel
theorem dX12_run_39 : decode cX12_run 39 = .ok (.iload_n 2, 1) := by decide +kernel
theorem dX12_run_40 : decode cX12_run 40 = .ok (.iload_n 3, 1) := by decide +kernel
theorem dX12_run_41 : decode cX12_run 41 = .ok (.iload 4, 2) := by decide +kernel
theorem dX12_run_43 : decode cX12_run 43 = .ok (.invokevirtual 151, 3) := by decide +kernel
theorem dX12_run_46 : decode cX12_run 46 = .ok (.goto 7, 3) := by decide +kernel
theorem dX12_run_49 : decode cX12_run 49 = .ok (.aload_n 0, 1) := by decide +kernel
theorem dX12_run_50 : decode cX12_run 50 = .ok (.invokevirtual 61, 3) := by decide +kernel
theorem dX12_run_53 : decode cX12_run 53 = .ok (.ireturn, 1) := by decide +kernel
theorem dX12_meets_0 : decode cX12_meets 0 = .ok (.aload_n 0, 1) := by decide +kernel
theorem dX12_meets_1 : decode cX12_meets 1 = .ok (.iload_n 1, 1) := by decide +kernel
theorem dX12_meets_2 : decode cX12_meets 2 = .ok (.invokevirtual 140, 3) := by decide +kernel
theorem dX12_meets_5 : decode cX12_meets 5 = .ok (.ifCond .eq 22, 3) := by decide +kernel
theorem dX12_meets_8 : decode cX12_meets 8 = .ok (.iload_n 3, 1) := by decide +kernel
theorem dX12_meets_9 : decode cX12_meets 9 = .ok (.iconst 0, 1) := by decide +kernel
theorem dX12_meets_10 : decode cX12_meets 10 = .ok (.bipush 20, 2) := by decide +kernel
theorem dX12_meets_12 : decode cX12_meets 12 = .ok (.invokestatic 57, 3) := by decide +kernel
theorem dX12_meets_15 : decode cX12_meets 15 = .ok (.ifCond .eq 12, 3) := by decide +kernel
theorem dX12_meets_18 : decode cX12_meets 18 = .ok (.aload_n 0, 1) := by decide +kernel
theorem dX12_meets_19 : decode cX12_meets 19 = .ok (.iload_n 2, 1) := by decide +kernel
theorem dX12_meets_20 : decode cX12_meets 20 = .ok (.iload_n 3, 1) := by decide +kernel
theorem dX12_meets_21 : decode cX12_meets 21 = .ok (.invokevirtual 147, 3) := by decide +kernel
theorem dX12_meets_24 : decode cX12_meets 24 = .ok (.ifCond .ne 8, 3) := by decide +kernel
theorem dX12_meets_27 : decode cX12_meets 27 = .ok (.aload_n 0, 1) := by decide +kernel
theorem dX12_meets_28 : decode cX12_meets 28 = .ok (.invokevirtual 61, 3) := by decide +kernel
theorem dX12_meets_31 : decode cX12_meets 31 = .ok (.ireturn, 1) := by decide +kernel
theorem dX12_meets_32 : decode cX12_meets 32 = .ok (.iconst 0, 1) := by decide +kernel
theorem dX12_meets_33 : decode cX12_meets 33 = .ok (.istore 4, 2) := by decide +kernel
theorem dX12_meets_35 : decode cX12_meets 35 = .ok (.iconst 0, 1) := by decide +kernel
theorem dX12_meets_36 : decode cX12_meets 36 = .ok (.istore 5, 2) := by decide +kernel
theorem dX12_meets_38 : decode cX12_meets 38 = .ok (.iload 5, 2) := by decide +kernel
theorem dX12_meets_40 : decode cX12_meets 40 = .ok (.aload_n 0, 1) := by decide +kernel
theorem dX12_meets_41 : decode cX12_meets 41 = .ok (.getfield 7, 3) := by decide +kernel
theorem dX12_meets_44 : decode cX12_meets 44 = .ok (.iconst 0, 1) := by decide +kernel
theorem dX12_meets_45 : decode cX12_meets 45 = .ok (.iaload, 1) := by decide +kernel
theorem dX12_meets_46 : decode cX12_meets 46 = .ok (.if_icmp .ge 25, 3) := by decide +kernel
theorem dX12_meets_49 : decode cX12_meets 49 = .ok (.iload 4, 2) := by decide +kernel
theorem dX12_meets_51 : decode cX12_meets 51 = .ok (.iconst 1, 1) := by decide +kernel
theorem dX12_meets_52 : decode cX12_meets 52 = .ok (.aload_n 0, 1) := by decide +kernel
theorem dX12_meets_53 : decode cX12_meets 53 = .ok (.iload_n 1, 1) := by decide +kernel
theorem dX12_meets_54 : decode cX12_meets 54 = .ok (.iload 5, 2) := by decide +kernel
theorem dX12_meets_56 : decode cX12_meets 56 = .ok (.iload_n 2, 1) := by decide +kernel
theorem dX12_meets_57 : decode cX12_meets 57 = .ok (.iload_n 3, 1) := by decide +kernel
theorem dX12_meets_58 : decode cX12_meets 58 = .ok (.invokevirtual 151, 3) := by decide +kernel
theorem dX12_meets_61 : decode cX12_meets 61 = .ok (.ishl, 1) := by decide +kernel
theorem dX12_meets_62 : decode cX12_meets 62 = .ok (.ior, 1) := by decide +kernel
theorem dX12_meets_63 : decode cX12_meets 63 = .ok (.istore 4, 2) := by decide +kernel
theorem dX12_meets_65 : decode cX12_meets 65 = .ok (.iinc 5 1, 3) := by decide +kernel
theorem dX12_meets_68 : decode cX12_meets 68 = .ok (.goto (-30), 3) := by decide +kernel
theorem dX12_meets_71 : decode cX12_meets 71 = .ok (.iload 4, 2) := by decide +kernel
theorem dX12_meets_73 : decode cX12_meets 73 = .ok (.ireturn, 1) := by decide +kernel
theorem dX12_after_0 : decode cX12_after 0 = .ok (.iconst 0, 1) := by decide +kernel
theorem dX12_after_1 : decode cX12_after 1 = .ok (.istore 4, 2) := by decide +kernel
theorem dX12_after_3 : decode cX12_after 3 = .ok (.iconst 0, 1) := by decide +kernel
theorem dX12_after_4 : decode cX12_after 4 = .ok (.istore 5, 2) := by decide +kernel
theorem dX12_after_6 : decode cX12_after 6 = .ok (.iload 5, 2) := by decide +kernel
theorem dX12_after_8 : decode cX12_after 8 = .ok (.aload_n 0, 1) := by decide +kernel
theorem dX12_after_9 : decode cX12_after 9 = .ok (.getfield 7, 3) := by decide +kernel
theorem dX12_after_12 : decode cX12_after 12 = .ok (.bipush 6, 2) := by decide +kernel
theorem dX12_after_14 : decode cX12_after 14 = .ok (.iaload, 1) := by decide +kernel
theorem dX12_after_15 : decode cX12_after 15 = .ok (.if_icmp .ge 70, 3) := by decide +kernel
theorem dX12_after_18 : decode cX12_after 18 = .ok (.iconst 0, 1) := by decide +kernel
theorem dX12_after_19 : decode cX12_after 19 = .ok (.istore 6, 2) := by decide +kernel
theorem dX12_after_21 : decode cX12_after 21 = .ok (.iload 6, 2) := by decide +kernel
theorem dX12_after_23 : decode cX12_after 23 = .ok (.aload_n 0, 1) := by decide +kernel
theorem dX12_after_24 : decode cX12_after 24 = .ok (.getfield 7, 3) := by decide +kernel
theorem dX12_after_27 : decode cX12_after 27 = .ok (.iconst 0, 1) := by decide +kernel
theorem dX12_after_28 : decode cX12_after 28 = .ok (.iaload, 1) := by decide +kernel
theorem dX12_after_29 : decode cX12_after 29 = .ok (.if_icmp .ge 50, 3) := by decide +kernel
theorem dX12_after_32 : decode cX12_after 32 = .ok (.iload 4, 2) := by decide +kernel
theorem dX12_after_34 : decode cX12_after 34 = .ok (.iload_n 1, 1) := by decide +kernel
theorem dX12_after_35 : decode cX12_after 35 = .ok (.iconst 5, 1) := by decide +kernel
theorem dX12_after_36 : decode cX12_after 36 = .ok (.iload 5, 2) := by decide +kernel
theorem dX12_after_38 : decode cX12_after 38 = .ok (.imul, 1) := by decide +kernel
theorem dX12_after_39 : decode cX12_after 39 = .ok (.iload 6, 2) := by decide +kernel
theorem dX12_after_41 : decode cX12_after 41 = .ok (.iadd, 1) := by decide +kernel
theorem dX12_after_42 : decode cX12_after 42 = .ok (.ishr, 1) := by decide +kernel
theorem dX12_after_43 : decode cX12_after 43 = .ok (.iconst 1, 1) := by decide +kernel
theorem dX12_after_44 : decode cX12_after 44 = .ok (.iand, 1) := by decide +kernel
theorem dX12_after_45 : decode cX12_after 45 = .ok (.iconst 1, 1) := by decide +kernel
theorem dX12_after_46 : decode cX12_after 46 = .ok (.if_icmp .ne 23, 3) := by decide +kernel
end
section
theorem dX12_after_49 : decode cX12_after 49 = .ok (.iconst 1, 1) := by decide +kernel
theorem dX12_after_50 : decode cX12_after 50 = .ok (.iconst 5, 1) := by decide +kernel
theorem dX12_after_51 : decode cX12_after 51 = .ok (.iload 5, 2) := by decide +kernel
theorem dX12_after_53 : decode cX12_after 53 = .ok (.imul, 1) := by decide +kernel
theorem dX12_after_54 : decode cX12_after 54 = .ok (.aload_n 0, 1) := by decide +kernel
theorem dX12_after_55 : decode cX12_after 55 = .ok (.iload 5, 2) := by decide +kernel
theorem dX12_after_57 : decode cX12_after 57 = .ok (.iload 6, 2) := by decide +kernel
theorem dX12_after_59 : decode cX12_after 59 = .ok (.iload_n 2, 1) := by decide +kernel
theorem dX12_after_60 : decode cX12_after 60 = .ok (.iload_n 3, 1) := by decide +kernel
theorem dX12_after_61 : decode cX12_after 61 = .ok (.invokevirtual 143, 3) := by decide +kernel
theorem dX12_after_64 : decode cX12_after 64 = .ok (.iadd, 1) := by decide +kernel
theorem dX12_after_65 : decode cX12_after 65 = .ok (.ishl, 1) := by decide +kernel
theorem dX12_after_66 : decode cX12_after 66 = .ok (.goto 4, 3) := by decide +kernel
theorem dX12_after_69 : decode cX12_after 69 = .ok (.iconst 0, 1) := by decide +kernel
theorem dX12_after_70 : decode cX12_after 70 = .ok (.ior, 1) := by decide +kernel
theorem dX12_after_71 : decode cX12_after 71 = .ok (.istore 4, 2) := by decide +kernel
theorem dX12_after_73 : decode cX12_after 73 = .ok (.iinc 6 1, 3) := by decide +kernel
theorem dX12_after_76 : decode cX12_after 76 = .ok (.goto (-55), 3) := by decide +kernel
theorem dX12_after_79 : decode cX12_after 79 = .ok (.iinc 5 1, 3) := by decide +kernel
theorem dX12_after_82 : decode cX12_after 82 = .ok (.goto (-76), 3) := by decide +kernel
theorem dX12_after_85 : decode cX12_after 85 = .ok (.iload 4, 2) := by decide +kernel
theorem dX12_after_87 : decode cX12_after 87 = .ok (.ireturn, 1) := by decide +kernel
theorem dX12_comesTo_0 : decode cX12_comesTo 0 = .ok (.ldc 154, 2) := by decide +kernel
theorem dX12_comesTo_2 : decode cX12_comesTo 2 = .ok (.iload_n 1, 1) := by decide +kernel
theorem dX12_comesTo_3 : decode cX12_comesTo 3 = .ok (.imul, 1) := by decide +kernel
theorem dX12_comesTo_4 : decode cX12_comesTo 4 = .ok (.iload_n 2, 1) := by decide +kernel
theorem dX12_comesTo_5 : decode cX12_comesTo 5 = .ok (.iadd, 1) := by decide +kernel
theorem dX12_comesTo_6 : decode cX12_comesTo 6 = .ok (.istore 4, 2) := by decide +kernel
theorem dX12_comesTo_8 : decode cX12_comesTo 8 = .ok (.aload_n 0, 1) := by decide +kernel
theorem dX12_comesTo_9 : decode cX12_comesTo 9 = .ok (.getfield 30, 3) := by decide +kernel
theorem dX12_comesTo_12 : decode cX12_comesTo 12 = .ok (.iload 4, 2) := by decide +kernel
theorem dX12_comesTo_14 : decode cX12_comesTo 14 = .ok (.iaload, 1) := by decide +kernel
theorem dX12_comesTo_15 : decode cX12_comesTo 15 = .ok (.ifCond .ne 43, 3) := by decide +kernel
theorem dX12_comesTo_18 : decode cX12_comesTo 18 = .ok (.aload_n 0, 1) := by decide +kernel
theorem dX12_comesTo_19 : decode cX12_comesTo 19 = .ok (.getfield 33, 3) := by decide +kernel
theorem dX12_comesTo_22 : decode cX12_comesTo 22 = .ok (.ldc 154, 2) := by decide +kernel
theorem dX12_comesTo_24 : decode cX12_comesTo 24 = .ok (.iload_n 1, 1) := by decide +kernel
theorem dX12_comesTo_25 : decode cX12_comesTo 25 = .ok (.imul, 1) := by decide +kernel
theorem dX12_comesTo_26 : decode cX12_comesTo 26 = .ok (.aload_n 0, 1) := by decide +kernel
theorem dX12_comesTo_27 : decode cX12_comesTo 27 = .ok (.getfield 36, 3) := by decide +kernel
theorem dX12_comesTo_30 : decode cX12_comesTo 30 = .ok (.iload_n 1, 1) := by decide +kernel
theorem dX12_comesTo_31 : decode cX12_comesTo 31 = .ok (.iaload, 1) := by decide +kernel
theorem dX12_comesTo_32 : decode cX12_comesTo 32 = .ok (.iadd, 1) := by decide +kernel
theorem dX12_comesTo_33 : decode cX12_comesTo 33 = .ok (.iload_n 2, 1) := by decide +kernel
theorem dX12_comesTo_34 : decode cX12_comesTo 34 = .ok (.iastore, 1) := by decide +kernel
theorem dX12_comesTo_35 : decode cX12_comesTo 35 = .ok (.aload_n 0, 1) := by decide +kernel
theorem dX12_comesTo_36 : decode cX12_comesTo 36 = .ok (.getfield 36, 3) := by decide +kernel
theorem dX12_comesTo_39 : decode cX12_comesTo 39 = .ok (.iload_n 1, 1) := by decide +kernel
theorem dX12_comesTo_40 : decode cX12_comesTo 40 = .ok (.dup2, 1) := by decide +kernel
theorem dX12_comesTo_41 : decode cX12_comesTo 41 = .ok (.iaload, 1) := by decide +kernel
theorem dX12_comesTo_42 : decode cX12_comesTo 42 = .ok (.iconst 1, 1) := by decide +kernel
theorem dX12_comesTo_43 : decode cX12_comesTo 43 = .ok (.iadd, 1) := by decide +kernel
theorem dX12_comesTo_44 : decode cX12_comesTo 44 = .ok (.iastore, 1) := by decide +kernel
theorem dX12_comesTo_45 : decode cX12_comesTo 45 = .ok (.aload_n 0, 1) := by decide +kernel
theorem dX12_comesTo_46 : decode cX12_comesTo 46 = .ok (.getfield 30, 3) := by decide +kernel
theorem dX12_comesTo_49 : decode cX12_comesTo 49 = .ok (.iload 4, 2) := by decide +kernel
theorem dX12_comesTo_51 : decode cX12_comesTo 51 = .ok (.iload_n 3, 1) := by decide +kernel
theorem dX12_comesTo_52 : decode cX12_comesTo 52 = .ok (.iconst 1, 1) := by decide +kernel
theorem dX12_comesTo_53 : decode cX12_comesTo 53 = .ok (.iadd, 1) := by decide +kernel
theorem dX12_comesTo_54 : decode cX12_comesTo 54 = .ok (.iastore, 1) := by decide +kernel
theorem dX12_comesTo_55 : decode cX12_comesTo 55 = .ok (.goto 26, 3) := by decide +kernel
theorem dX12_comesTo_58 : decode cX12_comesTo 58 = .ok (.iload_n 3, 1) := by decide +kernel
theorem dX12_comesTo_59 : decode cX12_comesTo 59 = .ok (.iconst 1, 1) := by decide +kernel
theorem dX12_comesTo_60 : decode cX12_comesTo 60 = .ok (.iadd, 1) := by decide +kernel
theorem dX12_comesTo_61 : decode cX12_comesTo 61 = .ok (.aload_n 0, 1) := by decide +kernel
theorem dX12_comesTo_62 : decode cX12_comesTo 62 = .ok (.getfield 30, 3) := by decide +kernel
theorem dX12_comesTo_65 : decode cX12_comesTo 65 = .ok (.iload 4, 2) := by decide +kernel
theorem dX12_comesTo_67 : decode cX12_comesTo 67 = .ok (.iaload, 1) := by decide +kernel
theorem dX12_comesTo_68 : decode cX12_comesTo 68 = .ok (.if_icmp .ge 13, 3) := by decide +kernel
theorem dX12_comesTo_71 : decode cX12_comesTo 71 = .ok (.aload_n 0, 1) := by decide +kernel
theorem dX12_comesTo_72 : decode cX12_comesTo 72 = .ok (.getfield 30, 3) := by decide +kernel
theorem dX12_comesTo_75 : decode cX12_comesTo 75 = .ok (.iload 4, 2) := by decide +kernel
theorem dX12_comesTo_77 : decode cX12_comesTo 77 = .ok (.iload_n 3, 1) := by decide +kernel
theorem dX12_comesTo_78 : decode cX12_comesTo 78 = .ok (.iconst 1, 1) := by decide +kernel
theorem dX12_comesTo_79 : decode cX12_comesTo 79 = .ok (.iadd, 1) := by decide +kernel
theorem dX12_comesTo_80 : decode cX12_comesTo 80 = .ok (.iastore, 1) := by decide +kernel
theorem dX12_comesTo_81 : decode cX12_comesTo 81 = .ok (.return_, 1) := by decide +kernel
theorem dX12_layer_0 : decode cX12_layer 0 = .ok (.iload_n 1, 1) := by decide +kernel
theorem dX12_layer_1 : decode cX12_layer 1 = .ok (.iconst 2, 1) := by decide +kernel
theorem dX12_layer_2 : decode cX12_layer 2 = .ok (.irem, 1) := by decide +kernel
theorem dX12_layer_3 : decode cX12_layer 3 = .ok (.istore_n 3, 1) := by decide +kernel
theorem dX12_layer_4 : decode cX12_layer 4 = .ok (.iconst 0, 1) := by decide +kernel
theorem dX12_layer_5 : decode cX12_layer 5 = .ok (.istore 4, 2) := by decide +kernel
theorem dX12_layer_7 : decode cX12_layer 7 = .ok (.iload 4, 2) := by decide +kernel
theorem dX12_layer_9 : decode cX12_layer 9 = .ok (.aload_n 0, 1) := by decide +kernel
theorem dX12_layer_10 : decode cX12_layer 10 = .ok (.getfield 36, 3) := by decide +kernel
theorem dX12_layer_13 : decode cX12_layer 13 = .ok (.iload_n 3, 1) := by decide +kernel
theorem dX12_layer_14 : decode cX12_layer 14 = .ok (.iaload, 1) := by decide +kernel
theorem dX12_layer_15 : decode cX12_layer 15 = .ok (.if_icmp .ge 109, 3) := by decide +kernel
theorem dX12_layer_18 : decode cX12_layer 18 = .ok (.aload_n 0, 1) := by decide +kernel
theorem dX12_layer_19 : decode cX12_layer 19 = .ok (.getfield 33, 3) := by decide +kernel
theorem dX12_layer_22 : decode cX12_layer 22 = .ok (.ldc 154, 2) := by decide +kernel
theorem dX12_layer_24 : decode cX12_layer 24 = .ok (.iload_n 3, 1) := by decide +kernel
theorem dX12_layer_25 : decode cX12_layer 25 = .ok (.imul, 1) := by decide +kernel
theorem dX12_layer_26 : decode cX12_layer 26 = .ok (.iload 4, 2) := by decide +kernel
theorem dX12_layer_28 : decode cX12_layer 28 = .ok (.iadd, 1) := by decide +kernel
theorem dX12_layer_29 : decode cX12_layer 29 = .ok (.iaload, 1) := by decide +kernel
theorem dX12_layer_30 : decode cX12_layer 30 = .ok (.istore 5, 2) := by decide +kernel
theorem dX12_layer_32 : decode cX12_layer 32 = .ok (.aload_n 0, 1) := by decide +kernel
theorem dX12_layer_33 : decode cX12_layer 33 = .ok (.getfield 30, 3) := by decide +kernel
theorem dX12_layer_36 : decode cX12_layer 36 = .ok (.ldc 154, 2) := by decide +kernel
theorem dX12_layer_38 : decode cX12_layer 38 = .ok (.iload_n 3, 1) := by decide +kernel
theorem dX12_layer_39 : decode cX12_layer 39 = .ok (.imul, 1) := by decide +kernel
theorem dX12_layer_40 : decode cX12_layer 40 = .ok (.iload 5, 2) := by decide +kernel
theorem dX12_layer_42 : decode cX12_layer 42 = .ok (.iadd, 1) := by decide +kernel
theorem dX12_layer_43 : decode cX12_layer 43 = .ok (.iaload, 1) := by decide +kernel
theorem dX12_layer_44 : decode cX12_layer 44 = .ok (.iconst 1, 1) := by decide +kernel
theorem dX12_layer_45 : decode cX12_layer 45 = .ok (.isub, 1) := by decide +kernel
theorem dX12_layer_46 : decode cX12_layer 46 = .ok (.istore 6, 2) := by decide +kernel
theorem dX12_layer_48 : decode cX12_layer 48 = .ok (.aload_n 0, 1) := by decide +kernel
theorem dX12_layer_49 : decode cX12_layer 49 = .ok (.getfield 30, 3) := by decide +kernel
theorem dX12_layer_52 : decode cX12_layer 52 = .ok (.ldc 154, 2) := by decide +kernel
theorem dX12_layer_54 : decode cX12_layer 54 = .ok (.iload_n 3, 1) := by decide +kernel
theorem dX12_layer_55 : decode cX12_layer 55 = .ok (.imul, 1) := by decide +kernel
theorem dX12_layer_56 : decode cX12_layer 56 = .ok (.iload 5, 2) := by decide +kernel
theorem dX12_layer_58 : decode cX12_layer 58 = .ok (.iadd, 1) := by decide +kernel
theorem dX12_layer_59 : decode cX12_layer 59 = .ok (.iconst 0, 1) := by decide +kernel
theorem dX12_layer_60 : decode cX12_layer 60 = .ok (.iastore, 1) := by decide +kernel
theorem dX12_layer_61 : decode cX12_layer 61 = .ok (.iconst 0, 1) := by decide +kernel
theorem dX12_layer_62 : decode cX12_layer 62 = .ok (.istore 7, 2) := by decide +kernel
theorem dX12_layer_64 : decode cX12_layer 64 = .ok (.iload 7, 2) := by decide +kernel
theorem dX12_layer_66 : decode cX12_layer 66 = .ok (.iconst 2, 1) := by decide +kernel
theorem dX12_layer_67 : decode cX12_layer 67 = .ok (.if_icmp .ge 51, 3) := by decide +kernel
theorem dX12_layer_70 : decode cX12_layer 70 = .ok (.aload_n 0, 1) := by decide +kernel
theorem dX12_layer_71 : decode cX12_layer 71 = .ok (.iconst 1, 1) := by decide +kernel
theorem dX12_layer_72 : decode cX12_layer 72 = .ok (.iload_n 3, 1) := by decide +kernel
theorem dX12_layer_73 : decode cX12_layer 73 = .ok (.isub, 1) := by decide +kernel
theorem dX12_layer_74 : decode cX12_layer 74 = .ok (.aload_n 0, 1) := by decide +kernel
theorem dX12_layer_75 : decode cX12_layer 75 = .ok (.iload 5, 2) := by decide +kernel
theorem dX12_layer_77 : decode cX12_layer 77 = .ok (.iload 7, 2) := by decide +kernel
theorem dX12_layer_79 : decode cX12_layer 79 = .ok (.iload_n 1, 1) := by decide +kernel
theorem dX12_layer_80 : decode cX12_layer 80 = .ok (.invokevirtual 155, 3) := by decide +kernel
theorem dX12_layer_83 : decode cX12_layer 83 = .ok (.iload_n 2, 1) := by decide +kernel
theorem dX12_layer_84 : decode cX12_layer 84 = .ok (.ifCond .eq 18, 3) := by decide +kernel
theorem dX12_layer_87 : decode cX12_layer 87 = .ok (.iload 6, 2) := by decide +kernel
theorem dX12_layer_89 : decode cX12_layer 89 = .ok (.aload_n 0, 1) := by decide +kernel
theorem dX12_layer_90 : decode cX12_layer 90 = .ok (.getfield 7, 3) := by decide +kernel
theorem dX12_layer_93 : decode cX12_layer 93 = .ok (.iconst 4, 1) := by decide +kernel
theorem dX12_layer_94 : decode cX12_layer 94 = .ok (.iload 7, 2) := by decide +kernel
theorem dX12_layer_96 : decode cX12_layer 96 = .ok (.iadd, 1) := by decide +kernel
theorem dX12_layer_97 : decode cX12_layer 97 = .ok (.iaload, 1) := by decide +kernel
theorem dX12_layer_98 : decode cX12_layer 98 = .ok (.iadd, 1) := by decide +kernel
theorem dX12_layer_99 : decode cX12_layer 99 = .ok (.goto 10, 3) := by decide +kernel
theorem dX12_layer_102 : decode cX12_layer 102 = .ok (.iconst 2, 1) := by decide +kernel
theorem dX12_layer_103 : decode cX12_layer 103 = .ok (.iload 6, 2) := by decide +kernel
theorem dX12_layer_105 : decode cX12_layer 105 = .ok (.imul, 1) := by decide +kernel
theorem dX12_layer_106 : decode cX12_layer 106 = .ok (.iload 7, 2) := by decide +kernel
theorem dX12_layer_108 : decode cX12_layer 108 = .ok (.iadd, 1) := by decide +kernel
theorem dX12_layer_109 : decode cX12_layer 109 = .ok (.invokevirtual 159, 3) := by decide +kernel
theorem dX12_layer_112 : decode cX12_layer 112 = .ok (.iinc 7 1, 3) := by decide +kernel
theorem dX12_layer_115 : decode cX12_layer 115 = .ok (.goto (-51), 3) := by decide +kernel
theorem dX12_layer_118 : decode cX12_layer 118 = .ok (.iinc 4 1, 3) := by decide +kernel
theorem dX12_layer_121 : decode cX12_layer 121 = .ok (.goto (-114), 3) := by decide +kernel
theorem dX12_layer_124 : decode cX12_layer 124 = .ok (.aload_n 0, 1) := by decide +kernel
theorem dX12_layer_125 : decode cX12_layer 125 = .ok (.getfield 36, 3) := by decide +kernel
theorem dX12_layer_128 : decode cX12_layer 128 = .ok (.iload_n 3, 1) := by decide +kernel
theorem dX12_layer_129 : decode cX12_layer 129 = .ok (.iconst 0, 1) := by decide +kernel
theorem dX12_layer_130 : decode cX12_layer 130 = .ok (.iastore, 1) := by decide +kernel
theorem dX12_layer_131 : decode cX12_layer 131 = .ok (.return_, 1) := by decide +kernel
theorem dX12_empties_0 : decode cX12_empties 0 = .ok (.iconst 0, 1) := by decide +kernel
theorem dX12_empties_1 : decode cX12_empties 1 = .ok (.istore_n 1, 1) := by decide +kernel
theorem dX12_empties_2 : decode cX12_empties 2 = .ok (.iload_n 1, 1) := by decide +kernel
theorem dX12_empties_3 : decode cX12_empties 3 = .ok (.iconst 2, 1) := by decide +kernel
theorem dX12_empties_4 : decode cX12_empties 4 = .ok (.if_icmp .ge 56, 3) := by decide +kernel
theorem dX12_empties_7 : decode cX12_empties 7 = .ok (.iconst 0, 1) := by decide +kernel
theorem dX12_empties_8 : decode cX12_empties 8 = .ok (.istore_n 2, 1) := by decide +kernel
theorem dX12_empties_9 : decode cX12_empties 9 = .ok (.iload_n 2, 1) := by decide +kernel
theorem dX12_empties_10 : decode cX12_empties 10 = .ok (.aload_n 0, 1) := by decide +kernel
theorem dX12_empties_11 : decode cX12_empties 11 = .ok (.getfield 36, 3) := by decide +kernel
theorem dX12_empties_14 : decode cX12_empties 14 = .ok (.iload_n 1, 1) := by decide +kernel
theorem dX12_empties_15 : decode cX12_empties 15 = .ok (.iaload, 1) := by decide +kernel
theorem dX12_empties_16 : decode cX12_empties 16 = .ok (.if_icmp .ge 31, 3) := by decide +kernel
theorem dX12_empties_19 : decode cX12_empties 19 = .ok (.aload_n 0, 1) := by decide +kernel
theorem dX12_empties_20 : decode cX12_empties 20 = .ok (.getfield 30, 3) := by decide +kernel
theorem dX12_empties_23 : decode cX12_empties 23 = .ok (.ldc 154, 2) := by decide +kernel
theorem dX12_empties_25 : decode cX12_empties 25 = .ok (.iload_n 1, 1) := by decide +kernel
theorem dX12_empties_26 : decode cX12_empties 26 = .ok (.imul, 1) := by decide +kernel
theorem dX12_empties_27 : decode cX12_empties 27 = .ok (.aload_n 0, 1) := by decide +kernel
theorem dX12_empties_28 : decode cX12_empties 28 = .ok (.getfield 33, 3) := by decide +kernel
theorem dX12_empties_31 : decode cX12_empties 31 = .ok (.ldc 154, 2) := by decide +kernel
theorem dX12_empties_33 : decode cX12_empties 33 = .ok (.iload_n 1, 1) := by decide +kernel
theorem dX12_empties_34 : decode cX12_empties 34 = .ok (.imul, 1) := by decide +kernel
theorem dX12_empties_35 : decode cX12_empties 35 = .ok (.iload_n 2, 1) := by decide +kernel
theorem dX12_empties_36 : decode cX12_empties 36 = .ok (.iadd, 1) := by decide +kernel
theorem dX12_empties_37 : decode cX12_empties 37 = .ok (.iaload, 1) := by decide +kernel
theorem dX12_empties_38 : decode cX12_empties 38 = .ok (.iadd, 1) := by decide +kernel
theorem dX12_empties_39 : decode cX12_empties 39 = .ok (.iconst 0, 1) := by decide +kernel
theorem dX12_empties_40 : decode cX12_empties 40 = .ok (.iastore, 1) := by decide +kernel
theorem dX12_empties_41 : decode cX12_empties 41 = .ok (.iinc 2 1, 3) := by decide +kernel
theorem dX12_empties_44 : decode cX12_empties 44 = .ok (.goto (-35), 3) := by decide +kernel
theorem dX12_empties_47 : decode cX12_empties 47 = .ok (.aload_n 0, 1) := by decide +kernel
theorem dX12_empties_48 : decode cX12_empties 48 = .ok (.getfield 36, 3) := by decide +kernel
theorem dX12_empties_51 : decode cX12_empties 51 = .ok (.iload_n 1, 1) := by decide +kernel
theorem dX12_empties_52 : decode cX12_empties 52 = .ok (.iconst 0, 1) := by decide +kernel
theorem dX12_empties_53 : decode cX12_empties 53 = .ok (.iastore, 1) := by decide +kernel
theorem dX12_empties_54 : decode cX12_empties 54 = .ok (.iinc 1 1, 3) := by decide +kernel
theorem dX12_empties_57 : decode cX12_empties 57 = .ok (.goto (-55), 3) := by decide +kernel
theorem dX12_empties_60 : decode cX12_empties 60 = .ok (.return_, 1) := by decide +kernel
theorem dX12_leads_0 : decode cX12_leads 0 = .ok (.aload_n 0, 1) := by decide +kernel
theorem dX12_leads_1 : decode cX12_leads 1 = .ok (.iconst (-1), 1) := by decide +kernel
theorem dX12_leads_2 : decode cX12_leads 2 = .ok (.putfield 163, 3) := by decide +kernel
theorem dX12_leads_5 : decode cX12_leads 5 = .ok (.aload_n 0, 1) := by decide +kernel
theorem dX12_leads_6 : decode cX12_leads 6 = .ok (.iconst 0, 1) := by decide +kernel
theorem dX12_leads_7 : decode cX12_leads 7 = .ok (.iload_n 1, 1) := by decide +kernel
theorem dX12_leads_8 : decode cX12_leads 8 = .ok (.iconst 0, 1) := by decide +kernel
theorem dX12_leads_9 : decode cX12_leads 9 = .ok (.invokevirtual 159, 3) := by decide +kernel
theorem dX12_leads_12 : decode cX12_leads 12 = .ok (.iconst 0, 1) := by decide +kernel
theorem dX12_leads_13 : decode cX12_leads 13 = .ok (.istore 4, 2) := by decide +kernel
theorem dX12_leads_15 : decode cX12_leads 15 = .ok (.iload 4, 2) := by decide +kernel
theorem dX12_leads_17 : decode cX12_leads 17 = .ok (.bipush 20, 2) := by decide +kernel
theorem dX12_leads_19 : decode cX12_leads 19 = .ok (.if_icmp .gt 87, 3) := by decide +kernel
theorem dX12_leads_22 : decode cX12_leads 22 = .ok (.iload_n 3, 1) := by decide +kernel
theorem dX12_leads_23 : decode cX12_leads 23 = .ok (.ifCond .ne 11, 3) := by decide +kernel
theorem dX12_leads_26 : decode cX12_leads 26 = .ok (.aload_n 0, 1) := by decide +kernel
theorem dX12_leads_27 : decode cX12_leads 27 = .ok (.getfield 163, 3) := by decide +kernel
theorem dX12_leads_30 : decode cX12_leads 30 = .ok (.iconst (-1), 1) := by decide +kernel
theorem dX12_leads_31 : decode cX12_leads 31 = .ok (.if_icmp .ne 75, 3) := by decide +kernel
theorem dX12_leads_34 : decode cX12_leads 34 = .ok (.aload_n 0, 1) := by decide +kernel
theorem dX12_leads_35 : decode cX12_leads 35 = .ok (.getfield 30, 3) := by decide +kernel
theorem dX12_leads_38 : decode cX12_leads 38 = .ok (.ldc 154, 2) := by decide +kernel
theorem dX12_leads_40 : decode cX12_leads 40 = .ok (.iload 4, 2) := by decide +kernel
theorem dX12_leads_42 : decode cX12_leads 42 = .ok (.iconst 2, 1) := by decide +kernel
theorem dX12_leads_43 : decode cX12_leads 43 = .ok (.irem, 1) := by decide +kernel
theorem dX12_leads_44 : decode cX12_leads 44 = .ok (.imul, 1) := by decide +kernel
theorem dX12_leads_45 : decode cX12_leads 45 = .ok (.iload_n 2, 1) := by decide +kernel
theorem dX12_leads_46 : decode cX12_leads 46 = .ok (.iadd, 1) := by decide +kernel
theorem dX12_leads_47 : decode cX12_leads 47 = .ok (.iaload, 1) := by decide +kernel
theorem dX12_leads_48 : decode cX12_leads 48 = .ok (.iconst 1, 1) := by decide +kernel
theorem dX12_leads_49 : decode cX12_leads 49 = .ok (.isub, 1) := by decide +kernel
theorem dX12_leads_50 : decode cX12_leads 50 = .ok (.istore 5, 2) := by decide +kernel
theorem dX12_leads_52 : decode cX12_leads 52 = .ok (.iload 5, 2) := by decide +kernel
theorem dX12_leads_54 : decode cX12_leads 54 = .ok (.ifCond .lt 32, 3) := by decide +kernel
theorem dX12_leads_57 : decode cX12_leads 57 = .ok (.aload_n 0, 1) := by decide +kernel
theorem dX12_leads_58 : decode cX12_leads 58 = .ok (.getfield 163, 3) := by decide +kernel
theorem dX12_leads_61 : decode cX12_leads 61 = .ok (.iconst (-1), 1) := by decide +kernel
theorem dX12_leads_62 : decode cX12_leads 62 = .ok (.if_icmp .eq 12, 3) := by decide +kernel
theorem dX12_leads_65 : decode cX12_leads 65 = .ok (.iload 5, 2) := by decide +kernel
theorem dX12_leads_67 : decode cX12_leads 67 = .ok (.aload_n 0, 1) := by decide +kernel
theorem dX12_leads_68 : decode cX12_leads 68 = .ok (.getfield 166, 3) := by decide +kernel
theorem dX12_leads_71 : decode cX12_leads 71 = .ok (.if_icmp .ge 15, 3) := by decide +kernel
theorem dX12_leads_74 : decode cX12_leads 74 = .ok (.aload_n 0, 1) := by decide +kernel
theorem dX12_leads_75 : decode cX12_leads 75 = .ok (.iload 4, 2) := by decide +kernel
theorem dX12_leads_77 : decode cX12_leads 77 = .ok (.putfield 163, 3) := by decide +kernel
theorem dX12_leads_80 : decode cX12_leads 80 = .ok (.aload_n 0, 1) := by decide +kernel
theorem dX12_leads_81 : decode cX12_leads 81 = .ok (.iload 5, 2) := by decide +kernel
theorem dX12_leads_83 : decode cX12_leads 83 = .ok (.putfield 166, 3) := by decide +kernel
theorem dX12_leads_86 : decode cX12_leads 86 = .ok (.iload 4, 2) := by decide +kernel
theorem dX12_leads_88 : decode cX12_leads 88 = .ok (.bipush 20, 2) := by decide +kernel
theorem dX12_leads_90 : decode cX12_leads 90 = .ok (.if_icmp .ge 10, 3) := by decide +kernel
theorem dX12_leads_93 : decode cX12_leads 93 = .ok (.aload_n 0, 1) := by decide +kernel
theorem dX12_leads_94 : decode cX12_leads 94 = .ok (.iload 4, 2) := by decide +kernel
theorem dX12_leads_96 : decode cX12_leads 96 = .ok (.iload_n 3, 1) := by decide +kernel
theorem dX12_leads_97 : decode cX12_leads 97 = .ok (.invokevirtual 169, 3) := by decide +kernel
theorem dX12_leads_100 : decode cX12_leads 100 = .ok (.iinc 4 1, 3) := by decide +kernel
theorem dX12_leads_103 : decode cX12_leads 103 = .ok (.goto (-88), 3) := by decide +kernel
theorem dX12_leads_106 : decode cX12_leads 106 = .ok (.aload_n 0, 1) := by decide +kernel
theorem dX12_leads_107 : decode cX12_leads 107 = .ok (.invokevirtual 173, 3) := by decide +kernel
theorem dX12_leads_110 : decode cX12_leads 110 = .ok (.aload_n 0, 1) := by decide +kernel
theorem dX12_leads_111 : decode cX12_leads 111 = .ok (.getfield 163, 3) := by decide +kernel
theorem dX12_leads_114 : decode cX12_leads 114 = .ok (.iconst (-1), 1) := by decide +kernel
theorem dX12_leads_115 : decode cX12_leads 115 = .ok (.if_icmp .eq 7, 3) := by decide +kernel
theorem dX12_leads_118 : decode cX12_leads 118 = .ok (.iconst 1, 1) := by decide +kernel
theorem dX12_leads_119 : decode cX12_leads 119 = .ok (.goto 4, 3) := by decide +kernel
theorem dX12_leads_122 : decode cX12_leads 122 = .ok (.iconst 0, 1) := by decide +kernel
theorem dX12_leads_123 : decode cX12_leads 123 = .ok (.ireturn, 1) := by decide +kernel
theorem dX12_all_0 : decode cX12_all 0 = .ok (.iconst 0, 1) := by decide +kernel
theorem dX12_all_1 : decode cX12_all 1 = .ok (.istore_n 3, 1) := by decide +kernel
theorem dX12_all_2 : decode cX12_all 2 = .ok (.iconst 0, 1) := by decide +kernel
theorem dX12_all_3 : decode cX12_all 3 = .ok (.istore 4, 2) := by decide +kernel
theorem dX12_all_5 : decode cX12_all 5 = .ok (.iload 4, 2) := by decide +kernel
theorem dX12_all_7 : decode cX12_all 7 = .ok (.aload_n 0, 1) := by decide +kernel
theorem dX12_all_8 : decode cX12_all 8 = .ok (.getfield 7, 3) := by decide +kernel
theorem dX12_all_11 : decode cX12_all 11 = .ok (.bipush 6, 2) := by decide +kernel
theorem dX12_all_13 : decode cX12_all 13 = .ok (.iaload, 1) := by decide +kernel
theorem dX12_all_14 : decode cX12_all 14 = .ok (.if_icmp .ge 32, 3) := by decide +kernel
theorem dX12_all_17 : decode cX12_all 17 = .ok (.iload_n 3, 1) := by decide +kernel
theorem dX12_all_18 : decode cX12_all 18 = .ok (.iload_n 1, 1) := by decide +kernel
theorem dX12_all_19 : decode cX12_all 19 = .ok (.iload 4, 2) := by decide +kernel
theorem dX12_all_21 : decode cX12_all 21 = .ok (.ishr, 1) := by decide +kernel
theorem dX12_all_22 : decode cX12_all 22 = .ok (.iconst 1, 1) := by decide +kernel
theorem dX12_all_23 : decode cX12_all 23 = .ok (.iand, 1) := by decide +kernel
theorem dX12_all_24 : decode cX12_all 24 = .ok (.iconst 1, 1) := by decide +kernel
theorem dX12_all_25 : decode cX12_all 25 = .ok (.if_icmp .ne 12, 3) := by decide +kernel
theorem dX12_all_28 : decode cX12_all 28 = .ok (.iload_n 2, 1) := by decide +kernel
theorem dX12_all_29 : decode cX12_all 29 = .ok (.iconst 5, 1) := by decide +kernel
theorem dX12_all_30 : decode cX12_all 30 = .ok (.iload 4, 2) := by decide +kernel
theorem dX12_all_32 : decode cX12_all 32 = .ok (.imul, 1) := by decide +kernel
theorem dX12_all_33 : decode cX12_all 33 = .ok (.ishl, 1) := by decide +kernel
theorem dX12_all_34 : decode cX12_all 34 = .ok (.goto 4, 3) := by decide +kernel
theorem dX12_all_37 : decode cX12_all 37 = .ok (.iconst 0, 1) := by decide +kernel
theorem dX12_all_38 : decode cX12_all 38 = .ok (.ior, 1) := by decide +kernel
theorem dX12_all_39 : decode cX12_all 39 = .ok (.istore_n 3, 1) := by decide +kernel
theorem dX12_all_40 : decode cX12_all 40 = .ok (.iinc 4 1, 3) := by decide +kernel
theorem dX12_all_43 : decode cX12_all 43 = .ok (.goto (-38), 3) := by decide +kernel
theorem dX12_all_46 : decode cX12_all 46 = .ok (.iload_n 3, 1) := by decide +kernel
theorem dX12_all_47 : decode cX12_all 47 = .ok (.ireturn, 1) := by decide +kernel
theorem dX12_tames_0 : decode cX12_tames 0 = .ok (.aload_n 0, 1) := by decide +kernel
theorem dX12_tames_1 : decode cX12_tames 1 = .ok (.aload_n 0, 1) := by decide +kernel
theorem dX12_tames_2 : decode cX12_tames 2 = .ok (.iload_n 1, 1) := by decide +kernel
theorem dX12_tames_3 : decode cX12_tames 3 = .ok (.iconst 1, 1) := by decide +kernel
theorem dX12_tames_4 : decode cX12_tames 4 = .ok (.aload_n 0, 1) := by decide +kernel
theorem dX12_tames_5 : decode cX12_tames 5 = .ok (.getfield 7, 3) := by decide +kernel
theorem dX12_tames_8 : decode cX12_tames 8 = .ok (.iconst 0, 1) := by decide +kernel
theorem dX12_tames_9 : decode cX12_tames 9 = .ok (.iaload, 1) := by decide +kernel
theorem dX12_tames_10 : decode cX12_tames 10 = .ok (.ishl, 1) := by decide +kernel
theorem dX12_tames_11 : decode cX12_tames 11 = .ok (.iconst 1, 1) := by decide +kernel
theorem dX12_tames_12 : decode cX12_tames 12 = .ok (.isub, 1) := by decide +kernel
theorem dX12_tames_13 : decode cX12_tames 13 = .ok (.invokevirtual 176, 3) := by decide +kernel
theorem dX12_tames_16 : decode cX12_tames 16 = .ok (.aload_n 0, 1) := by decide +kernel
theorem dX12_tames_17 : decode cX12_tames 17 = .ok (.iload_n 1, 1) := by decide +kernel
theorem dX12_tames_18 : decode cX12_tames 18 = .ok (.iconst 1, 1) := by decide +kernel
theorem dX12_tames_19 : decode cX12_tames 19 = .ok (.aload_n 0, 1) := by decide +kernel
theorem dX12_tames_20 : decode cX12_tames 20 = .ok (.getfield 7, 3) := by decide +kernel
theorem dX12_tames_23 : decode cX12_tames 23 = .ok (.iconst 2, 1) := by decide +kernel
theorem dX12_tames_24 : decode cX12_tames 24 = .ok (.iaload, 1) := by decide +kernel
theorem dX12_tames_25 : decode cX12_tames 25 = .ok (.ishl, 1) := by decide +kernel
theorem dX12_tames_26 : decode cX12_tames 26 = .ok (.invokevirtual 176, 3) := by decide +kernel
theorem dX12_tames_29 : decode cX12_tames 29 = .ok (.iload_n 2, 1) := by decide +kernel
theorem dX12_tames_30 : decode cX12_tames 30 = .ok (.invokevirtual 179, 3) := by decide +kernel
theorem dX12_tames_33 : decode cX12_tames 33 = .ok (.ireturn, 1) := by decide +kernel
theorem dX12_tune_0 : decode cX12_tune 0 = .ok (.iconst 0, 1) := by decide +kernel
theorem dX12_tune_1 : decode cX12_tune 1 = .ok (.istore_n 1, 1) := by decide +kernel
theorem dX12_tune_2 : decode cX12_tune 2 = .ok (.iconst 0, 1) := by decide +kernel
theorem dX12_tune_3 : decode cX12_tune 3 = .ok (.istore_n 2, 1) := by decide +kernel
theorem dX12_tune_4 : decode cX12_tune 4 = .ok (.iload_n 2, 1) := by decide +kernel
theorem dX12_tune_5 : decode cX12_tune 5 = .ok (.aload_n 0, 1) := by decide +kernel
theorem dX12_tune_6 : decode cX12_tune 6 = .ok (.getfield 163, 3) := by decide +kernel
theorem dX12_tune_9 : decode cX12_tune 9 = .ok (.if_icmp .ge 22, 3) := by decide +kernel
theorem dX12_tune_12 : decode cX12_tune 12 = .ok (.iconst 2, 1) := by decide +kernel
theorem dX12_tune_13 : decode cX12_tune 13 = .ok (.iload_n 1, 1) := by decide +kernel
theorem dX12_tune_14 : decode cX12_tune 14 = .ok (.imul, 1) := by decide +kernel
theorem dX12_tune_15 : decode cX12_tune 15 = .ok (.aload_n 0, 1) := by decide +kernel
theorem dX12_tune_16 : decode cX12_tune 16 = .ok (.getfield 166, 3) := by decide +kernel
theorem dX12_tune_19 : decode cX12_tune 19 = .ok (.iload_n 2, 1) := by decide +kernel
theorem dX12_tune_20 : decode cX12_tune 20 = .ok (.ishr, 1) := by decide +kernel
theorem dX12_tune_21 : decode cX12_tune 21 = .ok (.iconst 1, 1) := by decide +kernel
theorem dX12_tune_22 : decode cX12_tune 22 = .ok (.iand, 1) := by decide +kernel
theorem dX12_tune_23 : decode cX12_tune 23 = .ok (.iadd, 1) := by decide +kernel
theorem dX12_tune_24 : decode cX12_tune 24 = .ok (.istore_n 1, 1) := by decide +kernel
theorem dX12_tune_25 : decode cX12_tune 25 = .ok (.iinc 2 1, 3) := by decide +kernel
theorem dX12_tune_28 : decode cX12_tune 28 = .ok (.goto (-24), 3) := by decide +kernel
theorem dX12_tune_31 : decode cX12_tune 31 = .ok (.iload_n 1, 1) := by decide +kernel
theorem dX12_tune_32 : decode cX12_tune 32 = .ok (.ireturn, 1) := by decide +kernel
theorem dX12_tame_0 : decode cX12_tame 0 = .ok (.aload_n 0, 1) := by decide +kernel
theorem dX12_tame_1 : decode cX12_tame 1 = .ok (.iload_n 1, 1) := by decide +kernel
theorem dX12_tame_2 : decode cX12_tame 2 = .ok (.invokevirtual 183, 3) := by decide +kernel
theorem dX12_tame_5 : decode cX12_tame 5 = .ok (.ifCond .eq 12, 3) := by decide +kernel
theorem dX12_tame_8 : decode cX12_tame 8 = .ok (.iload_n 2, 1) := by decide +kernel
theorem dX12_tame_9 : decode cX12_tame 9 = .ok (.iconst 0, 1) := by decide +kernel
theorem dX12_tame_10 : decode cX12_tame 10 = .ok (.iconst 1, 1) := by decide +kernel
theorem dX12_tame_11 : decode cX12_tame 11 = .ok (.invokestatic 57, 3) := by decide +kernel
theorem dX12_tame_14 : decode cX12_tame 14 = .ok (.ifCond .ne 11, 3) := by decide +kernel
theorem dX12_tame_17 : decode cX12_tame 17 = .ok (.aload_n 0, 1) := by decide +kernel
theorem dX12_tame_18 : decode cX12_tame 18 = .ok (.iconst 0, 1) := by decide +kernel
theorem dX12_tame_19 : decode cX12_tame 19 = .ok (.bipush (-10), 2) := by decide +kernel
theorem dX12_tame_21 : decode cX12_tame 21 = .ok (.invokevirtual 53, 3) := by decide +kernel
theorem dX12_tame_24 : decode cX12_tame 24 = .ok (.ireturn, 1) := by decide +kernel
theorem dX12_tame_25 : decode cX12_tame 25 = .ok (.aload_n 0, 1) := by decide +kernel
theorem dX12_tame_26 : decode cX12_tame 26 = .ok (.iload_n 1, 1) := by decide +kernel
theorem dX12_tame_27 : decode cX12_tame 27 = .ok (.iconst 0, 1) := by decide +kernel
theorem dX12_tame_28 : decode cX12_tame 28 = .ok (.invokevirtual 186, 3) := by decide +kernel
theorem dX12_tame_31 : decode cX12_tame 31 = .ok (.ifCond .ne 7, 3) := by decide +kernel
theorem dX12_tame_34 : decode cX12_tame 34 = .ok (.iconst (-1), 1) := by decide +kernel
theorem dX12_tame_35 : decode cX12_tame 35 = .ok (.goto 18, 3) := by decide +kernel
theorem dX12_tame_38 : decode cX12_tame 38 = .ok (.iload_n 2, 1) := by decide +kernel
theorem dX12_tame_39 : decode cX12_tame 39 = .ok (.ifCond .ne 10, 3) := by decide +kernel
theorem dX12_tame_42 : decode cX12_tame 42 = .ok (.aload_n 0, 1) := by decide +kernel
theorem dX12_tame_43 : decode cX12_tame 43 = .ok (.getfield 163, 3) := by decide +kernel
theorem dX12_tame_46 : decode cX12_tame 46 = .ok (.goto 7, 3) := by decide +kernel
theorem dX12_tame_49 : decode cX12_tame 49 = .ok (.aload_n 0, 1) := by decide +kernel
theorem dX12_tame_50 : decode cX12_tame 50 = .ok (.invokevirtual 190, 3) := by decide +kernel
theorem dX12_tame_53 : decode cX12_tame 53 = .ok (.ireturn, 1) := by decide +kernel
theorem dX12_quiet_0 : decode cX12_quiet 0 = .ok (.aload_n 0, 1) := by decide +kernel
theorem dX12_quiet_1 : decode cX12_quiet 1 = .ok (.iload_n 1, 1) := by decide +kernel
theorem dX12_quiet_2 : decode cX12_quiet 2 = .ok (.invokevirtual 183, 3) := by decide +kernel
theorem dX12_quiet_5 : decode cX12_quiet 5 = .ok (.ifCond .ne 10, 3) := by decide +kernel
theorem dX12_quiet_8 : decode cX12_quiet 8 = .ok (.aload_n 0, 1) := by decide +kernel
theorem dX12_quiet_9 : decode cX12_quiet 9 = .ok (.invokevirtual 61, 3) := by decide +kernel
theorem dX12_quiet_12 : decode cX12_quiet 12 = .ok (.goto 20, 3) := by decide +kernel
theorem dX12_quiet_15 : decode cX12_quiet 15 = .ok (.aload_n 0, 1) := by decide +kernel
theorem dX12_quiet_16 : decode cX12_quiet 16 = .ok (.iload_n 1, 1) := by decide +kernel
theorem dX12_quiet_17 : decode cX12_quiet 17 = .ok (.iconst 1, 1) := by decide +kernel
theorem dX12_quiet_18 : decode cX12_quiet 18 = .ok (.invokevirtual 186, 3) := by decide +kernel
theorem dX12_quiet_21 : decode cX12_quiet 21 = .ok (.ifCond .eq 10, 3) := by decide +kernel
theorem dX12_quiet_24 : decode cX12_quiet 24 = .ok (.aload_n 0, 1) := by decide +kernel
theorem dX12_quiet_25 : decode cX12_quiet 25 = .ok (.getfield 166, 3) := by decide +kernel
theorem dX12_quiet_28 : decode cX12_quiet 28 = .ok (.goto 4, 3) := by decide +kernel
theorem dX12_quiet_31 : decode cX12_quiet 31 = .ok (.iconst (-1), 1) := by decide +kernel
theorem dX12_quiet_32 : decode cX12_quiet 32 = .ok (.ireturn, 1) := by decide +kernel
theorem dX12_shuts_0 : decode cX12_shuts 0 = .ok (.aload_n 0, 1) := by decide +kernel
theorem dX12_shuts_1 : decode cX12_shuts 1 = .ok (.iload_n 1, 1) := by decide +kernel
theorem dX12_shuts_2 : decode cX12_shuts 2 = .ok (.invokevirtual 183, 3) := by decide +kernel
theorem dX12_shuts_5 : decode cX12_shuts 5 = .ok (.ifCond .ne 8, 3) := by decide +kernel
theorem dX12_shuts_8 : decode cX12_shuts 8 = .ok (.aload_n 0, 1) := by decide +kernel
theorem dX12_shuts_9 : decode cX12_shuts 9 = .ok (.invokevirtual 61, 3) := by decide +kernel
theorem dX12_shuts_12 : decode cX12_shuts 12 = .ok (.ireturn, 1) := by decide +kernel
theorem dX12_shuts_13 : decode cX12_shuts 13 = .ok (.aload_n 0, 1) := by decide +kernel
theorem dX12_shuts_14 : decode cX12_shuts 14 = .ok (.getfield 7, 3) := by decide +kernel
theorem dX12_shuts_17 : decode cX12_shuts 17 = .ok (.iconst 1, 1) := by decide +kernel
theorem dX12_shuts_18 : decode cX12_shuts 18 = .ok (.iaload, 1) := by decide +kernel
theorem dX12_shuts_19 : decode cX12_shuts 19 = .ok (.istore_n 2, 1) := by decide +kernel
theorem dX12_shuts_20 : decode cX12_shuts 20 = .ok (.iconst (-1), 1) := by decide +kernel
theorem dX12_shuts_21 : decode cX12_shuts 21 = .ok (.istore_n 3, 1) := by decide +kernel
theorem dX12_shuts_22 : decode cX12_shuts 22 = .ok (.iconst 0, 1) := by decide +kernel
theorem dX12_shuts_23 : decode cX12_shuts 23 = .ok (.istore 4, 2) := by decide +kernel
theorem dX12_shuts_25 : decode cX12_shuts 25 = .ok (.iload 4, 2) := by decide +kernel
theorem dX12_shuts_27 : decode cX12_shuts 27 = .ok (.aload_n 0, 1) := by decide +kernel
theorem dX12_shuts_28 : decode cX12_shuts 28 = .ok (.getfield 7, 3) := by decide +kernel
theorem dX12_shuts_31 : decode cX12_shuts 31 = .ok (.iconst 0, 1) := by decide +kernel
theorem dX12_shuts_32 : decode cX12_shuts 32 = .ok (.iaload, 1) := by decide +kernel
theorem dX12_shuts_33 : decode cX12_shuts 33 = .ok (.if_icmp .ge 89, 3) := by decide +kernel
theorem dX12_shuts_36 : decode cX12_shuts 36 = .ok (.iload_n 3, 1) := by decide +kernel
theorem dX12_shuts_37 : decode cX12_shuts 37 = .ok (.iconst (-1), 1) := by decide +kernel
theorem dX12_shuts_38 : decode cX12_shuts 38 = .ok (.if_icmp .ne 84, 3) := by decide +kernel
theorem dX12_shuts_41 : decode cX12_shuts 41 = .ok (.iconst 0, 1) := by decide +kernel
theorem dX12_shuts_42 : decode cX12_shuts 42 = .ok (.istore 5, 2) := by decide +kernel
theorem dX12_shuts_44 : decode cX12_shuts 44 = .ok (.iload 5, 2) := by decide +kernel
theorem dX12_shuts_46 : decode cX12_shuts 46 = .ok (.iconst 1, 1) := by decide +kernel
theorem dX12_shuts_47 : decode cX12_shuts 47 = .ok (.aload_n 0, 1) := by decide +kernel
theorem dX12_shuts_48 : decode cX12_shuts 48 = .ok (.getfield 7, 3) := by decide +kernel
theorem dX12_shuts_51 : decode cX12_shuts 51 = .ok (.iconst 0, 1) := by decide +kernel
theorem dX12_shuts_52 : decode cX12_shuts 52 = .ok (.iaload, 1) := by decide +kernel
theorem dX12_shuts_53 : decode cX12_shuts 53 = .ok (.ishl, 1) := by decide +kernel
theorem dX12_shuts_54 : decode cX12_shuts 54 = .ok (.if_icmp .ge 62, 3) := by decide +kernel
theorem dX12_shuts_57 : decode cX12_shuts 57 = .ok (.iload_n 3, 1) := by decide +kernel
theorem dX12_shuts_58 : decode cX12_shuts 58 = .ok (.iconst (-1), 1) := by decide +kernel
theorem dX12_shuts_59 : decode cX12_shuts 59 = .ok (.if_icmp .ne 57, 3) := by decide +kernel
theorem dX12_shuts_62 : decode cX12_shuts 62 = .ok (.iload 5, 2) := by decide +kernel
theorem dX12_shuts_64 : decode cX12_shuts 64 = .ok (.invokestatic 193, 3) := by decide +kernel
theorem dX12_shuts_67 : decode cX12_shuts 67 = .ok (.iload 4, 2) := by decide +kernel
theorem dX12_shuts_69 : decode cX12_shuts 69 = .ok (.if_icmp .ne 41, 3) := by decide +kernel
theorem dX12_shuts_72 : decode cX12_shuts 72 = .ok (.iload 5, 2) := by decide +kernel
theorem dX12_shuts_74 : decode cX12_shuts 74 = .ok (.aload_n 0, 1) := by decide +kernel
theorem dX12_shuts_75 : decode cX12_shuts 75 = .ok (.getfield 7, 3) := by decide +kernel
theorem dX12_shuts_78 : decode cX12_shuts 78 = .ok (.iconst 2, 1) := by decide +kernel
theorem dX12_shuts_79 : decode cX12_shuts 79 = .ok (.iaload, 1) := by decide +kernel
theorem dX12_shuts_80 : decode cX12_shuts 80 = .ok (.ishr, 1) := by decide +kernel
theorem dX12_shuts_81 : decode cX12_shuts 81 = .ok (.iconst 1, 1) := by decide +kernel
theorem dX12_shuts_82 : decode cX12_shuts 82 = .ok (.iand, 1) := by decide +kernel
theorem dX12_shuts_83 : decode cX12_shuts 83 = .ok (.ifCond .ne 27, 3) := by decide +kernel
theorem dX12_shuts_86 : decode cX12_shuts 86 = .ok (.aload_n 0, 1) := by decide +kernel
theorem dX12_shuts_87 : decode cX12_shuts 87 = .ok (.getfield 7, 3) := by decide +kernel
theorem dX12_shuts_90 : decode cX12_shuts 90 = .ok (.iconst 1, 1) := by decide +kernel
theorem dX12_shuts_91 : decode cX12_shuts 91 = .ok (.iload 5, 2) := by decide +kernel
theorem dX12_shuts_93 : decode cX12_shuts 93 = .ok (.iastore, 1) := by decide +kernel
theorem dX12_shuts_94 : decode cX12_shuts 94 = .ok (.aload_n 0, 1) := by decide +kernel
theorem dX12_shuts_95 : decode cX12_shuts 95 = .ok (.iload_n 1, 1) := by decide +kernel
theorem dX12_shuts_96 : decode cX12_shuts 96 = .ok (.iconst 0, 1) := by decide +kernel
theorem dX12_shuts_97 : decode cX12_shuts 97 = .ok (.invokevirtual 186, 3) := by decide +kernel
theorem dX12_shuts_100 : decode cX12_shuts 100 = .ok (.ifCond .eq 8, 3) := by decide +kernel
theorem dX12_shuts_103 : decode cX12_shuts 103 = .ok (.iload 5, 2) := by decide +kernel
theorem dX12_shuts_105 : decode cX12_shuts 105 = .ok (.goto 4, 3) := by decide +kernel
theorem dX12_shuts_108 : decode cX12_shuts 108 = .ok (.iconst (-1), 1) := by decide +kernel
theorem dX12_shuts_109 : decode cX12_shuts 109 = .ok (.istore_n 3, 1) := by decide +kernel
theorem dX12_shuts_110 : decode cX12_shuts 110 = .ok (.iinc 5 1, 3) := by decide +kernel
theorem dX12_shuts_113 : decode cX12_shuts 113 = .ok (.goto (-69), 3) := by decide +kernel
theorem dX12_shuts_116 : decode cX12_shuts 116 = .ok (.iinc 4 1, 3) := by decide +kernel
theorem dX12_shuts_119 : decode cX12_shuts 119 = .ok (.goto (-94), 3) := by decide +kernel
theorem dX12_shuts_122 : decode cX12_shuts 122 = .ok (.aload_n 0, 1) := by decide +kernel
theorem dX12_shuts_123 : decode cX12_shuts 123 = .ok (.getfield 7, 3) := by decide +kernel
theorem dX12_shuts_126 : decode cX12_shuts 126 = .ok (.iconst 1, 1) := by decide +kernel
theorem dX12_shuts_127 : decode cX12_shuts 127 = .ok (.iload_n 2, 1) := by decide +kernel
theorem dX12_shuts_128 : decode cX12_shuts 128 = .ok (.iastore, 1) := by decide +kernel
theorem dX12_shuts_129 : decode cX12_shuts 129 = .ok (.iload_n 3, 1) := by decide +kernel
theorem dX12_shuts_130 : decode cX12_shuts 130 = .ok (.ireturn, 1) := by decide +kernel
theorem dX12_neighbour_0 : decode cX12_neighbour 0 = .ok (.aload_n 0, 1) := by decide +kernel
theorem dX12_neighbour_1 : decode cX12_neighbour 1 = .ok (.iload_n 1, 1) := by decide +kernel
theorem dX12_neighbour_2 : decode cX12_neighbour 2 = .ok (.invokevirtual 183, 3) := by decide +kernel
theorem dX12_neighbour_5 : decode cX12_neighbour 5 = .ok (.ifCond .eq 38, 3) := by decide +kernel
theorem dX12_neighbour_8 : decode cX12_neighbour 8 = .ok (.aload_n 0, 1) := by decide +kernel
theorem dX12_neighbour_9 : decode cX12_neighbour 9 = .ok (.iload_n 2, 1) := by decide +kernel
theorem dX12_neighbour_10 : decode cX12_neighbour 10 = .ok (.invokevirtual 140, 3) := by decide +kernel
theorem dX12_neighbour_13 : decode cX12_neighbour 13 = .ok (.ifCond .eq 30, 3) := by decide +kernel
theorem dX12_neighbour_16 : decode cX12_neighbour 16 = .ok (.aload_n 0, 1) := by decide +kernel
theorem dX12_neighbour_17 : decode cX12_neighbour 17 = .ok (.iload_n 3, 1) := by decide +kernel
theorem dX12_neighbour_18 : decode cX12_neighbour 18 = .ok (.invokevirtual 73, 3) := by decide +kernel
theorem dX12_neighbour_21 : decode cX12_neighbour 21 = .ok (.ifCond .eq 22, 3) := by decide +kernel
theorem dX12_neighbour_24 : decode cX12_neighbour 24 = .ok (.iload 4, 2) := by decide +kernel
theorem dX12_neighbour_26 : decode cX12_neighbour 26 = .ok (.iconst 0, 1) := by decide +kernel
theorem dX12_neighbour_27 : decode cX12_neighbour 27 = .ok (.iconst 1, 1) := by decide +kernel
theorem dX12_neighbour_28 : decode cX12_neighbour 28 = .ok (.invokestatic 57, 3) := by decide +kernel
theorem dX12_neighbour_31 : decode cX12_neighbour 31 = .ok (.ifCond .eq 12, 3) := by decide +kernel
theorem dX12_neighbour_34 : decode cX12_neighbour 34 = .ok (.iload_n 1, 1) := by decide +kernel
theorem dX12_neighbour_35 : decode cX12_neighbour 35 = .ok (.iload_n 2, 1) := by decide +kernel
theorem dX12_neighbour_36 : decode cX12_neighbour 36 = .ok (.ishr, 1) := by decide +kernel
theorem dX12_neighbour_37 : decode cX12_neighbour 37 = .ok (.iconst 1, 1) := by decide +kernel
theorem dX12_neighbour_38 : decode cX12_neighbour 38 = .ok (.iand, 1) := by decide +kernel
theorem dX12_neighbour_39 : decode cX12_neighbour 39 = .ok (.iconst 1, 1) := by decide +kernel
theorem dX12_neighbour_40 : decode cX12_neighbour 40 = .ok (.if_icmp .ne 11, 3) := by decide +kernel
theorem dX12_neighbour_43 : decode cX12_neighbour 43 = .ok (.aload_n 0, 1) := by decide +kernel
theorem dX12_neighbour_44 : decode cX12_neighbour 44 = .ok (.iconst 0, 1) := by decide +kernel
theorem dX12_neighbour_45 : decode cX12_neighbour 45 = .ok (.bipush (-10), 2) := by decide +kernel
theorem dX12_neighbour_47 : decode cX12_neighbour 47 = .ok (.invokevirtual 53, 3) := by decide +kernel
theorem dX12_neighbour_50 : decode cX12_neighbour 50 = .ok (.ireturn, 1) := by decide +kernel
theorem dX12_neighbour_51 : decode cX12_neighbour 51 = .ok (.iconst 1, 1) := by decide +kernel
theorem dX12_neighbour_52 : decode cX12_neighbour 52 = .ok (.iconst 5, 1) := by decide +kernel
theorem dX12_neighbour_53 : decode cX12_neighbour 53 = .ok (.iload_n 2, 1) := by decide +kernel
theorem dX12_neighbour_54 : decode cX12_neighbour 54 = .ok (.imul, 1) := by decide +kernel
theorem dX12_neighbour_55 : decode cX12_neighbour 55 = .ok (.iload_n 3, 1) := by decide +kernel
theorem dX12_neighbour_56 : decode cX12_neighbour 56 = .ok (.iadd, 1) := by decide +kernel
theorem dX12_neighbour_57 : decode cX12_neighbour 57 = .ok (.ishl, 1) := by decide +kernel
theorem dX12_neighbour_58 : decode cX12_neighbour 58 = .ok (.istore 5, 2) := by decide +kernel
theorem dX12_neighbour_60 : decode cX12_neighbour 60 = .ok (.aload_n 0, 1) := by decide +kernel
theorem dX12_neighbour_61 : decode cX12_neighbour 61 = .ok (.iload_n 1, 1) := by decide +kernel
theorem dX12_neighbour_62 : decode cX12_neighbour 62 = .ok (.iconst 1, 1) := by decide +kernel
theorem dX12_neighbour_63 : decode cX12_neighbour 63 = .ok (.aload_n 0, 1) := by decide +kernel
theorem dX12_neighbour_64 : decode cX12_neighbour 64 = .ok (.getfield 7, 3) := by decide +kernel
theorem dX12_neighbour_67 : decode cX12_neighbour 67 = .ok (.iconst 0, 1) := by decide +kernel
theorem dX12_neighbour_68 : decode cX12_neighbour 68 = .ok (.iaload, 1) := by decide +kernel
theorem dX12_neighbour_69 : decode cX12_neighbour 69 = .ok (.ishl, 1) := by decide +kernel
theorem dX12_neighbour_70 : decode cX12_neighbour 70 = .ok (.iconst 1, 1) := by decide +kernel
theorem dX12_neighbour_71 : decode cX12_neighbour 71 = .ok (.isub, 1) := by decide +kernel
theorem dX12_neighbour_72 : decode cX12_neighbour 72 = .ok (.invokevirtual 176, 3) := by decide +kernel
theorem dX12_neighbour_75 : decode cX12_neighbour 75 = .ok (.iload 5, 2) := by decide +kernel
theorem dX12_neighbour_77 : decode cX12_neighbour 77 = .ok (.ior, 1) := by decide +kernel
theorem dX12_neighbour_78 : decode cX12_neighbour 78 = .ok (.istore 6, 2) := by decide +kernel
theorem dX12_neighbour_80 : decode cX12_neighbour 80 = .ok (.aload_n 0, 1) := by decide +kernel
theorem dX12_neighbour_81 : decode cX12_neighbour 81 = .ok (.iload_n 1, 1) := by decide +kernel
theorem dX12_neighbour_82 : decode cX12_neighbour 82 = .ok (.iconst 1, 1) := by decide +kernel
theorem dX12_neighbour_83 : decode cX12_neighbour 83 = .ok (.aload_n 0, 1) := by decide +kernel
theorem dX12_neighbour_84 : decode cX12_neighbour 84 = .ok (.getfield 7, 3) := by decide +kernel
theorem dX12_neighbour_87 : decode cX12_neighbour 87 = .ok (.iconst 2, 1) := by decide +kernel
theorem dX12_neighbour_88 : decode cX12_neighbour 88 = .ok (.iaload, 1) := by decide +kernel
theorem dX12_neighbour_89 : decode cX12_neighbour 89 = .ok (.ishl, 1) := by decide +kernel
theorem dX12_neighbour_90 : decode cX12_neighbour 90 = .ok (.invokevirtual 176, 3) := by decide +kernel
theorem dX12_neighbour_93 : decode cX12_neighbour 93 = .ok (.iload 5, 2) := by decide +kernel
theorem dX12_neighbour_95 : decode cX12_neighbour 95 = .ok (.ior, 1) := by decide +kernel
theorem dX12_neighbour_96 : decode cX12_neighbour 96 = .ok (.istore 7, 2) := by decide +kernel
theorem dX12_neighbour_98 : decode cX12_neighbour 98 = .ok (.aload_n 0, 1) := by decide +kernel
theorem dX12_neighbour_99 : decode cX12_neighbour 99 = .ok (.iload 6, 2) := by decide +kernel
theorem dX12_neighbour_101 : decode cX12_neighbour 101 = .ok (.iload 7, 2) := by decide +kernel
theorem dX12_neighbour_103 : decode cX12_neighbour 103 = .ok (.iconst 0, 1) := by decide +kernel
theorem dX12_neighbour_104 : decode cX12_neighbour 104 = .ok (.invokevirtual 179, 3) := by decide +kernel
theorem dX12_neighbour_107 : decode cX12_neighbour 107 = .ok (.ifCond .ne 7, 3) := by decide +kernel
theorem dX12_neighbour_110 : decode cX12_neighbour 110 = .ok (.iconst (-1), 1) := by decide +kernel
theorem dX12_neighbour_111 : decode cX12_neighbour 111 = .ok (.goto 19, 3) := by decide +kernel
theorem dX12_neighbour_114 : decode cX12_neighbour 114 = .ok (.iload 4, 2) := by decide +kernel
theorem dX12_neighbour_116 : decode cX12_neighbour 116 = .ok (.ifCond .ne 10, 3) := by decide +kernel
theorem dX12_neighbour_119 : decode cX12_neighbour 119 = .ok (.aload_n 0, 1) := by decide +kernel
theorem dX12_neighbour_120 : decode cX12_neighbour 120 = .ok (.getfield 163, 3) := by decide +kernel
theorem dX12_neighbour_123 : decode cX12_neighbour 123 = .ok (.goto 7, 3) := by decide +kernel
theorem dX12_neighbour_126 : decode cX12_neighbour 126 = .ok (.aload_n 0, 1) := by decide +kernel
theorem dX12_neighbour_127 : decode cX12_neighbour 127 = .ok (.invokevirtual 190, 3) := by decide +kernel
theorem dX12_neighbour_130 : decode cX12_neighbour 130 = .ok (.ireturn, 1) := by decide +kernel
theorem dX12_bits_0 : decode cX12_bits 0 = .ok (.iconst 0, 1) := by decide +kernel
theorem dX12_bits_1 : decode cX12_bits 1 = .ok (.istore_n 1, 1) := by decide +kernel
theorem dX12_bits_2 : decode cX12_bits 2 = .ok (.iconst 0, 1) := by decide +kernel
theorem dX12_bits_3 : decode cX12_bits 3 = .ok (.istore_n 2, 1) := by decide +kernel
theorem dX12_bits_4 : decode cX12_bits 4 = .ok (.iload_n 2, 1) := by decide +kernel
theorem dX12_bits_5 : decode cX12_bits 5 = .ok (.iconst 5, 1) := by decide +kernel
theorem dX12_bits_6 : decode cX12_bits 6 = .ok (.if_icmp .ge 17, 3) := by decide +kernel
theorem dX12_bits_9 : decode cX12_bits 9 = .ok (.iload_n 1, 1) := by decide +kernel
theorem dX12_bits_10 : decode cX12_bits 10 = .ok (.iload_n 0, 1) := by decide +kernel
theorem dX12_bits_11 : decode cX12_bits 11 = .ok (.iload_n 2, 1) := by decide +kernel
theorem dX12_bits_12 : decode cX12_bits 12 = .ok (.ishr, 1) := by decide +kernel
theorem dX12_bits_13 : decode cX12_bits 13 = .ok (.iconst 1, 1) := by decide +kernel
theorem dX12_bits_14 : decode cX12_bits 14 = .ok (.iand, 1) := by decide +kernel
theorem dX12_bits_15 : decode cX12_bits 15 = .ok (.iadd, 1) := by decide +kernel
theorem dX12_bits_16 : decode cX12_bits 16 = .ok (.istore_n 1, 1) := by decide +kernel
theorem dX12_bits_17 : decode cX12_bits 17 = .ok (.iinc 2 1, 3) := by decide +kernel
theorem dX12_bits_20 : decode cX12_bits 20 = .ok (.goto (-16), 3) := by decide +kernel
theorem dX12_bits_23 : decode cX12_bits 23 = .ok (.iload_n 1, 1) := by decide +kernel
theorem dX12_bits_24 : decode cX12_bits 24 = .ok (.ireturn, 1) := by decide +kernel
theorem dX12_apart_0 : decode cX12_apart 0 = .ok (.aload_n 0, 1) := by decide +kernel
theorem dX12_apart_1 : decode cX12_apart 1 = .ok (.iload_n 1, 1) := by decide +kernel
theorem dX12_apart_2 : decode cX12_apart 2 = .ok (.invokevirtual 140, 3) := by decide +kernel
theorem dX12_apart_5 : decode cX12_apart 5 = .ok (.ifCond .ne 8, 3) := by decide +kernel
theorem dX12_apart_8 : decode cX12_apart 8 = .ok (.aload_n 0, 1) := by decide +kernel
theorem dX12_apart_9 : decode cX12_apart 9 = .ok (.invokevirtual 61, 3) := by decide +kernel
theorem dX12_apart_12 : decode cX12_apart 12 = .ok (.ireturn, 1) := by decide +kernel
theorem dX12_apart_13 : decode cX12_apart 13 = .ok (.aload_n 0, 1) := by decide +kernel
theorem dX12_apart_14 : decode cX12_apart 14 = .ok (.getfield 7, 3) := by decide +kernel
theorem dX12_apart_17 : decode cX12_apart 17 = .ok (.iconst 0, 1) := by decide +kernel
theorem dX12_apart_18 : decode cX12_apart 18 = .ok (.iaload, 1) := by decide +kernel
theorem dX12_apart_19 : decode cX12_apart 19 = .ok (.istore_n 2, 1) := by decide +kernel
theorem dX12_apart_20 : decode cX12_apart 20 = .ok (.iconst 0, 1) := by decide +kernel
theorem dX12_apart_21 : decode cX12_apart 21 = .ok (.istore_n 3, 1) := by decide +kernel
theorem dX12_apart_22 : decode cX12_apart 22 = .ok (.iload_n 3, 1) := by decide +kernel
theorem dX12_apart_23 : decode cX12_apart 23 = .ok (.bipush 125, 2) := by decide +kernel
theorem dX12_apart_25 : decode cX12_apart 25 = .ok (.if_icmp .ge 32, 3) := by decide +kernel
theorem dX12_apart_28 : decode cX12_apart 28 = .ok (.aload_n 0, 1) := by decide +kernel
theorem dX12_apart_29 : decode cX12_apart 29 = .ok (.getfield 39, 3) := by decide +kernel
theorem dX12_apart_32 : decode cX12_apart 32 = .ok (.iload_n 3, 1) := by decide +kernel
theorem dX12_apart_33 : decode cX12_apart 33 = .ok (.iload_n 3, 1) := by decide +kernel
theorem dX12_apart_34 : decode cX12_apart 34 = .ok (.bipush 25, 2) := by decide +kernel
theorem dX12_apart_36 : decode cX12_apart 36 = .ok (.irem, 1) := by decide +kernel
theorem dX12_apart_37 : decode cX12_apart 37 = .ok (.iconst 5, 1) := by decide +kernel
theorem dX12_apart_38 : decode cX12_apart 38 = .ok (.idiv, 1) := by decide +kernel
theorem dX12_apart_39 : decode cX12_apart 39 = .ok (.iload_n 3, 1) := by decide +kernel
theorem dX12_apart_40 : decode cX12_apart 40 = .ok (.iconst 5, 1) := by decide +kernel
theorem dX12_apart_41 : decode cX12_apart 41 = .ok (.irem, 1) := by decide +kernel
theorem dX12_apart_42 : decode cX12_apart 42 = .ok (.if_icmp .ne 7, 3) := by decide +kernel
theorem dX12_apart_45 : decode cX12_apart 45 = .ok (.iconst 1, 1) := by decide +kernel
theorem dX12_apart_46 : decode cX12_apart 46 = .ok (.goto 4, 3) := by decide +kernel
theorem dX12_apart_49 : decode cX12_apart 49 = .ok (.iconst 0, 1) := by decide +kernel
theorem dX12_apart_50 : decode cX12_apart 50 = .ok (.bastore, 1) := by decide +kernel
theorem dX12_apart_51 : decode cX12_apart 51 = .ok (.iinc 3 1, 3) := by decide +kernel
theorem dX12_apart_54 : decode cX12_apart 54 = .ok (.goto (-32), 3) := by decide +kernel
theorem dX12_apart_57 : decode cX12_apart 57 = .ok (.iconst 1, 1) := by decide +kernel
theorem dX12_apart_58 : decode cX12_apart 58 = .ok (.istore_n 3, 1) := by decide +kernel
theorem dX12_apart_59 : decode cX12_apart 59 = .ok (.iload_n 3, 1) := by decide +kernel
theorem dX12_apart_60 : decode cX12_apart 60 = .ok (.ifCond .eq 215, 3) := by decide +kernel
theorem dX12_apart_63 : decode cX12_apart 63 = .ok (.iconst 0, 1) := by decide +kernel
theorem dX12_apart_64 : decode cX12_apart 64 = .ok (.istore_n 3, 1) := by decide +kernel
theorem dX12_apart_65 : decode cX12_apart 65 = .ok (.iconst 4, 1) := by decide +kernel
theorem dX12_apart_66 : decode cX12_apart 66 = .ok (.istore 4, 2) := by decide +kernel
theorem dX12_apart_68 : decode cX12_apart 68 = .ok (.iload 4, 2) := by decide +kernel
theorem dX12_apart_70 : decode cX12_apart 70 = .ok (.ifCond .lt 202, 3) := by decide +kernel
theorem dX12_apart_73 : decode cX12_apart 73 = .ok (.iload 4, 2) := by decide +kernel
theorem dX12_apart_75 : decode cX12_apart 75 = .ok (.iconst 4, 1) := by decide +kernel
theorem dX12_apart_76 : decode cX12_apart 76 = .ok (.if_icmp .ne 7, 3) := by decide +kernel
theorem dX12_apart_79 : decode cX12_apart 79 = .ok (.iconst 3, 1) := by decide +kernel
theorem dX12_apart_80 : decode cX12_apart 80 = .ok (.goto 7, 3) := by decide +kernel
theorem dX12_apart_83 : decode cX12_apart 83 = .ok (.iload 4, 2) := by decide +kernel
theorem dX12_apart_85 : decode cX12_apart 85 = .ok (.iconst 1, 1) := by decide +kernel
theorem dX12_apart_86 : decode cX12_apart 86 = .ok (.iadd, 1) := by decide +kernel
theorem dX12_apart_87 : decode cX12_apart 87 = .ok (.istore 5, 2) := by decide +kernel
theorem dX12_apart_89 : decode cX12_apart 89 = .ok (.iconst 0, 1) := by decide +kernel
theorem dX12_apart_90 : decode cX12_apart 90 = .ok (.istore 6, 2) := by decide +kernel
theorem dX12_apart_92 : decode cX12_apart 92 = .ok (.iload 6, 2) := by decide +kernel
theorem dX12_apart_94 : decode cX12_apart 94 = .ok (.iload_n 2, 1) := by decide +kernel
theorem dX12_apart_95 : decode cX12_apart 95 = .ok (.iload_n 2, 1) := by decide +kernel
theorem dX12_apart_96 : decode cX12_apart 96 = .ok (.imul, 1) := by decide +kernel
theorem dX12_apart_97 : decode cX12_apart 97 = .ok (.if_icmp .ge 169, 3) := by decide +kernel
theorem dX12_apart_100 : decode cX12_apart 100 = .ok (.iload 6, 2) := by decide +kernel
theorem dX12_apart_102 : decode cX12_apart 102 = .ok (.iload_n 2, 1) := by decide +kernel
theorem dX12_apart_103 : decode cX12_apart 103 = .ok (.idiv, 1) := by decide +kernel
theorem dX12_apart_104 : decode cX12_apart 104 = .ok (.istore 7, 2) := by decide +kernel
theorem dX12_apart_106 : decode cX12_apart 106 = .ok (.iload 6, 2) := by decide +kernel
theorem dX12_apart_108 : decode cX12_apart 108 = .ok (.iload_n 2, 1) := by decide +kernel
theorem dX12_apart_109 : decode cX12_apart 109 = .ok (.irem, 1) := by decide +kernel
theorem dX12_apart_110 : decode cX12_apart 110 = .ok (.istore 8, 2) := by decide +kernel
theorem dX12_apart_112 : decode cX12_apart 112 = .ok (.bipush 25, 2) := by decide +kernel
theorem dX12_apart_114 : decode cX12_apart 114 = .ok (.iload 4, 2) := by decide +kernel
theorem dX12_apart_116 : decode cX12_apart 116 = .ok (.imul, 1) := by decide +kernel
theorem dX12_apart_117 : decode cX12_apart 117 = .ok (.iconst 5, 1) := by decide +kernel
theorem dX12_apart_118 : decode cX12_apart 118 = .ok (.iload 7, 2) := by decide +kernel
theorem dX12_apart_120 : decode cX12_apart 120 = .ok (.imul, 1) := by decide +kernel
theorem dX12_apart_121 : decode cX12_apart 121 = .ok (.iadd, 1) := by decide +kernel
theorem dX12_apart_122 : decode cX12_apart 122 = .ok (.iload 8, 2) := by decide +kernel
theorem dX12_apart_124 : decode cX12_apart 124 = .ok (.iadd, 1) := by decide +kernel
theorem dX12_apart_125 : decode cX12_apart 125 = .ok (.istore 9, 2) := by decide +kernel
theorem dX12_apart_127 : decode cX12_apart 127 = .ok (.aload_n 0, 1) := by decide +kernel
theorem dX12_apart_128 : decode cX12_apart 128 = .ok (.getfield 39, 3) := by decide +kernel
theorem dX12_apart_131 : decode cX12_apart 131 = .ok (.bipush 25, 2) := by decide +kernel
theorem dX12_apart_133 : decode cX12_apart 133 = .ok (.iload 5, 2) := by decide +kernel
theorem dX12_apart_135 : decode cX12_apart 135 = .ok (.imul, 1) := by decide +kernel
theorem dX12_apart_136 : decode cX12_apart 136 = .ok (.iconst 5, 1) := by decide +kernel
theorem dX12_apart_137 : decode cX12_apart 137 = .ok (.aload_n 0, 1) := by decide +kernel
theorem dX12_apart_138 : decode cX12_apart 138 = .ok (.iload_n 1, 1) := by decide +kernel
theorem dX12_apart_139 : decode cX12_apart 139 = .ok (.iload 7, 2) := by decide +kernel
theorem dX12_apart_141 : decode cX12_apart 141 = .ok (.iconst 0, 1) := by decide +kernel
theorem dX12_apart_142 : decode cX12_apart 142 = .ok (.iload 4, 2) := by decide +kernel
theorem dX12_apart_144 : decode cX12_apart 144 = .ok (.invokevirtual 143, 3) := by decide +kernel
theorem dX12_apart_147 : decode cX12_apart 147 = .ok (.imul, 1) := by decide +kernel
theorem dX12_apart_148 : decode cX12_apart 148 = .ok (.iadd, 1) := by decide +kernel
theorem dX12_apart_149 : decode cX12_apart 149 = .ok (.aload_n 0, 1) := by decide +kernel
theorem dX12_apart_150 : decode cX12_apart 150 = .ok (.iload_n 1, 1) := by decide +kernel
theorem dX12_apart_151 : decode cX12_apart 151 = .ok (.iload 8, 2) := by decide +kernel
theorem dX12_apart_153 : decode cX12_apart 153 = .ok (.iconst 0, 1) := by decide +kernel
theorem dX12_apart_154 : decode cX12_apart 154 = .ok (.iload 4, 2) := by decide +kernel
theorem dX12_apart_156 : decode cX12_apart 156 = .ok (.invokevirtual 143, 3) := by decide +kernel
theorem dX12_apart_159 : decode cX12_apart 159 = .ok (.iadd, 1) := by decide +kernel
theorem dX12_apart_160 : decode cX12_apart 160 = .ok (.baload, 1) := by decide +kernel
theorem dX12_apart_161 : decode cX12_apart 161 = .ok (.ifCond .ne 40, 3) := by decide +kernel
theorem dX12_apart_164 : decode cX12_apart 164 = .ok (.aload_n 0, 1) := by decide +kernel
theorem dX12_apart_165 : decode cX12_apart 165 = .ok (.getfield 39, 3) := by decide +kernel
theorem dX12_apart_168 : decode cX12_apart 168 = .ok (.bipush 25, 2) := by decide +kernel
theorem dX12_apart_170 : decode cX12_apart 170 = .ok (.iload 5, 2) := by decide +kernel
theorem dX12_apart_172 : decode cX12_apart 172 = .ok (.imul, 1) := by decide +kernel
theorem dX12_apart_173 : decode cX12_apart 173 = .ok (.iconst 5, 1) := by decide +kernel
theorem dX12_apart_174 : decode cX12_apart 174 = .ok (.aload_n 0, 1) := by decide +kernel
theorem dX12_apart_175 : decode cX12_apart 175 = .ok (.iload_n 1, 1) := by decide +kernel
theorem dX12_apart_176 : decode cX12_apart 176 = .ok (.iload 7, 2) := by decide +kernel
theorem dX12_apart_178 : decode cX12_apart 178 = .ok (.iconst 1, 1) := by decide +kernel
theorem dX12_apart_179 : decode cX12_apart 179 = .ok (.iload 4, 2) := by decide +kernel
theorem dX12_apart_181 : decode cX12_apart 181 = .ok (.invokevirtual 143, 3) := by decide +kernel
theorem dX12_apart_184 : decode cX12_apart 184 = .ok (.imul, 1) := by decide +kernel
theorem dX12_apart_185 : decode cX12_apart 185 = .ok (.iadd, 1) := by decide +kernel
theorem dX12_apart_186 : decode cX12_apart 186 = .ok (.aload_n 0, 1) := by decide +kernel
theorem dX12_apart_187 : decode cX12_apart 187 = .ok (.iload_n 1, 1) := by decide +kernel
theorem dX12_apart_188 : decode cX12_apart 188 = .ok (.iload 8, 2) := by decide +kernel
theorem dX12_apart_190 : decode cX12_apart 190 = .ok (.iconst 1, 1) := by decide +kernel
theorem dX12_apart_191 : decode cX12_apart 191 = .ok (.iload 4, 2) := by decide +kernel
theorem dX12_apart_193 : decode cX12_apart 193 = .ok (.invokevirtual 143, 3) := by decide +kernel
theorem dX12_apart_196 : decode cX12_apart 196 = .ok (.iadd, 1) := by decide +kernel
theorem dX12_apart_197 : decode cX12_apart 197 = .ok (.baload, 1) := by decide +kernel
theorem dX12_apart_198 : decode cX12_apart 198 = .ok (.ifCond .eq 7, 3) := by decide +kernel
theorem dX12_apart_201 : decode cX12_apart 201 = .ok (.iconst 1, 1) := by decide +kernel
theorem dX12_apart_202 : decode cX12_apart 202 = .ok (.goto 4, 3) := by decide +kernel
theorem dX12_apart_205 : decode cX12_apart 205 = .ok (.iconst 0, 1) := by decide +kernel
theorem dX12_apart_206 : decode cX12_apart 206 = .ok (.istore 10, 2) := by decide +kernel
theorem dX12_apart_208 : decode cX12_apart 208 = .ok (.iload_n 3, 1) := by decide +kernel
theorem dX12_apart_209 : decode cX12_apart 209 = .ok (.ifCond .ne 18, 3) := by decide +kernel
theorem dX12_apart_212 : decode cX12_apart 212 = .ok (.iload 10, 2) := by decide +kernel
theorem dX12_apart_214 : decode cX12_apart 214 = .ok (.ifCond .eq 17, 3) := by decide +kernel
theorem dX12_apart_217 : decode cX12_apart 217 = .ok (.aload_n 0, 1) := by decide +kernel
theorem dX12_apart_218 : decode cX12_apart 218 = .ok (.getfield 39, 3) := by decide +kernel
theorem dX12_apart_221 : decode cX12_apart 221 = .ok (.iload 9, 2) := by decide +kernel
theorem dX12_apart_223 : decode cX12_apart 223 = .ok (.baload, 1) := by decide +kernel
theorem dX12_apart_224 : decode cX12_apart 224 = .ok (.ifCond .ne 7, 3) := by decide +kernel
theorem dX12_apart_227 : decode cX12_apart 227 = .ok (.iconst 1, 1) := by decide +kernel
theorem dX12_apart_228 : decode cX12_apart 228 = .ok (.goto 4, 3) := by decide +kernel
theorem dX12_apart_231 : decode cX12_apart 231 = .ok (.iconst 0, 1) := by decide +kernel
theorem dX12_apart_232 : decode cX12_apart 232 = .ok (.istore_n 3, 1) := by decide +kernel
theorem dX12_apart_233 : decode cX12_apart 233 = .ok (.aload_n 0, 1) := by decide +kernel
theorem dX12_apart_234 : decode cX12_apart 234 = .ok (.getfield 39, 3) := by decide +kernel
theorem dX12_apart_237 : decode cX12_apart 237 = .ok (.iload 9, 2) := by decide +kernel
theorem dX12_apart_239 : decode cX12_apart 239 = .ok (.aload_n 0, 1) := by decide +kernel
theorem dX12_apart_240 : decode cX12_apart 240 = .ok (.getfield 39, 3) := by decide +kernel
theorem dX12_apart_243 : decode cX12_apart 243 = .ok (.iload 9, 2) := by decide +kernel
theorem dX12_apart_245 : decode cX12_apart 245 = .ok (.baload, 1) := by decide +kernel
theorem dX12_apart_246 : decode cX12_apart 246 = .ok (.ifCond .ne 8, 3) := by decide +kernel
theorem dX12_apart_249 : decode cX12_apart 249 = .ok (.iload 10, 2) := by decide +kernel
theorem dX12_apart_251 : decode cX12_apart 251 = .ok (.ifCond .eq 7, 3) := by decide +kernel
theorem dX12_apart_254 : decode cX12_apart 254 = .ok (.iconst 1, 1) := by decide +kernel
theorem dX12_apart_255 : decode cX12_apart 255 = .ok (.goto 4, 3) := by decide +kernel
theorem dX12_apart_258 : decode cX12_apart 258 = .ok (.iconst 0, 1) := by decide +kernel
theorem dX12_apart_259 : decode cX12_apart 259 = .ok (.bastore, 1) := by decide +kernel
theorem dX12_apart_260 : decode cX12_apart 260 = .ok (.iinc 6 1, 3) := by decide +kernel
theorem dX12_apart_263 : decode cX12_apart 263 = .ok (.goto (-171), 3) := by decide +kernel
theorem dX12_apart_266 : decode cX12_apart 266 = .ok (.iinc 4 (-1), 3) := by decide +kernel
theorem dX12_apart_269 : decode cX12_apart 269 = .ok (.goto (-201), 3) := by decide +kernel
theorem dX12_apart_272 : decode cX12_apart 272 = .ok (.goto (-213), 3) := by decide +kernel
theorem dX12_apart_275 : decode cX12_apart 275 = .ok (.iconst 0, 1) := by decide +kernel
theorem dX12_apart_276 : decode cX12_apart 276 = .ok (.istore 4, 2) := by decide +kernel
theorem dX12_apart_278 : decode cX12_apart 278 = .ok (.iload 4, 2) := by decide +kernel
theorem dX12_apart_280 : decode cX12_apart 280 = .ok (.iload_n 2, 1) := by decide +kernel
theorem dX12_apart_281 : decode cX12_apart 281 = .ok (.if_icmp .ge 51, 3) := by decide +kernel
theorem dX12_apart_284 : decode cX12_apart 284 = .ok (.iload 4, 2) := by decide +kernel
theorem dX12_apart_286 : decode cX12_apart 286 = .ok (.iconst 1, 1) := by decide +kernel
theorem dX12_apart_287 : decode cX12_apart 287 = .ok (.iadd, 1) := by decide +kernel
theorem dX12_apart_288 : decode cX12_apart 288 = .ok (.istore 5, 2) := by decide +kernel
theorem dX12_apart_290 : decode cX12_apart 290 = .ok (.iload 5, 2) := by decide +kernel
theorem dX12_apart_292 : decode cX12_apart 292 = .ok (.iload_n 2, 1) := by decide +kernel
theorem dX12_apart_293 : decode cX12_apart 293 = .ok (.if_icmp .ge 33, 3) := by decide +kernel
theorem dX12_apart_296 : decode cX12_apart 296 = .ok (.aload_n 0, 1) := by decide +kernel
theorem dX12_apart_297 : decode cX12_apart 297 = .ok (.getfield 39, 3) := by decide +kernel
theorem dX12_apart_300 : decode cX12_apart 300 = .ok (.iconst 5, 1) := by decide +kernel
theorem dX12_apart_301 : decode cX12_apart 301 = .ok (.iload 4, 2) := by decide +kernel
theorem dX12_apart_303 : decode cX12_apart 303 = .ok (.imul, 1) := by decide +kernel
theorem dX12_apart_304 : decode cX12_apart 304 = .ok (.iload 5, 2) := by decide +kernel
theorem dX12_apart_306 : decode cX12_apart 306 = .ok (.iadd, 1) := by decide +kernel
theorem dX12_apart_307 : decode cX12_apart 307 = .ok (.baload, 1) := by decide +kernel
theorem dX12_apart_308 : decode cX12_apart 308 = .ok (.ifCond .ne 12, 3) := by decide +kernel
theorem dX12_apart_311 : decode cX12_apart 311 = .ok (.bipush 10, 2) := by decide +kernel
theorem dX12_apart_313 : decode cX12_apart 313 = .ok (.iload 4, 2) := by decide +kernel
theorem dX12_apart_315 : decode cX12_apart 315 = .ok (.imul, 1) := by decide +kernel
theorem dX12_apart_316 : decode cX12_apart 316 = .ok (.iload 5, 2) := by decide +kernel
theorem dX12_apart_318 : decode cX12_apart 318 = .ok (.iadd, 1) := by decide +kernel
theorem dX12_apart_319 : decode cX12_apart 319 = .ok (.ireturn, 1) := by decide +kernel
theorem dX12_apart_320 : decode cX12_apart 320 = .ok (.iinc 5 1, 3) := by decide +kernel
theorem dX12_apart_323 : decode cX12_apart 323 = .ok (.goto (-33), 3) := by decide +kernel
theorem dX12_apart_326 : decode cX12_apart 326 = .ok (.iinc 4 1, 3) := by decide +kernel
theorem dX12_apart_329 : decode cX12_apart 329 = .ok (.goto (-51), 3) := by decide +kernel
theorem dX12_apart_332 : decode cX12_apart 332 = .ok (.iconst (-1), 1) := by decide +kernel
theorem dX12_apart_333 : decode cX12_apart 333 = .ok (.ireturn, 1) := by decide +kernel
theorem dX12_takesBy_0 : decode cX12_takesBy 0 = .ok (.iconst 0, 1) := by decide +kernel
theorem dX12_takesBy_1 : decode cX12_takesBy 1 = .ok (.istore 5, 2) := by decide +kernel
theorem dX12_takesBy_3 : decode cX12_takesBy 3 = .ok (.iconst 0, 1) := by decide +kernel
theorem dX12_takesBy_4 : decode cX12_takesBy 4 = .ok (.istore 6, 2) := by decide +kernel
theorem dX12_takesBy_6 : decode cX12_takesBy 6 = .ok (.iload 6, 2) := by decide +kernel
theorem dX12_takesBy_8 : decode cX12_takesBy 8 = .ok (.aload_n 0, 1) := by decide +kernel
theorem dX12_takesBy_9 : decode cX12_takesBy 9 = .ok (.getfield 7, 3) := by decide +kernel
theorem dX12_takesBy_12 : decode cX12_takesBy 12 = .ok (.iconst 0, 1) := by decide +kernel
theorem dX12_takesBy_13 : decode cX12_takesBy 13 = .ok (.iaload, 1) := by decide +kernel
theorem dX12_takesBy_14 : decode cX12_takesBy 14 = .ok (.if_icmp .ge 51, 3) := by decide +kernel
theorem dX12_takesBy_17 : decode cX12_takesBy 17 = .ok (.iload_n 2, 1) := by decide +kernel
theorem dX12_takesBy_18 : decode cX12_takesBy 18 = .ok (.iload 6, 2) := by decide +kernel
theorem dX12_takesBy_20 : decode cX12_takesBy 20 = .ok (.ishr, 1) := by decide +kernel
theorem dX12_takesBy_21 : decode cX12_takesBy 21 = .ok (.iconst 1, 1) := by decide +kernel
theorem dX12_takesBy_22 : decode cX12_takesBy 22 = .ok (.iand, 1) := by decide +kernel
theorem dX12_takesBy_23 : decode cX12_takesBy 23 = .ok (.iconst 1, 1) := by decide +kernel
theorem dX12_takesBy_24 : decode cX12_takesBy 24 = .ok (.if_icmp .ne 35, 3) := by decide +kernel
theorem dX12_takesBy_27 : decode cX12_takesBy 27 = .ok (.iconst 1, 1) := by decide +kernel
theorem dX12_takesBy_28 : decode cX12_takesBy 28 = .ok (.aload_n 0, 1) := by decide +kernel
theorem dX12_takesBy_29 : decode cX12_takesBy 29 = .ok (.iload_n 1, 1) := by decide +kernel
theorem dX12_takesBy_30 : decode cX12_takesBy 30 = .ok (.iload 6, 2) := by decide +kernel
theorem dX12_takesBy_32 : decode cX12_takesBy 32 = .ok (.iload_n 3, 1) := by decide +kernel
theorem dX12_takesBy_33 : decode cX12_takesBy 33 = .ok (.iload 4, 2) := by decide +kernel
theorem dX12_takesBy_35 : decode cX12_takesBy 35 = .ok (.invokevirtual 143, 3) := by decide +kernel
theorem dX12_takesBy_38 : decode cX12_takesBy 38 = .ok (.ishl, 1) := by decide +kernel
theorem dX12_takesBy_39 : decode cX12_takesBy 39 = .ok (.istore 7, 2) := by decide +kernel
theorem dX12_takesBy_41 : decode cX12_takesBy 41 = .ok (.iload 5, 2) := by decide +kernel
theorem dX12_takesBy_43 : decode cX12_takesBy 43 = .ok (.iload 7, 2) := by decide +kernel
theorem dX12_takesBy_45 : decode cX12_takesBy 45 = .ok (.iand, 1) := by decide +kernel
theorem dX12_takesBy_46 : decode cX12_takesBy 46 = .ok (.ifCond .eq 6, 3) := by decide +kernel
theorem dX12_takesBy_49 : decode cX12_takesBy 49 = .ok (.bipush 99, 2) := by decide +kernel
theorem dX12_takesBy_51 : decode cX12_takesBy 51 = .ok (.ireturn, 1) := by decide +kernel
theorem dX12_takesBy_52 : decode cX12_takesBy 52 = .ok (.iload 5, 2) := by decide +kernel
theorem dX12_takesBy_54 : decode cX12_takesBy 54 = .ok (.iload 7, 2) := by decide +kernel
theorem dX12_takesBy_56 : decode cX12_takesBy 56 = .ok (.ior, 1) := by decide +kernel
theorem dX12_takesBy_57 : decode cX12_takesBy 57 = .ok (.istore 5, 2) := by decide +kernel
theorem dX12_takesBy_59 : decode cX12_takesBy 59 = .ok (.iinc 6 1, 3) := by decide +kernel
theorem dX12_takesBy_62 : decode cX12_takesBy 62 = .ok (.goto (-56), 3) := by decide +kernel
theorem dX12_takesBy_65 : decode cX12_takesBy 65 = .ok (.aload_n 0, 1) := by decide +kernel
theorem dX12_takesBy_66 : decode cX12_takesBy 66 = .ok (.getfield 42, 3) := by decide +kernel
theorem dX12_takesBy_69 : decode cX12_takesBy 69 = .ok (.bipush 32, 2) := by decide +kernel
theorem dX12_takesBy_71 : decode cX12_takesBy 71 = .ok (.iload 4, 2) := by decide +kernel
theorem dX12_takesBy_73 : decode cX12_takesBy 73 = .ok (.iconst 1, 1) := by decide +kernel
theorem dX12_takesBy_74 : decode cX12_takesBy 74 = .ok (.iadd, 1) := by decide +kernel
theorem dX12_takesBy_75 : decode cX12_takesBy 75 = .ok (.imul, 1) := by decide +kernel
theorem dX12_takesBy_76 : decode cX12_takesBy 76 = .ok (.iload 5, 2) := by decide +kernel
theorem dX12_takesBy_78 : decode cX12_takesBy 78 = .ok (.aload_n 0, 1) := by decide +kernel
theorem dX12_takesBy_79 : decode cX12_takesBy 79 = .ok (.getfield 7, 3) := by decide +kernel
theorem dX12_takesBy_82 : decode cX12_takesBy 82 = .ok (.iconst 3, 1) := by decide +kernel
theorem dX12_takesBy_83 : decode cX12_takesBy 83 = .ok (.iaload, 1) := by decide +kernel
theorem dX12_takesBy_84 : decode cX12_takesBy 84 = .ok (.iand, 1) := by decide +kernel
theorem dX12_takesBy_85 : decode cX12_takesBy 85 = .ok (.iadd, 1) := by decide +kernel
theorem dX12_takesBy_86 : decode cX12_takesBy 86 = .ok (.iaload, 1) := by decide +kernel
theorem dX12_takesBy_87 : decode cX12_takesBy 87 = .ok (.istore 6, 2) := by decide +kernel
theorem dX12_takesBy_89 : decode cX12_takesBy 89 = .ok (.aload_n 0, 1) := by decide +kernel
theorem dX12_takesBy_90 : decode cX12_takesBy 90 = .ok (.getfield 42, 3) := by decide +kernel
theorem dX12_takesBy_93 : decode cX12_takesBy 93 = .ok (.bipush 32, 2) := by decide +kernel
theorem dX12_takesBy_95 : decode cX12_takesBy 95 = .ok (.iload 4, 2) := by decide +kernel
theorem dX12_takesBy_97 : decode cX12_takesBy 97 = .ok (.iconst 1, 1) := by decide +kernel
theorem dX12_takesBy_98 : decode cX12_takesBy 98 = .ok (.iadd, 1) := by decide +kernel
theorem dX12_takesBy_99 : decode cX12_takesBy 99 = .ok (.imul, 1) := by decide +kernel
theorem dX12_takesBy_100 : decode cX12_takesBy 100 = .ok (.iload 5, 2) := by decide +kernel
theorem dX12_takesBy_102 : decode cX12_takesBy 102 = .ok (.aload_n 0, 1) := by decide +kernel
theorem dX12_takesBy_103 : decode cX12_takesBy 103 = .ok (.getfield 7, 3) := by decide +kernel
theorem dX12_takesBy_106 : decode cX12_takesBy 106 = .ok (.iconst 3, 1) := by decide +kernel
theorem dX12_takesBy_107 : decode cX12_takesBy 107 = .ok (.iaload, 1) := by decide +kernel
theorem dX12_takesBy_108 : decode cX12_takesBy 108 = .ok (.iconst (-1), 1) := by decide +kernel
theorem dX12_takesBy_109 : decode cX12_takesBy 109 = .ok (.ixor, 1) := by decide +kernel
theorem dX12_takesBy_110 : decode cX12_takesBy 110 = .ok (.iand, 1) := by decide +kernel
theorem dX12_takesBy_111 : decode cX12_takesBy 111 = .ok (.iadd, 1) := by decide +kernel
theorem dX12_takesBy_112 : decode cX12_takesBy 112 = .ok (.iaload, 1) := by decide +kernel
theorem dX12_takesBy_113 : decode cX12_takesBy 113 = .ok (.istore 7, 2) := by decide +kernel
theorem dX12_takesBy_115 : decode cX12_takesBy 115 = .ok (.iload 6, 2) := by decide +kernel
theorem dX12_takesBy_117 : decode cX12_takesBy 117 = .ok (.iload 7, 2) := by decide +kernel
theorem dX12_takesBy_119 : decode cX12_takesBy 119 = .ok (.if_icmp .le 8, 3) := by decide +kernel
theorem dX12_takesBy_122 : decode cX12_takesBy 122 = .ok (.iload 6, 2) := by decide +kernel
theorem dX12_takesBy_124 : decode cX12_takesBy 124 = .ok (.goto 5, 3) := by decide +kernel
theorem dX12_takesBy_127 : decode cX12_takesBy 127 = .ok (.iload 7, 2) := by decide +kernel
theorem dX12_takesBy_129 : decode cX12_takesBy 129 = .ok (.istore 8, 2) := by decide +kernel
theorem dX12_takesBy_131 : decode cX12_takesBy 131 = .ok (.iload 8, 2) := by decide +kernel
theorem dX12_takesBy_133 : decode cX12_takesBy 133 = .ok (.bipush 99, 2) := by decide +kernel
theorem dX12_takesBy_135 : decode cX12_takesBy 135 = .ok (.if_icmp .ne 8, 3) := by decide +kernel
theorem dX12_takesBy_138 : decode cX12_takesBy 138 = .ok (.bipush 99, 2) := by decide +kernel
theorem dX12_takesBy_140 : decode cX12_takesBy 140 = .ok (.goto 7, 3) := by decide +kernel
theorem dX12_takesBy_143 : decode cX12_takesBy 143 = .ok (.iload 8, 2) := by decide +kernel
theorem dX12_takesBy_145 : decode cX12_takesBy 145 = .ok (.iconst 1, 1) := by decide +kernel
theorem dX12_takesBy_146 : decode cX12_takesBy 146 = .ok (.iadd, 1) := by decide +kernel
theorem dX12_takesBy_147 : decode cX12_takesBy 147 = .ok (.ireturn, 1) := by decide +kernel
theorem dX12_allTakes_0 : decode cX12_allTakes 0 = .ok (.bipush 8, 2) := by decide +kernel
theorem dX12_allTakes_2 : decode cX12_allTakes 2 = .ok (.istore_n 2, 1) := by decide +kernel
theorem dX12_allTakes_3 : decode cX12_allTakes 3 = .ok (.iload_n 2, 1) := by decide +kernel
theorem dX12_allTakes_4 : decode cX12_allTakes 4 = .ok (.ifCond .lt 111, 3) := by decide +kernel
theorem dX12_allTakes_7 : decode cX12_allTakes 7 = .ok (.iconst 0, 1) := by decide +kernel
theorem dX12_allTakes_8 : decode cX12_allTakes 8 = .ok (.istore_n 3, 1) := by decide +kernel
theorem dX12_allTakes_9 : decode cX12_allTakes 9 = .ok (.iload_n 3, 1) := by decide +kernel
theorem dX12_allTakes_10 : decode cX12_allTakes 10 = .ok (.iconst 1, 1) := by decide +kernel
theorem dX12_allTakes_11 : decode cX12_allTakes 11 = .ok (.aload_n 0, 1) := by decide +kernel
theorem dX12_allTakes_12 : decode cX12_allTakes 12 = .ok (.getfield 7, 3) := by decide +kernel
theorem dX12_allTakes_15 : decode cX12_allTakes 15 = .ok (.iconst 0, 1) := by decide +kernel
theorem dX12_allTakes_16 : decode cX12_allTakes 16 = .ok (.iaload, 1) := by decide +kernel
theorem dX12_allTakes_17 : decode cX12_allTakes 17 = .ok (.ishl, 1) := by decide +kernel
theorem dX12_allTakes_18 : decode cX12_allTakes 18 = .ok (.if_icmp .ge 91, 3) := by decide +kernel
theorem dX12_allTakes_21 : decode cX12_allTakes 21 = .ok (.iload_n 3, 1) := by decide +kernel
theorem dX12_allTakes_22 : decode cX12_allTakes 22 = .ok (.invokestatic 193, 3) := by decide +kernel
theorem dX12_allTakes_25 : decode cX12_allTakes 25 = .ok (.iconst 2, 1) := by decide +kernel
theorem dX12_allTakes_26 : decode cX12_allTakes 26 = .ok (.if_icmp .ge 7, 3) := by decide +kernel
theorem dX12_allTakes_29 : decode cX12_allTakes 29 = .ok (.iconst 0, 1) := by decide +kernel
theorem dX12_allTakes_30 : decode cX12_allTakes 30 = .ok (.goto 5, 3) := by decide +kernel
theorem dX12_allTakes_33 : decode cX12_allTakes 33 = .ok (.bipush 99, 2) := by decide +kernel
theorem dX12_allTakes_35 : decode cX12_allTakes 35 = .ok (.istore 4, 2) := by decide +kernel
theorem dX12_allTakes_37 : decode cX12_allTakes 37 = .ok (.iconst 0, 1) := by decide +kernel
theorem dX12_allTakes_38 : decode cX12_allTakes 38 = .ok (.istore 5, 2) := by decide +kernel
theorem dX12_allTakes_40 : decode cX12_allTakes 40 = .ok (.iload 5, 2) := by decide +kernel
theorem dX12_allTakes_42 : decode cX12_allTakes 42 = .ok (.iconst 2, 1) := by decide +kernel
theorem dX12_allTakes_43 : decode cX12_allTakes 43 = .ok (.if_icmp .ge 47, 3) := by decide +kernel
theorem dX12_allTakes_46 : decode cX12_allTakes 46 = .ok (.iload 4, 2) := by decide +kernel
theorem dX12_allTakes_48 : decode cX12_allTakes 48 = .ok (.ifCond .le 42, 3) := by decide +kernel
theorem dX12_allTakes_51 : decode cX12_allTakes 51 = .ok (.iload_n 2, 1) := by decide +kernel
theorem dX12_allTakes_52 : decode cX12_allTakes 52 = .ok (.bipush 8, 2) := by decide +kernel
theorem dX12_allTakes_54 : decode cX12_allTakes 54 = .ok (.if_icmp .ge 36, 3) := by decide +kernel
theorem dX12_allTakes_57 : decode cX12_allTakes 57 = .ok (.aload_n 0, 1) := by decide +kernel
theorem dX12_allTakes_58 : decode cX12_allTakes 58 = .ok (.iload_n 1, 1) := by decide +kernel
theorem dX12_allTakes_59 : decode cX12_allTakes 59 = .ok (.iload_n 3, 1) := by decide +kernel
theorem dX12_allTakes_60 : decode cX12_allTakes 60 = .ok (.iload 5, 2) := by decide +kernel
theorem dX12_allTakes_62 : decode cX12_allTakes 62 = .ok (.iload_n 2, 1) := by decide +kernel
theorem dX12_allTakes_63 : decode cX12_allTakes 63 = .ok (.invokevirtual 196, 3) := by decide +kernel
theorem dX12_allTakes_66 : decode cX12_allTakes 66 = .ok (.istore 6, 2) := by decide +kernel
theorem dX12_allTakes_68 : decode cX12_allTakes 68 = .ok (.iload 6, 2) := by decide +kernel
theorem dX12_allTakes_70 : decode cX12_allTakes 70 = .ok (.iload 4, 2) := by decide +kernel
theorem dX12_allTakes_72 : decode cX12_allTakes 72 = .ok (.if_icmp .ge 8, 3) := by decide +kernel
theorem dX12_allTakes_75 : decode cX12_allTakes 75 = .ok (.iload 6, 2) := by decide +kernel
theorem dX12_allTakes_77 : decode cX12_allTakes 77 = .ok (.goto 5, 3) := by decide +kernel
theorem dX12_allTakes_80 : decode cX12_allTakes 80 = .ok (.iload 4, 2) := by decide +kernel
theorem dX12_allTakes_82 : decode cX12_allTakes 82 = .ok (.istore 4, 2) := by decide +kernel
theorem dX12_allTakes_84 : decode cX12_allTakes 84 = .ok (.iinc 5 1, 3) := by decide +kernel
theorem dX12_allTakes_87 : decode cX12_allTakes 87 = .ok (.goto (-47), 3) := by decide +kernel
theorem dX12_allTakes_90 : decode cX12_allTakes 90 = .ok (.aload_n 0, 1) := by decide +kernel
theorem dX12_allTakes_91 : decode cX12_allTakes 91 = .ok (.getfield 42, 3) := by decide +kernel
theorem dX12_allTakes_94 : decode cX12_allTakes 94 = .ok (.bipush 32, 2) := by decide +kernel
theorem dX12_allTakes_96 : decode cX12_allTakes 96 = .ok (.iload_n 2, 1) := by decide +kernel
theorem dX12_allTakes_97 : decode cX12_allTakes 97 = .ok (.imul, 1) := by decide +kernel
theorem dX12_allTakes_98 : decode cX12_allTakes 98 = .ok (.iload_n 3, 1) := by decide +kernel
theorem dX12_allTakes_99 : decode cX12_allTakes 99 = .ok (.iadd, 1) := by decide +kernel
theorem dX12_allTakes_100 : decode cX12_allTakes 100 = .ok (.iload 4, 2) := by decide +kernel
theorem dX12_allTakes_102 : decode cX12_allTakes 102 = .ok (.iastore, 1) := by decide +kernel
theorem dX12_allTakes_103 : decode cX12_allTakes 103 = .ok (.iinc 3 1, 3) := by decide +kernel
theorem dX12_allTakes_106 : decode cX12_allTakes 106 = .ok (.goto (-97), 3) := by decide +kernel
theorem dX12_allTakes_109 : decode cX12_allTakes 109 = .ok (.iinc 2 (-1), 3) := by decide +kernel
theorem dX12_allTakes_112 : decode cX12_allTakes 112 = .ok (.goto (-109), 3) := by decide +kernel
theorem dX12_allTakes_115 : decode cX12_allTakes 115 = .ok (.return_, 1) := by decide +kernel
theorem dX12_tells_0 : decode cX12_tells 0 = .ok (.aload_n 0, 1) := by decide +kernel
theorem dX12_tells_1 : decode cX12_tells 1 = .ok (.iload_n 1, 1) := by decide +kernel
theorem dX12_tells_2 : decode cX12_tells 2 = .ok (.invokevirtual 140, 3) := by decide +kernel
theorem dX12_tells_5 : decode cX12_tells 5 = .ok (.ifCond .eq 30, 3) := by decide +kernel
theorem dX12_tells_8 : decode cX12_tells 8 = .ok (.iload_n 2, 1) := by decide +kernel
theorem dX12_tells_9 : decode cX12_tells 9 = .ok (.iconst 1, 1) := by decide +kernel
theorem dX12_tells_10 : decode cX12_tells 10 = .ok (.iconst 1, 1) := by decide +kernel
theorem dX12_tells_11 : decode cX12_tells 11 = .ok (.aload_n 0, 1) := by decide +kernel
theorem dX12_tells_12 : decode cX12_tells 12 = .ok (.getfield 7, 3) := by decide +kernel
theorem dX12_tells_15 : decode cX12_tells 15 = .ok (.iconst 0, 1) := by decide +kernel
theorem dX12_tells_16 : decode cX12_tells 16 = .ok (.iaload, 1) := by decide +kernel
theorem dX12_tells_17 : decode cX12_tells 17 = .ok (.ishl, 1) := by decide +kernel
theorem dX12_tells_18 : decode cX12_tells 18 = .ok (.iconst 1, 1) := by decide +kernel
theorem dX12_tells_19 : decode cX12_tells 19 = .ok (.isub, 1) := by decide +kernel
theorem dX12_tells_20 : decode cX12_tells 20 = .ok (.invokestatic 57, 3) := by decide +kernel
theorem dX12_tells_23 : decode cX12_tells 23 = .ok (.ifCond .eq 12, 3) := by decide +kernel
theorem dX12_tells_26 : decode cX12_tells 26 = .ok (.iload_n 3, 1) := by decide +kernel
theorem dX12_tells_27 : decode cX12_tells 27 = .ok (.iconst 0, 1) := by decide +kernel
theorem dX12_tells_28 : decode cX12_tells 28 = .ok (.iconst 2, 1) := by decide +kernel
theorem dX12_tells_29 : decode cX12_tells 29 = .ok (.invokestatic 57, 3) := by decide +kernel
theorem dX12_tells_32 : decode cX12_tells 32 = .ok (.ifCond .ne 11, 3) := by decide +kernel
theorem dX12_tells_35 : decode cX12_tells 35 = .ok (.aload_n 0, 1) := by decide +kernel
theorem dX12_tells_36 : decode cX12_tells 36 = .ok (.iconst 0, 1) := by decide +kernel
theorem dX12_tells_37 : decode cX12_tells 37 = .ok (.bipush (-10), 2) := by decide +kernel
theorem dX12_tells_39 : decode cX12_tells 39 = .ok (.invokevirtual 53, 3) := by decide +kernel
theorem dX12_tells_42 : decode cX12_tells 42 = .ok (.ireturn, 1) := by decide +kernel
theorem dX12_tells_43 : decode cX12_tells 43 = .ok (.aload_n 0, 1) := by decide +kernel
theorem dX12_tells_44 : decode cX12_tells 44 = .ok (.iload_n 1, 1) := by decide +kernel
theorem dX12_tells_45 : decode cX12_tells 45 = .ok (.invokevirtual 199, 3) := by decide +kernel
theorem dX12_tells_48 : decode cX12_tells 48 = .ok (.iload_n 2, 1) := by decide +kernel
theorem dX12_tells_49 : decode cX12_tells 49 = .ok (.aload_n 0, 1) := by decide +kernel
theorem dX12_tells_50 : decode cX12_tells 50 = .ok (.getfield 7, 3) := by decide +kernel
theorem dX12_tells_53 : decode cX12_tells 53 = .ok (.iconst 3, 1) := by decide +kernel
theorem dX12_tells_54 : decode cX12_tells 54 = .ok (.iaload, 1) := by decide +kernel
theorem dX12_tells_55 : decode cX12_tells 55 = .ok (.iand, 1) := by decide +kernel
theorem dX12_tells_56 : decode cX12_tells 56 = .ok (.istore 4, 2) := by decide +kernel
theorem dX12_tells_58 : decode cX12_tells 58 = .ok (.iload_n 2, 1) := by decide +kernel
theorem dX12_tells_59 : decode cX12_tells 59 = .ok (.aload_n 0, 1) := by decide +kernel
theorem dX12_tells_60 : decode cX12_tells 60 = .ok (.getfield 7, 3) := by decide +kernel
theorem dX12_tells_63 : decode cX12_tells 63 = .ok (.iconst 3, 1) := by decide +kernel
theorem dX12_tells_64 : decode cX12_tells 64 = .ok (.iaload, 1) := by decide +kernel
theorem dX12_tells_65 : decode cX12_tells 65 = .ok (.iconst (-1), 1) := by decide +kernel
theorem dX12_tells_66 : decode cX12_tells 66 = .ok (.ixor, 1) := by decide +kernel
theorem dX12_tells_67 : decode cX12_tells 67 = .ok (.iand, 1) := by decide +kernel
theorem dX12_tells_68 : decode cX12_tells 68 = .ok (.istore 5, 2) := by decide +kernel
theorem dX12_tells_70 : decode cX12_tells 70 = .ok (.iload_n 3, 1) := by decide +kernel
theorem dX12_tells_71 : decode cX12_tells 71 = .ok (.ifCond .ne 53, 3) := by decide +kernel
theorem dX12_tells_74 : decode cX12_tells 74 = .ok (.aload_n 0, 1) := by decide +kernel
theorem dX12_tells_75 : decode cX12_tells 75 = .ok (.getfield 42, 3) := by decide +kernel
theorem dX12_tells_78 : decode cX12_tells 78 = .ok (.iload 4, 2) := by decide +kernel
theorem dX12_tells_80 : decode cX12_tells 80 = .ok (.iaload, 1) := by decide +kernel
theorem dX12_tells_81 : decode cX12_tells 81 = .ok (.aload_n 0, 1) := by decide +kernel
theorem dX12_tells_82 : decode cX12_tells 82 = .ok (.getfield 42, 3) := by decide +kernel
theorem dX12_tells_85 : decode cX12_tells 85 = .ok (.iload 5, 2) := by decide +kernel
theorem dX12_tells_87 : decode cX12_tells 87 = .ok (.iaload, 1) := by decide +kernel
theorem dX12_tells_88 : decode cX12_tells 88 = .ok (.if_icmp .le 13, 3) := by decide +kernel
theorem dX12_tells_91 : decode cX12_tells 91 = .ok (.aload_n 0, 1) := by decide +kernel
theorem dX12_tells_92 : decode cX12_tells 92 = .ok (.getfield 42, 3) := by decide +kernel
theorem dX12_tells_95 : decode cX12_tells 95 = .ok (.iload 4, 2) := by decide +kernel
theorem dX12_tells_97 : decode cX12_tells 97 = .ok (.iaload, 1) := by decide +kernel
theorem dX12_tells_98 : decode cX12_tells 98 = .ok (.goto 10, 3) := by decide +kernel
theorem dX12_tells_101 : decode cX12_tells 101 = .ok (.aload_n 0, 1) := by decide +kernel
theorem dX12_tells_102 : decode cX12_tells 102 = .ok (.getfield 42, 3) := by decide +kernel
theorem dX12_tells_105 : decode cX12_tells 105 = .ok (.iload 5, 2) := by decide +kernel
theorem dX12_tells_107 : decode cX12_tells 107 = .ok (.iaload, 1) := by decide +kernel
theorem dX12_tells_108 : decode cX12_tells 108 = .ok (.istore 6, 2) := by decide +kernel
theorem dX12_tells_110 : decode cX12_tells 110 = .ok (.iload 6, 2) := by decide +kernel
theorem dX12_tells_112 : decode cX12_tells 112 = .ok (.bipush 99, 2) := by decide +kernel
theorem dX12_tells_114 : decode cX12_tells 114 = .ok (.if_icmp .ne 7, 3) := by decide +kernel
theorem dX12_tells_117 : decode cX12_tells 117 = .ok (.iconst (-1), 1) := by decide +kernel
theorem dX12_tells_118 : decode cX12_tells 118 = .ok (.goto 5, 3) := by decide +kernel
theorem dX12_tells_121 : decode cX12_tells 121 = .ok (.iload 6, 2) := by decide +kernel
theorem dX12_tells_123 : decode cX12_tells 123 = .ok (.ireturn, 1) := by decide +kernel
theorem dX12_tells_124 : decode cX12_tells 124 = .ok (.iload_n 3, 1) := by decide +kernel
theorem dX12_tells_125 : decode cX12_tells 125 = .ok (.iconst 1, 1) := by decide +kernel
theorem dX12_tells_126 : decode cX12_tells 126 = .ok (.if_icmp .ne 8, 3) := by decide +kernel
theorem dX12_tells_129 : decode cX12_tells 129 = .ok (.iload 4, 2) := by decide +kernel
theorem dX12_tells_131 : decode cX12_tells 131 = .ok (.goto 5, 3) := by decide +kernel
theorem dX12_tells_134 : decode cX12_tells 134 = .ok (.iload 5, 2) := by decide +kernel
theorem dX12_tells_136 : decode cX12_tells 136 = .ok (.istore 6, 2) := by decide +kernel
theorem dX12_tells_138 : decode cX12_tells 138 = .ok (.iload 6, 2) := by decide +kernel
theorem dX12_tells_140 : decode cX12_tells 140 = .ok (.invokestatic 193, 3) := by decide +kernel
theorem dX12_tells_143 : decode cX12_tells 143 = .ok (.iconst 2, 1) := by decide +kernel
theorem dX12_tells_144 : decode cX12_tells 144 = .ok (.if_icmp .ge 5, 3) := by decide +kernel
theorem dX12_tells_147 : decode cX12_tells 147 = .ok (.iconst (-1), 1) := by decide +kernel
theorem dX12_tells_148 : decode cX12_tells 148 = .ok (.ireturn, 1) := by decide +kernel
theorem dX12_tells_149 : decode cX12_tells 149 = .ok (.aload_n 0, 1) := by decide +kernel
theorem dX12_tells_150 : decode cX12_tells 150 = .ok (.getfield 42, 3) := by decide +kernel
theorem dX12_tells_153 : decode cX12_tells 153 = .ok (.iload 6, 2) := by decide +kernel
theorem dX12_tells_155 : decode cX12_tells 155 = .ok (.iaload, 1) := by decide +kernel
theorem dX12_tells_156 : decode cX12_tells 156 = .ok (.bipush 99, 2) := by decide +kernel
theorem dX12_tells_158 : decode cX12_tells 158 = .ok (.if_icmp .ne 8, 3) := by decide +kernel
theorem dX12_tells_161 : decode cX12_tells 161 = .ok (.bipush (-5), 2) := by decide +kernel
end
section
theorem dX12_tells_163 : decode cX12_tells 163 = .ok (.goto 27, 3) := by decide +kernel
theorem dX12_tells_166 : decode cX12_tells 166 = .ok (.aload_n 0, 1) := by decide +kernel
theorem dX12_tells_167 : decode cX12_tells 167 = .ok (.iload_n 1, 1) := by decide +kernel
theorem dX12_tells_168 : decode cX12_tells 168 = .ok (.iload 6, 2) := by decide +kernel
theorem dX12_tells_170 : decode cX12_tells 170 = .ok (.iconst 0, 1) := by decide +kernel
theorem dX12_tells_171 : decode cX12_tells 171 = .ok (.iconst 0, 1) := by decide +kernel
theorem dX12_tells_172 : decode cX12_tells 172 = .ok (.invokevirtual 196, 3) := by decide +kernel
theorem dX12_tells_175 : decode cX12_tells 175 = .ok (.aload_n 0, 1) := by decide +kernel
theorem dX12_tells_176 : decode cX12_tells 176 = .ok (.getfield 42, 3) := by decide +kernel
theorem dX12_tells_179 : decode cX12_tells 179 = .ok (.iload 6, 2) := by decide +kernel
theorem dX12_tells_181 : decode cX12_tells 181 = .ok (.iaload, 1) := by decide +kernel
theorem dX12_tells_182 : decode cX12_tells 182 = .ok (.if_icmp .ne 7, 3) := by decide +kernel
theorem dX12_tells_185 : decode cX12_tells 185 = .ok (.iconst 0, 1) := by decide +kernel
theorem dX12_tells_186 : decode cX12_tells 186 = .ok (.goto 4, 3) := by decide +kernel
theorem dX12_tells_189 : decode cX12_tells 189 = .ok (.iconst 1, 1) := by decide +kernel
theorem dX12_tells_190 : decode cX12_tells 190 = .ok (.ireturn, 1) := by decide +kernel
theorem dX12_heard_0 : decode cX12_heard 0 = .ok (.iload_n 2, 1) := by decide +kernel
theorem dX12_heard_1 : decode cX12_heard 1 = .ok (.istore 6, 2) := by decide +kernel
theorem dX12_heard_3 : decode cX12_heard 3 = .ok (.iconst 1, 1) := by decide +kernel
theorem dX12_heard_4 : decode cX12_heard 4 = .ok (.istore 7, 2) := by decide +kernel
theorem dX12_heard_6 : decode cX12_heard 6 = .ok (.iconst 0, 1) := by decide +kernel
theorem dX12_heard_7 : decode cX12_heard 7 = .ok (.istore 8, 2) := by decide +kernel
theorem dX12_heard_9 : decode cX12_heard 9 = .ok (.iload 8, 2) := by decide +kernel
theorem dX12_heard_11 : decode cX12_heard 11 = .ok (.iload 4, 2) := by decide +kernel
theorem dX12_heard_13 : decode cX12_heard 13 = .ok (.if_icmp .ge 59, 3) := by decide +kernel
theorem dX12_heard_16 : decode cX12_heard 16 = .ok (.aload_n 0, 1) := by decide +kernel
theorem dX12_heard_17 : decode cX12_heard 17 = .ok (.iload_n 1, 1) := by decide +kernel
theorem dX12_heard_18 : decode cX12_heard 18 = .ok (.iload 6, 2) := by decide +kernel
theorem dX12_heard_20 : decode cX12_heard 20 = .ok (.iload_n 3, 1) := by decide +kernel
theorem dX12_heard_21 : decode cX12_heard 21 = .ok (.iload 8, 2) := by decide +kernel
theorem dX12_heard_23 : decode cX12_heard 23 = .ok (.ishr, 1) := by decide +kernel
theorem dX12_heard_24 : decode cX12_heard 24 = .ok (.iconst 1, 1) := by decide +kernel
theorem dX12_heard_25 : decode cX12_heard 25 = .ok (.iand, 1) := by decide +kernel
theorem dX12_heard_26 : decode cX12_heard 26 = .ok (.iload 8, 2) := by decide +kernel
theorem dX12_heard_28 : decode cX12_heard 28 = .ok (.invokevirtual 143, 3) := by decide +kernel
theorem dX12_heard_31 : decode cX12_heard 31 = .ok (.istore 6, 2) := by decide +kernel
theorem dX12_heard_33 : decode cX12_heard 33 = .ok (.iload 7, 2) := by decide +kernel
theorem dX12_heard_35 : decode cX12_heard 35 = .ok (.ifCond .eq 28, 3) := by decide +kernel
theorem dX12_heard_38 : decode cX12_heard 38 = .ok (.aload_n 0, 1) := by decide +kernel
theorem dX12_heard_39 : decode cX12_heard 39 = .ok (.getfield 7, 3) := by decide +kernel
theorem dX12_heard_42 : decode cX12_heard 42 = .ok (.iconst 3, 1) := by decide +kernel
theorem dX12_heard_43 : decode cX12_heard 43 = .ok (.iaload, 1) := by decide +kernel
theorem dX12_heard_44 : decode cX12_heard 44 = .ok (.iload 6, 2) := by decide +kernel
theorem dX12_heard_46 : decode cX12_heard 46 = .ok (.ishr, 1) := by decide +kernel
theorem dX12_heard_47 : decode cX12_heard 47 = .ok (.iconst 1, 1) := by decide +kernel
theorem dX12_heard_48 : decode cX12_heard 48 = .ok (.iand, 1) := by decide +kernel
theorem dX12_heard_49 : decode cX12_heard 49 = .ok (.iload 5, 2) := by decide +kernel
theorem dX12_heard_51 : decode cX12_heard 51 = .ok (.iload 8, 2) := by decide +kernel
theorem dX12_heard_53 : decode cX12_heard 53 = .ok (.ishr, 1) := by decide +kernel
theorem dX12_heard_54 : decode cX12_heard 54 = .ok (.iconst 1, 1) := by decide +kernel
theorem dX12_heard_55 : decode cX12_heard 55 = .ok (.iand, 1) := by decide +kernel
theorem dX12_heard_56 : decode cX12_heard 56 = .ok (.if_icmp .ne 7, 3) := by decide +kernel
theorem dX12_heard_59 : decode cX12_heard 59 = .ok (.iconst 1, 1) := by decide +kernel
theorem dX12_heard_60 : decode cX12_heard 60 = .ok (.goto 4, 3) := by decide +kernel
theorem dX12_heard_63 : decode cX12_heard 63 = .ok (.iconst 0, 1) := by decide +kernel
theorem dX12_heard_64 : decode cX12_heard 64 = .ok (.istore 7, 2) := by decide +kernel
theorem dX12_heard_66 : decode cX12_heard 66 = .ok (.iinc 8 1, 3) := by decide +kernel
theorem dX12_heard_69 : decode cX12_heard 69 = .ok (.goto (-60), 3) := by decide +kernel
theorem dX12_heard_72 : decode cX12_heard 72 = .ok (.iload 7, 2) := by decide +kernel
theorem dX12_heard_74 : decode cX12_heard 74 = .ok (.ireturn, 1) := by decide +kernel
theorem dX12_begins_0 : decode cX12_begins 0 = .ok (.iconst 0, 1) := by decide +kernel
theorem dX12_begins_1 : decode cX12_begins 1 = .ok (.istore 5, 2) := by decide +kernel
theorem dX12_begins_3 : decode cX12_begins 3 = .ok (.iconst 0, 1) := by decide +kernel
theorem dX12_begins_4 : decode cX12_begins 4 = .ok (.istore 6, 2) := by decide +kernel
theorem dX12_begins_6 : decode cX12_begins 6 = .ok (.iload 6, 2) := by decide +kernel
theorem dX12_begins_8 : decode cX12_begins 8 = .ok (.aload_n 0, 1) := by decide +kernel
theorem dX12_begins_9 : decode cX12_begins 9 = .ok (.getfield 7, 3) := by decide +kernel
theorem dX12_begins_12 : decode cX12_begins 12 = .ok (.iconst 0, 1) := by decide +kernel
theorem dX12_begins_13 : decode cX12_begins 13 = .ok (.iaload, 1) := by decide +kernel
theorem dX12_begins_14 : decode cX12_begins 14 = .ok (.if_icmp .ge 36, 3) := by decide +kernel
theorem dX12_begins_17 : decode cX12_begins 17 = .ok (.iload 5, 2) := by decide +kernel
theorem dX12_begins_19 : decode cX12_begins 19 = .ok (.aload_n 0, 1) := by decide +kernel
theorem dX12_begins_20 : decode cX12_begins 20 = .ok (.iload_n 1, 1) := by decide +kernel
theorem dX12_begins_21 : decode cX12_begins 21 = .ok (.iload 6, 2) := by decide +kernel
theorem dX12_begins_23 : decode cX12_begins 23 = .ok (.iload_n 2, 1) := by decide +kernel
theorem dX12_begins_24 : decode cX12_begins 24 = .ok (.iload_n 3, 1) := by decide +kernel
theorem dX12_begins_25 : decode cX12_begins 25 = .ok (.iload 4, 2) := by decide +kernel
theorem dX12_begins_27 : decode cX12_begins 27 = .ok (.invokevirtual 203, 3) := by decide +kernel
theorem dX12_begins_30 : decode cX12_begins 30 = .ok (.ifCond .eq 10, 3) := by decide +kernel
theorem dX12_begins_33 : decode cX12_begins 33 = .ok (.iconst 1, 1) := by decide +kernel
theorem dX12_begins_34 : decode cX12_begins 34 = .ok (.iload 6, 2) := by decide +kernel
theorem dX12_begins_36 : decode cX12_begins 36 = .ok (.ishl, 1) := by decide +kernel
theorem dX12_begins_37 : decode cX12_begins 37 = .ok (.goto 4, 3) := by decide +kernel
theorem dX12_begins_40 : decode cX12_begins 40 = .ok (.iconst 0, 1) := by decide +kernel
theorem dX12_begins_41 : decode cX12_begins 41 = .ok (.ior, 1) := by decide +kernel
theorem dX12_begins_42 : decode cX12_begins 42 = .ok (.istore 5, 2) := by decide +kernel
theorem dX12_begins_44 : decode cX12_begins 44 = .ok (.iinc 6 1, 3) := by decide +kernel
theorem dX12_begins_47 : decode cX12_begins 47 = .ok (.goto (-41), 3) := by decide +kernel
theorem dX12_begins_50 : decode cX12_begins 50 = .ok (.iload 5, 2) := by decide +kernel
theorem dX12_begins_52 : decode cX12_begins 52 = .ok (.ireturn, 1) := by decide +kernel
theorem dX12_which_0 : decode cX12_which 0 = .ok (.iload_n 2, 1) := by decide +kernel
theorem dX12_which_1 : decode cX12_which 1 = .ok (.iconst 1, 1) := by decide +kernel
theorem dX12_which_2 : decode cX12_which 2 = .ok (.bipush 16, 2) := by decide +kernel
theorem dX12_which_4 : decode cX12_which 4 = .ok (.invokestatic 57, 3) := by decide +kernel
theorem dX12_which_7 : decode cX12_which 7 = .ok (.ifCond .eq 21, 3) := by decide +kernel
theorem dX12_which_10 : decode cX12_which 10 = .ok (.aload_n 0, 1) := by decide +kernel
theorem dX12_which_11 : decode cX12_which 11 = .ok (.iload_n 1, 1) := by decide +kernel
theorem dX12_which_12 : decode cX12_which 12 = .ok (.iload_n 2, 1) := by decide +kernel
theorem dX12_which_13 : decode cX12_which 13 = .ok (.invokevirtual 147, 3) := by decide +kernel
theorem dX12_which_16 : decode cX12_which 16 = .ok (.ifCond .eq 12, 3) := by decide +kernel
theorem dX12_which_19 : decode cX12_which 19 = .ok (.aload_n 0, 1) := by decide +kernel
theorem dX12_which_20 : decode cX12_which 20 = .ok (.iload_n 3, 1) := by decide +kernel
theorem dX12_which_21 : decode cX12_which 21 = .ok (.iload_n 2, 1) := by decide +kernel
theorem dX12_which_22 : decode cX12_which 22 = .ok (.invokevirtual 147, 3) := by decide +kernel
theorem dX12_which_25 : decode cX12_which 25 = .ok (.ifCond .ne 8, 3) := by decide +kernel
theorem dX12_which_28 : decode cX12_which 28 = .ok (.aload_n 0, 1) := by decide +kernel
theorem dX12_which_29 : decode cX12_which 29 = .ok (.invokevirtual 61, 3) := by decide +kernel
theorem dX12_which_32 : decode cX12_which 32 = .ok (.ireturn, 1) := by decide +kernel
theorem dX12_which_33 : decode cX12_which 33 = .ok (.iconst 0, 1) := by decide +kernel
theorem dX12_which_34 : decode cX12_which 34 = .ok (.istore 4, 2) := by decide +kernel
theorem dX12_which_36 : decode cX12_which 36 = .ok (.iconst 0, 1) := by decide +kernel
theorem dX12_which_37 : decode cX12_which 37 = .ok (.istore 5, 2) := by decide +kernel
theorem dX12_which_39 : decode cX12_which 39 = .ok (.iload 5, 2) := by decide +kernel
theorem dX12_which_41 : decode cX12_which 41 = .ok (.aload_n 0, 1) := by decide +kernel
theorem dX12_which_42 : decode cX12_which 42 = .ok (.getfield 7, 3) := by decide +kernel
theorem dX12_which_45 : decode cX12_which 45 = .ok (.bipush 6, 2) := by decide +kernel
theorem dX12_which_47 : decode cX12_which 47 = .ok (.iaload, 1) := by decide +kernel
theorem dX12_which_48 : decode cX12_which 48 = .ok (.if_icmp .ge 34, 3) := by decide +kernel
theorem dX12_which_51 : decode cX12_which 51 = .ok (.iload 4, 2) := by decide +kernel
theorem dX12_which_53 : decode cX12_which 53 = .ok (.aload_n 0, 1) := by decide +kernel
theorem dX12_which_54 : decode cX12_which 54 = .ok (.iload 5, 2) := by decide +kernel
theorem dX12_which_56 : decode cX12_which 56 = .ok (.iload_n 1, 1) := by decide +kernel
theorem dX12_which_57 : decode cX12_which 57 = .ok (.iload_n 2, 1) := by decide +kernel
theorem dX12_which_58 : decode cX12_which 58 = .ok (.iload_n 3, 1) := by decide +kernel
theorem dX12_which_59 : decode cX12_which 59 = .ok (.invokevirtual 207, 3) := by decide +kernel
theorem dX12_which_62 : decode cX12_which 62 = .ok (.ifCond .eq 10, 3) := by decide +kernel
theorem dX12_which_65 : decode cX12_which 65 = .ok (.iconst 1, 1) := by decide +kernel
theorem dX12_which_66 : decode cX12_which 66 = .ok (.iload 5, 2) := by decide +kernel
theorem dX12_which_68 : decode cX12_which 68 = .ok (.ishl, 1) := by decide +kernel
theorem dX12_which_69 : decode cX12_which 69 = .ok (.goto 4, 3) := by decide +kernel
theorem dX12_which_72 : decode cX12_which 72 = .ok (.iconst 0, 1) := by decide +kernel
theorem dX12_which_73 : decode cX12_which 73 = .ok (.ior, 1) := by decide +kernel
theorem dX12_which_74 : decode cX12_which 74 = .ok (.istore 4, 2) := by decide +kernel
theorem dX12_which_76 : decode cX12_which 76 = .ok (.iinc 5 1, 3) := by decide +kernel
theorem dX12_which_79 : decode cX12_which 79 = .ok (.goto (-40), 3) := by decide +kernel
theorem dX12_which_82 : decode cX12_which 82 = .ok (.iload 4, 2) := by decide +kernel
theorem dX12_which_84 : decode cX12_which 84 = .ok (.ireturn, 1) := by decide +kernel
theorem dX12_starts_0 : decode cX12_starts 0 = .ok (.aload_n 0, 1) := by decide +kernel
theorem dX12_starts_1 : decode cX12_starts 1 = .ok (.iload_n 1, 1) := by decide +kernel
theorem dX12_starts_2 : decode cX12_starts 2 = .ok (.invokevirtual 140, 3) := by decide +kernel
theorem dX12_starts_5 : decode cX12_starts 5 = .ok (.ifCond .eq 44, 3) := by decide +kernel
theorem dX12_starts_8 : decode cX12_starts 8 = .ok (.iload_n 3, 1) := by decide +kernel
theorem dX12_starts_9 : decode cX12_starts 9 = .ok (.iconst 1, 1) := by decide +kernel
theorem dX12_starts_10 : decode cX12_starts 10 = .ok (.bipush 16, 2) := by decide +kernel
theorem dX12_starts_12 : decode cX12_starts 12 = .ok (.invokestatic 57, 3) := by decide +kernel
theorem dX12_starts_15 : decode cX12_starts 15 = .ok (.ifCond .eq 34, 3) := by decide +kernel
theorem dX12_starts_18 : decode cX12_starts 18 = .ok (.aload_n 0, 1) := by decide +kernel
theorem dX12_starts_19 : decode cX12_starts 19 = .ok (.iload_n 2, 1) := by decide +kernel
theorem dX12_starts_20 : decode cX12_starts 20 = .ok (.iload_n 3, 1) := by decide +kernel
theorem dX12_starts_21 : decode cX12_starts 21 = .ok (.invokevirtual 147, 3) := by decide +kernel
theorem dX12_starts_24 : decode cX12_starts 24 = .ok (.ifCond .eq 25, 3) := by decide +kernel
theorem dX12_starts_27 : decode cX12_starts 27 = .ok (.aload_n 0, 1) := by decide +kernel
theorem dX12_starts_28 : decode cX12_starts 28 = .ok (.iload 4, 2) := by decide +kernel
theorem dX12_starts_30 : decode cX12_starts 30 = .ok (.iload_n 3, 1) := by decide +kernel
theorem dX12_starts_31 : decode cX12_starts 31 = .ok (.invokevirtual 147, 3) := by decide +kernel
theorem dX12_starts_34 : decode cX12_starts 34 = .ok (.ifCond .eq 15, 3) := by decide +kernel
theorem dX12_starts_37 : decode cX12_starts 37 = .ok (.aload_n 0, 1) := by decide +kernel
theorem dX12_starts_38 : decode cX12_starts 38 = .ok (.iload_n 1, 1) := by decide +kernel
theorem dX12_starts_39 : decode cX12_starts 39 = .ok (.iload_n 2, 1) := by decide +kernel
theorem dX12_starts_40 : decode cX12_starts 40 = .ok (.iload_n 3, 1) := by decide +kernel
theorem dX12_starts_41 : decode cX12_starts 41 = .ok (.iload 4, 2) := by decide +kernel
theorem dX12_starts_43 : decode cX12_starts 43 = .ok (.invokevirtual 207, 3) := by decide +kernel
theorem dX12_starts_46 : decode cX12_starts 46 = .ok (.goto 7, 3) := by decide +kernel
theorem dX12_starts_49 : decode cX12_starts 49 = .ok (.aload_n 0, 1) := by decide +kernel
theorem dX12_starts_50 : decode cX12_starts 50 = .ok (.invokevirtual 61, 3) := by decide +kernel
theorem dX12_starts_53 : decode cX12_starts 53 = .ok (.ireturn, 1) := by decide +kernel
theorem dX12_drawn_0 : decode cX12_drawn 0 = .ok (.aload_n 0, 1) := by decide +kernel
theorem dX12_drawn_1 : decode cX12_drawn 1 = .ok (.iload_n 1, 1) := by decide +kernel
theorem dX12_drawn_2 : decode cX12_drawn 2 = .ok (.invokevirtual 140, 3) := by decide +kernel
theorem dX12_drawn_5 : decode cX12_drawn 5 = .ok (.ifCond .eq 23, 3) := by decide +kernel
theorem dX12_drawn_8 : decode cX12_drawn 8 = .ok (.iload_n 2, 1) := by decide +kernel
theorem dX12_drawn_9 : decode cX12_drawn 9 = .ok (.iconst 0, 1) := by decide +kernel
theorem dX12_drawn_10 : decode cX12_drawn 10 = .ok (.bipush 12, 2) := by decide +kernel
theorem dX12_drawn_12 : decode cX12_drawn 12 = .ok (.invokestatic 57, 3) := by decide +kernel
theorem dX12_drawn_15 : decode cX12_drawn 15 = .ok (.ifCond .eq 13, 3) := by decide +kernel
theorem dX12_drawn_18 : decode cX12_drawn 18 = .ok (.iload_n 3, 1) := by decide +kernel
theorem dX12_drawn_19 : decode cX12_drawn 19 = .ok (.iconst 0, 1) := by decide +kernel
theorem dX12_drawn_20 : decode cX12_drawn 20 = .ok (.bipush 10, 2) := by decide +kernel
theorem dX12_drawn_22 : decode cX12_drawn 22 = .ok (.invokestatic 57, 3) := by decide +kernel
theorem dX12_drawn_25 : decode cX12_drawn 25 = .ok (.ifCond .ne 8, 3) := by decide +kernel
theorem dX12_drawn_28 : decode cX12_drawn 28 = .ok (.aload_n 0, 1) := by decide +kernel
theorem dX12_drawn_29 : decode cX12_drawn 29 = .ok (.invokevirtual 61, 3) := by decide +kernel
theorem dX12_drawn_32 : decode cX12_drawn 32 = .ok (.ireturn, 1) := by decide +kernel
theorem dX12_drawn_33 : decode cX12_drawn 33 = .ok (.iconst 0, 1) := by decide +kernel
theorem dX12_drawn_34 : decode cX12_drawn 34 = .ok (.istore 4, 2) := by decide +kernel
theorem dX12_drawn_36 : decode cX12_drawn 36 = .ok (.iload 4, 2) := by decide +kernel
theorem dX12_drawn_38 : decode cX12_drawn 38 = .ok (.iconst 5, 1) := by decide +kernel
theorem dX12_drawn_39 : decode cX12_drawn 39 = .ok (.if_icmp .ge 38, 3) := by decide +kernel
theorem dX12_drawn_42 : decode cX12_drawn 42 = .ok (.aload_n 0, 1) := by decide +kernel
theorem dX12_drawn_43 : decode cX12_drawn 43 = .ok (.getfield 45, 3) := by decide +kernel
theorem dX12_drawn_46 : decode cX12_drawn 46 = .ok (.iconst 5, 1) := by decide +kernel
theorem dX12_drawn_47 : decode cX12_drawn 47 = .ok (.iload_n 2, 1) := by decide +kernel
theorem dX12_drawn_48 : decode cX12_drawn 48 = .ok (.iconst 2, 1) := by decide +kernel
theorem dX12_drawn_49 : decode cX12_drawn 49 = .ok (.irem, 1) := by decide +kernel
theorem dX12_drawn_50 : decode cX12_drawn 50 = .ok (.imul, 1) := by decide +kernel
theorem dX12_drawn_51 : decode cX12_drawn 51 = .ok (.iload 4, 2) := by decide +kernel
theorem dX12_drawn_53 : decode cX12_drawn 53 = .ok (.iadd, 1) := by decide +kernel
theorem dX12_drawn_54 : decode cX12_drawn 54 = .ok (.iload 4, 2) := by decide +kernel
theorem dX12_drawn_56 : decode cX12_drawn 56 = .ok (.aload_n 0, 1) := by decide +kernel
theorem dX12_drawn_57 : decode cX12_drawn 57 = .ok (.getfield 7, 3) := by decide +kernel
theorem dX12_drawn_60 : decode cX12_drawn 60 = .ok (.iconst 2, 1) := by decide +kernel
theorem dX12_drawn_61 : decode cX12_drawn 61 = .ok (.iaload, 1) := by decide +kernel
theorem dX12_drawn_62 : decode cX12_drawn 62 = .ok (.if_icmp .ne 7, 3) := by decide +kernel
theorem dX12_drawn_65 : decode cX12_drawn 65 = .ok (.lconst 1, 1) := by decide +kernel
theorem dX12_drawn_66 : decode cX12_drawn 66 = .ok (.goto 4, 3) := by decide +kernel
theorem dX12_drawn_69 : decode cX12_drawn 69 = .ok (.lconst 0, 1) := by decide +kernel
theorem dX12_drawn_70 : decode cX12_drawn 70 = .ok (.lastore, 1) := by decide +kernel
theorem dX12_drawn_71 : decode cX12_drawn 71 = .ok (.iinc 4 1, 3) := by decide +kernel
theorem dX12_drawn_74 : decode cX12_drawn 74 = .ok (.goto (-38), 3) := by decide +kernel
theorem dX12_drawn_77 : decode cX12_drawn 77 = .ok (.aload_n 0, 1) := by decide +kernel
theorem dX12_drawn_78 : decode cX12_drawn 78 = .ok (.getfield 7, 3) := by decide +kernel
theorem dX12_drawn_81 : decode cX12_drawn 81 = .ok (.iconst 0, 1) := by decide +kernel
theorem dX12_drawn_82 : decode cX12_drawn 82 = .ok (.iaload, 1) := by decide +kernel
theorem dX12_drawn_83 : decode cX12_drawn 83 = .ok (.i2l, 1) := by decide +kernel
theorem dX12_drawn_84 : decode cX12_drawn 84 = .ok (.lstore 4, 2) := by decide +kernel
theorem dX12_drawn_86 : decode cX12_drawn 86 = .ok (.iload_n 2, 1) := by decide +kernel
theorem dX12_drawn_87 : decode cX12_drawn 87 = .ok (.iconst 1, 1) := by decide +kernel
theorem dX12_drawn_88 : decode cX12_drawn 88 = .ok (.isub, 1) := by decide +kernel
theorem dX12_drawn_89 : decode cX12_drawn 89 = .ok (.istore 6, 2) := by decide +kernel
theorem dX12_drawn_91 : decode cX12_drawn 91 = .ok (.iload 6, 2) := by decide +kernel
theorem dX12_drawn_93 : decode cX12_drawn 93 = .ok (.ifCond .lt 107, 3) := by decide +kernel
theorem dX12_drawn_96 : decode cX12_drawn 96 = .ok (.iconst 5, 1) := by decide +kernel
theorem dX12_drawn_97 : decode cX12_drawn 97 = .ok (.iload 6, 2) := by decide +kernel
theorem dX12_drawn_99 : decode cX12_drawn 99 = .ok (.iconst 1, 1) := by decide +kernel
theorem dX12_drawn_100 : decode cX12_drawn 100 = .ok (.iadd, 1) := by decide +kernel
theorem dX12_drawn_101 : decode cX12_drawn 101 = .ok (.iconst 2, 1) := by decide +kernel
theorem dX12_drawn_102 : decode cX12_drawn 102 = .ok (.irem, 1) := by decide +kernel
theorem dX12_drawn_103 : decode cX12_drawn 103 = .ok (.imul, 1) := by decide +kernel
theorem dX12_drawn_104 : decode cX12_drawn 104 = .ok (.istore 7, 2) := by decide +kernel
theorem dX12_drawn_106 : decode cX12_drawn 106 = .ok (.iconst 0, 1) := by decide +kernel
theorem dX12_drawn_107 : decode cX12_drawn 107 = .ok (.istore 8, 2) := by decide +kernel
theorem dX12_drawn_109 : decode cX12_drawn 109 = .ok (.iload 8, 2) := by decide +kernel
theorem dX12_drawn_111 : decode cX12_drawn 111 = .ok (.aload_n 0, 1) := by decide +kernel
theorem dX12_drawn_112 : decode cX12_drawn 112 = .ok (.getfield 7, 3) := by decide +kernel
theorem dX12_drawn_115 : decode cX12_drawn 115 = .ok (.iconst 0, 1) := by decide +kernel
theorem dX12_drawn_116 : decode cX12_drawn 116 = .ok (.iaload, 1) := by decide +kernel
theorem dX12_drawn_117 : decode cX12_drawn 117 = .ok (.if_icmp .ge 69, 3) := by decide +kernel
theorem dX12_drawn_120 : decode cX12_drawn 120 = .ok (.aload_n 0, 1) := by decide +kernel
theorem dX12_drawn_121 : decode cX12_drawn 121 = .ok (.getfield 45, 3) := by decide +kernel
theorem dX12_drawn_124 : decode cX12_drawn 124 = .ok (.iconst 5, 1) := by decide +kernel
theorem dX12_drawn_125 : decode cX12_drawn 125 = .ok (.iload 6, 2) := by decide +kernel
theorem dX12_drawn_127 : decode cX12_drawn 127 = .ok (.iconst 2, 1) := by decide +kernel
theorem dX12_drawn_128 : decode cX12_drawn 128 = .ok (.irem, 1) := by decide +kernel
theorem dX12_drawn_129 : decode cX12_drawn 129 = .ok (.imul, 1) := by decide +kernel
theorem dX12_drawn_130 : decode cX12_drawn 130 = .ok (.iload 8, 2) := by decide +kernel
theorem dX12_drawn_132 : decode cX12_drawn 132 = .ok (.iadd, 1) := by decide +kernel
theorem dX12_drawn_133 : decode cX12_drawn 133 = .ok (.iload_n 3, 1) := by decide +kernel
theorem dX12_drawn_134 : decode cX12_drawn 134 = .ok (.i2l, 1) := by decide +kernel
theorem dX12_drawn_135 : decode cX12_drawn 135 = .ok (.aload_n 0, 1) := by decide +kernel
theorem dX12_drawn_136 : decode cX12_drawn 136 = .ok (.getfield 45, 3) := by decide +kernel
theorem dX12_drawn_139 : decode cX12_drawn 139 = .ok (.iload 7, 2) := by decide +kernel
theorem dX12_drawn_141 : decode cX12_drawn 141 = .ok (.aload_n 0, 1) := by decide +kernel
theorem dX12_drawn_142 : decode cX12_drawn 142 = .ok (.iload_n 1, 1) := by decide +kernel
theorem dX12_drawn_143 : decode cX12_drawn 143 = .ok (.iload 8, 2) := by decide +kernel
theorem dX12_drawn_145 : decode cX12_drawn 145 = .ok (.iconst 1, 1) := by decide +kernel
theorem dX12_drawn_146 : decode cX12_drawn 146 = .ok (.iload 6, 2) := by decide +kernel
theorem dX12_drawn_148 : decode cX12_drawn 148 = .ok (.invokevirtual 143, 3) := by decide +kernel
theorem dX12_drawn_151 : decode cX12_drawn 151 = .ok (.iadd, 1) := by decide +kernel
theorem dX12_drawn_152 : decode cX12_drawn 152 = .ok (.laload, 1) := by decide +kernel
theorem dX12_drawn_153 : decode cX12_drawn 153 = .ok (.lmul, 1) := by decide +kernel
theorem dX12_drawn_154 : decode cX12_drawn 154 = .ok (.bipush 10, 2) := by decide +kernel
theorem dX12_drawn_156 : decode cX12_drawn 156 = .ok (.iload_n 3, 1) := by decide +kernel
theorem dX12_drawn_157 : decode cX12_drawn 157 = .ok (.isub, 1) := by decide +kernel
theorem dX12_drawn_158 : decode cX12_drawn 158 = .ok (.i2l, 1) := by decide +kernel
theorem dX12_drawn_159 : decode cX12_drawn 159 = .ok (.aload_n 0, 1) := by decide +kernel
theorem dX12_drawn_160 : decode cX12_drawn 160 = .ok (.getfield 45, 3) := by decide +kernel
theorem dX12_drawn_163 : decode cX12_drawn 163 = .ok (.iload 7, 2) := by decide +kernel
theorem dX12_drawn_165 : decode cX12_drawn 165 = .ok (.aload_n 0, 1) := by decide +kernel
theorem dX12_drawn_166 : decode cX12_drawn 166 = .ok (.iload_n 1, 1) := by decide +kernel
theorem dX12_drawn_167 : decode cX12_drawn 167 = .ok (.iload 8, 2) := by decide +kernel
theorem dX12_drawn_169 : decode cX12_drawn 169 = .ok (.iconst 0, 1) := by decide +kernel
theorem dX12_drawn_170 : decode cX12_drawn 170 = .ok (.iload 6, 2) := by decide +kernel
theorem dX12_drawn_172 : decode cX12_drawn 172 = .ok (.invokevirtual 143, 3) := by decide +kernel
theorem dX12_drawn_175 : decode cX12_drawn 175 = .ok (.iadd, 1) := by decide +kernel
theorem dX12_drawn_176 : decode cX12_drawn 176 = .ok (.laload, 1) := by decide +kernel
theorem dX12_drawn_177 : decode cX12_drawn 177 = .ok (.lmul, 1) := by decide +kernel
theorem dX12_drawn_178 : decode cX12_drawn 178 = .ok (.ladd, 1) := by decide +kernel
theorem dX12_drawn_179 : decode cX12_drawn 179 = .ok (.lastore, 1) := by decide +kernel
theorem dX12_drawn_180 : decode cX12_drawn 180 = .ok (.iinc 8 1, 3) := by decide +kernel
theorem dX12_drawn_183 : decode cX12_drawn 183 = .ok (.goto (-74), 3) := by decide +kernel
theorem dX12_drawn_186 : decode cX12_drawn 186 = .ok (.lload 4, 2) := by decide +kernel
theorem dX12_drawn_188 : decode cX12_drawn 188 = .ok (.ldc2_w 210, 3) := by decide +kernel
theorem dX12_drawn_191 : decode cX12_drawn 191 = .ok (.lmul, 1) := by decide +kernel
theorem dX12_drawn_192 : decode cX12_drawn 192 = .ok (.lstore 4, 2) := by decide +kernel
theorem dX12_drawn_194 : decode cX12_drawn 194 = .ok (.iinc 6 (-1), 3) := by decide +kernel
theorem dX12_drawn_197 : decode cX12_drawn 197 = .ok (.goto (-106), 3) := by decide +kernel
theorem dX12_drawn_200 : decode cX12_drawn 200 = .ok (.lconst 0, 1) := by decide +kernel
theorem dX12_drawn_201 : decode cX12_drawn 201 = .ok (.lstore 6, 2) := by decide +kernel
theorem dX12_drawn_203 : decode cX12_drawn 203 = .ok (.iconst 0, 1) := by decide +kernel
theorem dX12_drawn_204 : decode cX12_drawn 204 = .ok (.istore 8, 2) := by decide +kernel
theorem dX12_drawn_206 : decode cX12_drawn 206 = .ok (.iload 8, 2) := by decide +kernel
theorem dX12_drawn_208 : decode cX12_drawn 208 = .ok (.aload_n 0, 1) := by decide +kernel
theorem dX12_drawn_209 : decode cX12_drawn 209 = .ok (.getfield 7, 3) := by decide +kernel
theorem dX12_drawn_212 : decode cX12_drawn 212 = .ok (.iconst 0, 1) := by decide +kernel
theorem dX12_drawn_213 : decode cX12_drawn 213 = .ok (.iaload, 1) := by decide +kernel
theorem dX12_drawn_214 : decode cX12_drawn 214 = .ok (.if_icmp .ge 21, 3) := by decide +kernel
theorem dX12_drawn_217 : decode cX12_drawn 217 = .ok (.lload 6, 2) := by decide +kernel
theorem dX12_drawn_219 : decode cX12_drawn 219 = .ok (.aload_n 0, 1) := by decide +kernel
theorem dX12_drawn_220 : decode cX12_drawn 220 = .ok (.getfield 45, 3) := by decide +kernel
theorem dX12_drawn_223 : decode cX12_drawn 223 = .ok (.iload 8, 2) := by decide +kernel
theorem dX12_drawn_225 : decode cX12_drawn 225 = .ok (.laload, 1) := by decide +kernel
theorem dX12_drawn_226 : decode cX12_drawn 226 = .ok (.ladd, 1) := by decide +kernel
theorem dX12_drawn_227 : decode cX12_drawn 227 = .ok (.lstore 6, 2) := by decide +kernel
theorem dX12_drawn_229 : decode cX12_drawn 229 = .ok (.iinc 8 1, 3) := by decide +kernel
theorem dX12_drawn_232 : decode cX12_drawn 232 = .ok (.goto (-26), 3) := by decide +kernel
theorem dX12_drawn_235 : decode cX12_drawn 235 = .ok (.lload 6, 2) := by decide +kernel
theorem dX12_drawn_237 : decode cX12_drawn 237 = .ok (.lstore 8, 2) := by decide +kernel
theorem dX12_drawn_239 : decode cX12_drawn 239 = .ok (.lload 4, 2) := by decide +kernel
theorem dX12_drawn_241 : decode cX12_drawn 241 = .ok (.lstore 10, 2) := by decide +kernel
theorem dX12_drawn_243 : decode cX12_drawn 243 = .ok (.lload 8, 2) := by decide +kernel
theorem dX12_drawn_245 : decode cX12_drawn 245 = .ok (.lconst 0, 1) := by decide +kernel
theorem dX12_drawn_246 : decode cX12_drawn 246 = .ok (.lcmp, 1) := by decide +kernel
theorem dX12_drawn_247 : decode cX12_drawn 247 = .ok (.ifCond .eq 21, 3) := by decide +kernel
theorem dX12_drawn_250 : decode cX12_drawn 250 = .ok (.lload 10, 2) := by decide +kernel
theorem dX12_drawn_252 : decode cX12_drawn 252 = .ok (.lload 8, 2) := by decide +kernel
theorem dX12_drawn_254 : decode cX12_drawn 254 = .ok (.lrem, 1) := by decide +kernel
theorem dX12_drawn_255 : decode cX12_drawn 255 = .ok (.lstore 12, 2) := by decide +kernel
theorem dX12_drawn_257 : decode cX12_drawn 257 = .ok (.lload 8, 2) := by decide +kernel
theorem dX12_drawn_259 : decode cX12_drawn 259 = .ok (.lstore 10, 2) := by decide +kernel
theorem dX12_drawn_261 : decode cX12_drawn 261 = .ok (.lload 12, 2) := by decide +kernel
theorem dX12_drawn_263 : decode cX12_drawn 263 = .ok (.lstore 8, 2) := by decide +kernel
theorem dX12_drawn_265 : decode cX12_drawn 265 = .ok (.goto (-22), 3) := by decide +kernel
theorem dX12_drawn_268 : decode cX12_drawn 268 = .ok (.aload_n 0, 1) := by decide +kernel
theorem dX12_drawn_269 : decode cX12_drawn 269 = .ok (.lload 6, 2) := by decide +kernel
theorem dX12_drawn_271 : decode cX12_drawn 271 = .ok (.lload 10, 2) := by decide +kernel
theorem dX12_drawn_273 : decode cX12_drawn 273 = .ok (.ldiv, 1) := by decide +kernel
theorem dX12_drawn_274 : decode cX12_drawn 274 = .ok (.putfield 212, 3) := by decide +kernel
theorem dX12_drawn_277 : decode cX12_drawn 277 = .ok (.aload_n 0, 1) := by decide +kernel
theorem dX12_drawn_278 : decode cX12_drawn 278 = .ok (.lload 4, 2) := by decide +kernel
theorem dX12_drawn_280 : decode cX12_drawn 280 = .ok (.lload 10, 2) := by decide +kernel
theorem dX12_drawn_282 : decode cX12_drawn 282 = .ok (.ldiv, 1) := by decide +kernel
theorem dX12_drawn_283 : decode cX12_drawn 283 = .ok (.putfield 49, 3) := by decide +kernel
theorem dX12_drawn_286 : decode cX12_drawn 286 = .ok (.iconst 1, 1) := by decide +kernel
theorem dX12_drawn_287 : decode cX12_drawn 287 = .ok (.ireturn, 1) := by decide +kernel
theorem dX12_part_0 : decode cX12_part 0 = .ok (.iload_n 1, 1) := by decide +kernel
theorem dX12_part_1 : decode cX12_part 1 = .ok (.ifCond .ne 10, 3) := by decide +kernel
theorem dX12_part_4 : decode cX12_part 4 = .ok (.aload_n 0, 1) := by decide +kernel
theorem dX12_part_5 : decode cX12_part 5 = .ok (.getfield 212, 3) := by decide +kernel
theorem dX12_part_8 : decode cX12_part 8 = .ok (.goto 20, 3) := by decide +kernel
theorem dX12_part_11 : decode cX12_part 11 = .ok (.iload_n 1, 1) := by decide +kernel
theorem dX12_part_12 : decode cX12_part 12 = .ok (.iconst 1, 1) := by decide +kernel
theorem dX12_part_13 : decode cX12_part 13 = .ok (.if_icmp .ne 10, 3) := by decide +kernel
theorem dX12_part_16 : decode cX12_part 16 = .ok (.aload_n 0, 1) := by decide +kernel
theorem dX12_part_17 : decode cX12_part 17 = .ok (.getfield 49, 3) := by decide +kernel
theorem dX12_part_20 : decode cX12_part 20 = .ok (.goto 8, 3) := by decide +kernel
theorem dX12_part_23 : decode cX12_part 23 = .ok (.aload_n 0, 1) := by decide +kernel
theorem dX12_part_24 : decode cX12_part 24 = .ok (.invokevirtual 61, 3) := by decide +kernel
theorem dX12_part_27 : decode cX12_part 27 = .ok (.i2l, 1) := by decide +kernel
theorem dX12_part_28 : decode cX12_part 28 = .ok (.lreturn, 1) := by decide +kernel
theorem dX12_image_0 : decode cX12_image 0 = .ok (.iload_n 1, 1) := by decide +kernel
theorem dX12_image_1 : decode cX12_image 1 = .ok (.iconst 0, 1) := by decide +kernel
theorem dX12_image_2 : decode cX12_image 2 = .ok (.iconst 1, 1) := by decide +kernel
theorem dX12_image_3 : decode cX12_image 3 = .ok (.invokestatic 57, 3) := by decide +kernel
theorem dX12_image_6 : decode cX12_image 6 = .ok (.ifCond .ne 8, 3) := by decide +kernel
theorem dX12_image_9 : decode cX12_image 9 = .ok (.aload_n 0, 1) := by decide +kernel
theorem dX12_image_10 : decode cX12_image 10 = .ok (.invokevirtual 61, 3) := by decide +kernel
theorem dX12_image_13 : decode cX12_image 13 = .ok (.ireturn, 1) := by decide +kernel
theorem dX12_image_14 : decode cX12_image 14 = .ok (.iconst 0, 1) := by decide +kernel
theorem dX12_image_15 : decode cX12_image 15 = .ok (.istore_n 2, 1) := by decide +kernel
theorem dX12_image_16 : decode cX12_image 16 = .ok (.iload_n 2, 1) := by decide +kernel
theorem dX12_image_17 : decode cX12_image 17 = .ok (.bipush 25, 2) := by decide +kernel
theorem dX12_image_19 : decode cX12_image 19 = .ok (.if_icmp .ge 26, 3) := by decide +kernel
theorem dX12_image_22 : decode cX12_image 22 = .ok (.aload_n 0, 1) := by decide +kernel
theorem dX12_image_23 : decode cX12_image 23 = .ok (.getfield 16, 3) := by decide +kernel
theorem dX12_image_26 : decode cX12_image 26 = .ok (.bipush 25, 2) := by decide +kernel
theorem dX12_image_28 : decode cX12_image 28 = .ok (.iload_n 1, 1) := by decide +kernel
theorem dX12_image_29 : decode cX12_image 29 = .ok (.imul, 1) := by decide +kernel
theorem dX12_image_30 : decode cX12_image 30 = .ok (.iload_n 2, 1) := by decide +kernel
theorem dX12_image_31 : decode cX12_image 31 = .ok (.iadd, 1) := by decide +kernel
theorem dX12_image_32 : decode cX12_image 32 = .ok (.aload_n 0, 1) := by decide +kernel
theorem dX12_image_33 : decode cX12_image 33 = .ok (.getfield 7, 3) := by decide +kernel
theorem dX12_image_36 : decode cX12_image 36 = .ok (.iload_n 2, 1) := by decide +kernel
theorem dX12_image_37 : decode cX12_image 37 = .ok (.iaload, 1) := by decide +kernel
theorem dX12_image_38 : decode cX12_image 38 = .ok (.iastore, 1) := by decide +kernel
theorem dX12_image_39 : decode cX12_image 39 = .ok (.iinc 2 1, 3) := by decide +kernel
theorem dX12_image_42 : decode cX12_image 42 = .ok (.goto (-26), 3) := by decide +kernel
theorem dX12_image_45 : decode cX12_image 45 = .ok (.aload_n 0, 1) := by decide +kernel
theorem dX12_image_46 : decode cX12_image 46 = .ok (.getfield 19, 3) := by decide +kernel
theorem dX12_image_49 : decode cX12_image 49 = .ok (.iload_n 1, 1) := by decide +kernel
theorem dX12_image_50 : decode cX12_image 50 = .ok (.iconst 1, 1) := by decide +kernel
theorem dX12_image_51 : decode cX12_image 51 = .ok (.bastore, 1) := by decide +kernel
theorem dX12_image_52 : decode cX12_image 52 = .ok (.iconst 1, 1) := by decide +kernel
theorem dX12_image_53 : decode cX12_image 53 = .ok (.ireturn, 1) := by decide +kernel
theorem dX12_from_0 : decode cX12_from 0 = .ok (.iload_n 1, 1) := by decide +kernel
theorem dX12_from_1 : decode cX12_from 1 = .ok (.iconst 0, 1) := by decide +kernel
theorem dX12_from_2 : decode cX12_from 2 = .ok (.iconst 1, 1) := by decide +kernel
theorem dX12_from_3 : decode cX12_from 3 = .ok (.invokestatic 57, 3) := by decide +kernel
theorem dX12_from_6 : decode cX12_from 6 = .ok (.ifCond .ne 8, 3) := by decide +kernel
theorem dX12_from_9 : decode cX12_from 9 = .ok (.aload_n 0, 1) := by decide +kernel
theorem dX12_from_10 : decode cX12_from 10 = .ok (.invokevirtual 61, 3) := by decide +kernel
theorem dX12_from_13 : decode cX12_from 13 = .ok (.ireturn, 1) := by decide +kernel
theorem dX12_from_14 : decode cX12_from 14 = .ok (.aload_n 0, 1) := by decide +kernel
theorem dX12_from_15 : decode cX12_from 15 = .ok (.getfield 19, 3) := by decide +kernel
theorem dX12_from_18 : decode cX12_from 18 = .ok (.iload_n 1, 1) := by decide +kernel
theorem dX12_from_19 : decode cX12_from 19 = .ok (.baload, 1) := by decide +kernel
theorem dX12_from_20 : decode cX12_from 20 = .ok (.ifCond .ne 11, 3) := by decide +kernel
theorem dX12_from_23 : decode cX12_from 23 = .ok (.aload_n 0, 1) := by decide +kernel
theorem dX12_from_24 : decode cX12_from 24 = .ok (.iconst 1, 1) := by decide +kernel
theorem dX12_from_25 : decode cX12_from 25 = .ok (.bipush (-3), 2) := by decide +kernel
theorem dX12_from_27 : decode cX12_from 27 = .ok (.invokevirtual 53, 3) := by decide +kernel
theorem dX12_from_30 : decode cX12_from 30 = .ok (.ireturn, 1) := by decide +kernel
theorem dX12_from_31 : decode cX12_from 31 = .ok (.iconst 0, 1) := by decide +kernel
theorem dX12_from_32 : decode cX12_from 32 = .ok (.istore_n 2, 1) := by decide +kernel
theorem dX12_from_33 : decode cX12_from 33 = .ok (.iload_n 2, 1) := by decide +kernel
theorem dX12_from_34 : decode cX12_from 34 = .ok (.bipush 25, 2) := by decide +kernel
theorem dX12_from_36 : decode cX12_from 36 = .ok (.if_icmp .ge 26, 3) := by decide +kernel
theorem dX12_from_39 : decode cX12_from 39 = .ok (.aload_n 0, 1) := by decide +kernel
theorem dX12_from_40 : decode cX12_from 40 = .ok (.getfield 7, 3) := by decide +kernel
theorem dX12_from_43 : decode cX12_from 43 = .ok (.iload_n 2, 1) := by decide +kernel
theorem dX12_from_44 : decode cX12_from 44 = .ok (.aload_n 0, 1) := by decide +kernel
theorem dX12_from_45 : decode cX12_from 45 = .ok (.getfield 16, 3) := by decide +kernel
theorem dX12_from_48 : decode cX12_from 48 = .ok (.bipush 25, 2) := by decide +kernel
theorem dX12_from_50 : decode cX12_from 50 = .ok (.iload_n 1, 1) := by decide +kernel
theorem dX12_from_51 : decode cX12_from 51 = .ok (.imul, 1) := by decide +kernel
theorem dX12_from_52 : decode cX12_from 52 = .ok (.iload_n 2, 1) := by decide +kernel
theorem dX12_from_53 : decode cX12_from 53 = .ok (.iadd, 1) := by decide +kernel
theorem dX12_from_54 : decode cX12_from 54 = .ok (.iaload, 1) := by decide +kernel
theorem dX12_from_55 : decode cX12_from 55 = .ok (.iastore, 1) := by decide +kernel
theorem dX12_from_56 : decode cX12_from 56 = .ok (.iinc 2 1, 3) := by decide +kernel
theorem dX12_from_59 : decode cX12_from 59 = .ok (.goto (-26), 3) := by decide +kernel
theorem dX12_from_62 : decode cX12_from 62 = .ok (.iconst 1, 1) := by decide +kernel
theorem dX12_from_63 : decode cX12_from 63 = .ok (.ireturn, 1) := by decide +kernel
theorem dX12_status_0 : decode cX12_status 0 = .ok (.iload_n 1, 1) := by decide +kernel
theorem dX12_status_1 : decode cX12_status 1 = .ok (.iconst 0, 1) := by decide +kernel
theorem dX12_status_2 : decode cX12_status 2 = .ok (.iconst 2, 1) := by decide +kernel
theorem dX12_status_3 : decode cX12_status 3 = .ok (.invokestatic 57, 3) := by decide +kernel
theorem dX12_status_6 : decode cX12_status 6 = .ok (.ifCond .eq 12, 3) := by decide +kernel
theorem dX12_status_9 : decode cX12_status 9 = .ok (.aload_n 0, 1) := by decide +kernel
theorem dX12_status_10 : decode cX12_status 10 = .ok (.getfield 26, 3) := by decide +kernel
theorem dX12_status_13 : decode cX12_status 13 = .ok (.iload_n 1, 1) := by decide +kernel
theorem dX12_status_14 : decode cX12_status 14 = .ok (.iaload, 1) := by decide +kernel
theorem dX12_status_15 : decode cX12_status 15 = .ok (.goto 9, 3) := by decide +kernel
theorem dX12_status_18 : decode cX12_status 18 = .ok (.aload_n 0, 1) := by decide +kernel
theorem dX12_status_19 : decode cX12_status 19 = .ok (.iconst 0, 1) := by decide +kernel
theorem dX12_status_20 : decode cX12_status 20 = .ok (.iconst (-1), 1) := by decide +kernel
theorem dX12_status_21 : decode cX12_status 21 = .ok (.invokevirtual 53, 3) := by decide +kernel
theorem dX12_status_24 : decode cX12_status 24 = .ok (.ireturn, 1) := by decide +kernel
theorem dX12_counted_0 : decode cX12_counted 0 = .ok (.iload_n 1, 1) := by decide +kernel
theorem dX12_counted_1 : decode cX12_counted 1 = .ok (.ifCond .ne 12, 3) := by decide +kernel
theorem dX12_counted_4 : decode cX12_counted 4 = .ok (.aload_n 0, 1) := by decide +kernel
theorem dX12_counted_5 : decode cX12_counted 5 = .ok (.getfield 7, 3) := by decide +kernel
theorem dX12_counted_8 : decode cX12_counted 8 = .ok (.iconst 0, 1) := by decide +kernel
theorem dX12_counted_9 : decode cX12_counted 9 = .ok (.iaload, 1) := by decide +kernel
theorem dX12_counted_10 : decode cX12_counted 10 = .ok (.goto 39, 3) := by decide +kernel
theorem dX12_counted_13 : decode cX12_counted 13 = .ok (.iload_n 1, 1) := by decide +kernel
theorem dX12_counted_14 : decode cX12_counted 14 = .ok (.iconst 1, 1) := by decide +kernel
theorem dX12_counted_15 : decode cX12_counted 15 = .ok (.if_icmp .ne 13, 3) := by decide +kernel
theorem dX12_counted_18 : decode cX12_counted 18 = .ok (.aload_n 0, 1) := by decide +kernel
theorem dX12_counted_19 : decode cX12_counted 19 = .ok (.getfield 7, 3) := by decide +kernel
theorem dX12_counted_22 : decode cX12_counted 22 = .ok (.bipush 6, 2) := by decide +kernel
theorem dX12_counted_24 : decode cX12_counted 24 = .ok (.iaload, 1) := by decide +kernel
theorem dX12_counted_25 : decode cX12_counted 25 = .ok (.goto 24, 3) := by decide +kernel
theorem dX12_counted_28 : decode cX12_counted 28 = .ok (.iload_n 1, 1) := by decide +kernel
theorem dX12_counted_29 : decode cX12_counted 29 = .ok (.iconst 2, 1) := by decide +kernel
theorem dX12_counted_30 : decode cX12_counted 30 = .ok (.if_icmp .ne 15, 3) := by decide +kernel
theorem dX12_counted_33 : decode cX12_counted 33 = .ok (.aload_n 0, 1) := by decide +kernel
theorem dX12_counted_34 : decode cX12_counted 34 = .ok (.getfield 7, 3) := by decide +kernel
theorem dX12_counted_37 : decode cX12_counted 37 = .ok (.iconst 1, 1) := by decide +kernel
theorem dX12_counted_38 : decode cX12_counted 38 = .ok (.iaload, 1) := by decide +kernel
theorem dX12_counted_39 : decode cX12_counted 39 = .ok (.invokestatic 193, 3) := by decide +kernel
theorem dX12_counted_42 : decode cX12_counted 42 = .ok (.goto 7, 3) := by decide +kernel
theorem dX12_counted_45 : decode cX12_counted 45 = .ok (.aload_n 0, 1) := by decide +kernel
theorem dX12_counted_46 : decode cX12_counted 46 = .ok (.getfield 76, 3) := by decide +kernel
theorem dX12_counted_49 : decode cX12_counted 49 = .ok (.ireturn, 1) := by decide +kernel
theorem dX12_count_0 : decode cX12_count 0 = .ok (.iload_n 1, 1) := by decide +kernel
theorem dX12_count_1 : decode cX12_count 1 = .ok (.iconst 0, 1) := by decide +kernel
theorem dX12_count_2 : decode cX12_count 2 = .ok (.iconst 3, 1) := by decide +kernel
theorem dX12_count_3 : decode cX12_count 3 = .ok (.invokestatic 57, 3) := by decide +kernel
theorem dX12_count_6 : decode cX12_count 6 = .ok (.ifCond .eq 11, 3) := by decide +kernel
theorem dX12_count_9 : decode cX12_count 9 = .ok (.aload_n 0, 1) := by decide +kernel
theorem dX12_count_10 : decode cX12_count 10 = .ok (.iload_n 1, 1) := by decide +kernel
theorem dX12_count_11 : decode cX12_count 11 = .ok (.invokevirtual 215, 3) := by decide +kernel
theorem dX12_count_14 : decode cX12_count 14 = .ok (.goto 7, 3) := by decide +kernel
theorem dX12_count_17 : decode cX12_count 17 = .ok (.aload_n 0, 1) := by decide +kernel
theorem dX12_count_18 : decode cX12_count 18 = .ok (.invokevirtual 61, 3) := by decide +kernel
theorem dX12_count_21 : decode cX12_count 21 = .ok (.ireturn, 1) := by decide +kernel
theorem dX12_digest_0 : decode cX12_digest 0 = .ok (.ldc2_w 218, 3) := by decide +kernel
theorem dX12_digest_3 : decode cX12_digest 3 = .ok (.lstore_n 1, 1) := by decide +kernel
theorem dX12_digest_4 : decode cX12_digest 4 = .ok (.iconst 0, 1) := by decide +kernel
theorem dX12_digest_5 : decode cX12_digest 5 = .ok (.istore_n 3, 1) := by decide +kernel
theorem dX12_digest_6 : decode cX12_digest 6 = .ok (.iload_n 3, 1) := by decide +kernel
theorem dX12_digest_7 : decode cX12_digest 7 = .ok (.iconst 4, 1) := by decide +kernel
theorem dX12_digest_8 : decode cX12_digest 8 = .ok (.if_icmp .ge 22, 3) := by decide +kernel
theorem dX12_digest_11 : decode cX12_digest 11 = .ok (.ldc2_w 220, 3) := by decide +kernel
theorem dX12_digest_14 : decode cX12_digest 14 = .ok (.lload_n 1, 1) := by decide +kernel
theorem dX12_digest_15 : decode cX12_digest 15 = .ok (.lmul, 1) := by decide +kernel
theorem dX12_digest_16 : decode cX12_digest 16 = .ok (.aload_n 0, 1) := by decide +kernel
theorem dX12_digest_17 : decode cX12_digest 17 = .ok (.iload_n 3, 1) := by decide +kernel
theorem dX12_digest_18 : decode cX12_digest 18 = .ok (.invokevirtual 215, 3) := by decide +kernel
theorem dX12_digest_21 : decode cX12_digest 21 = .ok (.i2l, 1) := by decide +kernel
theorem dX12_digest_22 : decode cX12_digest 22 = .ok (.ladd, 1) := by decide +kernel
theorem dX12_digest_23 : decode cX12_digest 23 = .ok (.lstore_n 1, 1) := by decide +kernel
theorem dX12_digest_24 : decode cX12_digest 24 = .ok (.iinc 3 1, 3) := by decide +kernel
theorem dX12_digest_27 : decode cX12_digest 27 = .ok (.goto (-21), 3) := by decide +kernel
theorem dX12_digest_30 : decode cX12_digest 30 = .ok (.iconst 0, 1) := by decide +kernel
theorem dX12_digest_31 : decode cX12_digest 31 = .ok (.istore_n 3, 1) := by decide +kernel
theorem dX12_digest_32 : decode cX12_digest 32 = .ok (.iload_n 3, 1) := by decide +kernel
theorem dX12_digest_33 : decode cX12_digest 33 = .ok (.bipush 6, 2) := by decide +kernel
theorem dX12_digest_35 : decode cX12_digest 35 = .ok (.aload_n 0, 1) := by decide +kernel
theorem dX12_digest_36 : decode cX12_digest 36 = .ok (.getfield 7, 3) := by decide +kernel
theorem dX12_digest_39 : decode cX12_digest 39 = .ok (.bipush 6, 2) := by decide +kernel
theorem dX12_digest_41 : decode cX12_digest 41 = .ok (.iaload, 1) := by decide +kernel
theorem dX12_digest_42 : decode cX12_digest 42 = .ok (.imul, 1) := by decide +kernel
theorem dX12_digest_43 : decode cX12_digest 43 = .ok (.if_icmp .ge 26, 3) := by decide +kernel
theorem dX12_digest_46 : decode cX12_digest 46 = .ok (.ldc2_w 220, 3) := by decide +kernel
theorem dX12_digest_49 : decode cX12_digest 49 = .ok (.lload_n 1, 1) := by decide +kernel
theorem dX12_digest_50 : decode cX12_digest 50 = .ok (.lmul, 1) := by decide +kernel
theorem dX12_digest_51 : decode cX12_digest 51 = .ok (.aload_n 0, 1) := by decide +kernel
theorem dX12_digest_52 : decode cX12_digest 52 = .ok (.getfield 7, 3) := by decide +kernel
theorem dX12_digest_55 : decode cX12_digest 55 = .ok (.bipush 7, 2) := by decide +kernel
theorem dX12_digest_57 : decode cX12_digest 57 = .ok (.iload_n 3, 1) := by decide +kernel
theorem dX12_digest_58 : decode cX12_digest 58 = .ok (.iadd, 1) := by decide +kernel
theorem dX12_digest_59 : decode cX12_digest 59 = .ok (.iaload, 1) := by decide +kernel
theorem dX12_digest_60 : decode cX12_digest 60 = .ok (.i2l, 1) := by decide +kernel
theorem dX12_digest_61 : decode cX12_digest 61 = .ok (.ladd, 1) := by decide +kernel
theorem dX12_digest_62 : decode cX12_digest 62 = .ok (.lstore_n 1, 1) := by decide +kernel
theorem dX12_digest_63 : decode cX12_digest 63 = .ok (.iinc 3 1, 3) := by decide +kernel
theorem dX12_digest_66 : decode cX12_digest 66 = .ok (.goto (-34), 3) := by decide +kernel
theorem dX12_digest_69 : decode cX12_digest 69 = .ok (.iconst 1, 1) := by decide +kernel
theorem dX12_digest_70 : decode cX12_digest 70 = .ok (.istore_n 3, 1) := by decide +kernel
theorem dX12_digest_71 : decode cX12_digest 71 = .ok (.iload_n 3, 1) := by decide +kernel
theorem dX12_digest_72 : decode cX12_digest 72 = .ok (.bipush 6, 2) := by decide +kernel
theorem dX12_digest_74 : decode cX12_digest 74 = .ok (.if_icmp .ge 23, 3) := by decide +kernel
theorem dX12_digest_77 : decode cX12_digest 77 = .ok (.ldc2_w 220, 3) := by decide +kernel
theorem dX12_digest_80 : decode cX12_digest 80 = .ok (.lload_n 1, 1) := by decide +kernel
theorem dX12_digest_81 : decode cX12_digest 81 = .ok (.lmul, 1) := by decide +kernel
theorem dX12_digest_82 : decode cX12_digest 82 = .ok (.aload_n 0, 1) := by decide +kernel
theorem dX12_digest_83 : decode cX12_digest 83 = .ok (.getfield 7, 3) := by decide +kernel
theorem dX12_digest_86 : decode cX12_digest 86 = .ok (.iload_n 3, 1) := by decide +kernel
theorem dX12_digest_87 : decode cX12_digest 87 = .ok (.iaload, 1) := by decide +kernel
theorem dX12_digest_88 : decode cX12_digest 88 = .ok (.i2l, 1) := by decide +kernel
theorem dX12_digest_89 : decode cX12_digest 89 = .ok (.ladd, 1) := by decide +kernel
theorem dX12_digest_90 : decode cX12_digest 90 = .ok (.lstore_n 1, 1) := by decide +kernel
theorem dX12_digest_91 : decode cX12_digest 91 = .ok (.iinc 3 1, 3) := by decide +kernel
theorem dX12_digest_94 : decode cX12_digest 94 = .ok (.goto (-23), 3) := by decide +kernel
theorem dX12_digest_97 : decode cX12_digest 97 = .ok (.ldc2_w 220, 3) := by decide +kernel
theorem dX12_digest_100 : decode cX12_digest 100 = .ok (.lload_n 1, 1) := by decide +kernel
theorem dX12_digest_101 : decode cX12_digest 101 = .ok (.lmul, 1) := by decide +kernel
theorem dX12_digest_102 : decode cX12_digest 102 = .ok (.aload_n 0, 1) := by decide +kernel
theorem dX12_digest_103 : decode cX12_digest 103 = .ok (.getfield 212, 3) := by decide +kernel
theorem dX12_digest_106 : decode cX12_digest 106 = .ok (.ladd, 1) := by decide +kernel
theorem dX12_digest_107 : decode cX12_digest 107 = .ok (.lstore_n 1, 1) := by decide +kernel
theorem dX12_digest_108 : decode cX12_digest 108 = .ok (.ldc2_w 220, 3) := by decide +kernel
theorem dX12_digest_111 : decode cX12_digest 111 = .ok (.lload_n 1, 1) := by decide +kernel
theorem dX12_digest_112 : decode cX12_digest 112 = .ok (.lmul, 1) := by decide +kernel
theorem dX12_digest_113 : decode cX12_digest 113 = .ok (.aload_n 0, 1) := by decide +kernel
theorem dX12_digest_114 : decode cX12_digest 114 = .ok (.getfield 49, 3) := by decide +kernel
theorem dX12_digest_117 : decode cX12_digest 117 = .ok (.ladd, 1) := by decide +kernel
theorem dX12_digest_118 : decode cX12_digest 118 = .ok (.lreturn, 1) := by decide +kernel
theorem dJ6_bitCount_0f7a4_0 : decode cJ6_bitCount_0f7a4 0 = .ok (.iload_n 0, 1) := by decide +kernel
theorem dJ6_bitCount_0f7a4_1 : decode cJ6_bitCount_0f7a4 1 = .ok (.iload_n 0, 1) := by decide +kernel
theorem dJ6_bitCount_0f7a4_2 : decode cJ6_bitCount_0f7a4 2 = .ok (.iconst 1, 1) := by decide +kernel
theorem dJ6_bitCount_0f7a4_3 : decode cJ6_bitCount_0f7a4 3 = .ok (.iushr, 1) := by decide +kernel
theorem dJ6_bitCount_0f7a4_4 : decode cJ6_bitCount_0f7a4 4 = .ok (.ldc_w 265, 3) := by decide +kernel
theorem dJ6_bitCount_0f7a4_7 : decode cJ6_bitCount_0f7a4 7 = .ok (.iand, 1) := by decide +kernel
theorem dJ6_bitCount_0f7a4_8 : decode cJ6_bitCount_0f7a4 8 = .ok (.isub, 1) := by decide +kernel
theorem dJ6_bitCount_0f7a4_9 : decode cJ6_bitCount_0f7a4 9 = .ok (.istore_n 0, 1) := by decide +kernel
theorem dJ6_bitCount_0f7a4_10 : decode cJ6_bitCount_0f7a4 10 = .ok (.iload_n 0, 1) := by decide +kernel
theorem dJ6_bitCount_0f7a4_11 : decode cJ6_bitCount_0f7a4 11 = .ok (.ldc_w 266, 3) := by decide +kernel
theorem dJ6_bitCount_0f7a4_14 : decode cJ6_bitCount_0f7a4 14 = .ok (.iand, 1) := by decide +kernel
theorem dJ6_bitCount_0f7a4_15 : decode cJ6_bitCount_0f7a4 15 = .ok (.iload_n 0, 1) := by decide +kernel
theorem dJ6_bitCount_0f7a4_16 : decode cJ6_bitCount_0f7a4 16 = .ok (.iconst 2, 1) := by decide +kernel
theorem dJ6_bitCount_0f7a4_17 : decode cJ6_bitCount_0f7a4 17 = .ok (.iushr, 1) := by decide +kernel
theorem dJ6_bitCount_0f7a4_18 : decode cJ6_bitCount_0f7a4 18 = .ok (.ldc_w 266, 3) := by decide +kernel
theorem dJ6_bitCount_0f7a4_21 : decode cJ6_bitCount_0f7a4 21 = .ok (.iand, 1) := by decide +kernel
theorem dJ6_bitCount_0f7a4_22 : decode cJ6_bitCount_0f7a4 22 = .ok (.iadd, 1) := by decide +kernel
theorem dJ6_bitCount_0f7a4_23 : decode cJ6_bitCount_0f7a4 23 = .ok (.istore_n 0, 1) := by decide +kernel
theorem dJ6_bitCount_0f7a4_24 : decode cJ6_bitCount_0f7a4 24 = .ok (.iload_n 0, 1) := by decide +kernel
theorem dJ6_bitCount_0f7a4_25 : decode cJ6_bitCount_0f7a4 25 = .ok (.iload_n 0, 1) := by decide +kernel
theorem dJ6_bitCount_0f7a4_26 : decode cJ6_bitCount_0f7a4 26 = .ok (.iconst 4, 1) := by decide +kernel
theorem dJ6_bitCount_0f7a4_27 : decode cJ6_bitCount_0f7a4 27 = .ok (.iushr, 1) := by decide +kernel
theorem dJ6_bitCount_0f7a4_28 : decode cJ6_bitCount_0f7a4 28 = .ok (.iadd, 1) := by decide +kernel
theorem dJ6_bitCount_0f7a4_29 : decode cJ6_bitCount_0f7a4 29 = .ok (.ldc_w 267, 3) := by decide +kernel
theorem dJ6_bitCount_0f7a4_32 : decode cJ6_bitCount_0f7a4 32 = .ok (.iand, 1) := by decide +kernel
theorem dJ6_bitCount_0f7a4_33 : decode cJ6_bitCount_0f7a4 33 = .ok (.istore_n 0, 1) := by decide +kernel
theorem dJ6_bitCount_0f7a4_34 : decode cJ6_bitCount_0f7a4 34 = .ok (.iload_n 0, 1) := by decide +kernel
theorem dJ6_bitCount_0f7a4_35 : decode cJ6_bitCount_0f7a4 35 = .ok (.iload_n 0, 1) := by decide +kernel
theorem dJ6_bitCount_0f7a4_36 : decode cJ6_bitCount_0f7a4 36 = .ok (.bipush 8, 2) := by decide +kernel
theorem dJ6_bitCount_0f7a4_38 : decode cJ6_bitCount_0f7a4 38 = .ok (.iushr, 1) := by decide +kernel
theorem dJ6_bitCount_0f7a4_39 : decode cJ6_bitCount_0f7a4 39 = .ok (.iadd, 1) := by decide +kernel
theorem dJ6_bitCount_0f7a4_40 : decode cJ6_bitCount_0f7a4 40 = .ok (.istore_n 0, 1) := by decide +kernel
theorem dJ6_bitCount_0f7a4_41 : decode cJ6_bitCount_0f7a4 41 = .ok (.iload_n 0, 1) := by decide +kernel
theorem dJ6_bitCount_0f7a4_42 : decode cJ6_bitCount_0f7a4 42 = .ok (.iload_n 0, 1) := by decide +kernel
theorem dJ6_bitCount_0f7a4_43 : decode cJ6_bitCount_0f7a4 43 = .ok (.bipush 16, 2) := by decide +kernel
theorem dJ6_bitCount_0f7a4_45 : decode cJ6_bitCount_0f7a4 45 = .ok (.iushr, 1) := by decide +kernel
theorem dJ6_bitCount_0f7a4_46 : decode cJ6_bitCount_0f7a4 46 = .ok (.iadd, 1) := by decide +kernel
theorem dJ6_bitCount_0f7a4_47 : decode cJ6_bitCount_0f7a4 47 = .ok (.istore_n 0, 1) := by decide +kernel
theorem dJ6_bitCount_0f7a4_48 : decode cJ6_bitCount_0f7a4 48 = .ok (.iload_n 0, 1) := by decide +kernel
theorem dJ6_bitCount_0f7a4_49 : decode cJ6_bitCount_0f7a4 49 = .ok (.bipush 63, 2) := by decide +kernel
theorem dJ6_bitCount_0f7a4_51 : decode cJ6_bitCount_0f7a4 51 = .ok (.iand, 1) := by decide +kernel
theorem dJ6_bitCount_0f7a4_52 : decode cJ6_bitCount_0f7a4 52 = .ok (.ireturn, 1) := by decide +kernel
theorem dJ9_max_7cf53_0 : decode cJ9_max_7cf53 0 = .ok (.iload_n 0, 1) := by decide +kernel
theorem dJ9_max_7cf53_1 : decode cJ9_max_7cf53 1 = .ok (.iload_n 1, 1) := by decide +kernel
theorem dJ9_max_7cf53_2 : decode cJ9_max_7cf53 2 = .ok (.if_icmp .lt 7, 3) := by decide +kernel
theorem dJ9_max_7cf53_5 : decode cJ9_max_7cf53 5 = .ok (.iload_n 0, 1) := by decide +kernel
theorem dJ9_max_7cf53_6 : decode cJ9_max_7cf53 6 = .ok (.goto 4, 3) := by decide +kernel
theorem dJ9_max_7cf53_9 : decode cJ9_max_7cf53 9 = .ok (.iload_n 1, 1) := by decide +kernel
theorem dJ9_max_7cf53_10 : decode cJ9_max_7cf53 10 = .ok (.ireturn, 1) := by decide +kernel
theorem dJ9_min_7cf53_0 : decode cJ9_min_7cf53 0 = .ok (.iload_n 0, 1) := by decide +kernel
theorem dJ9_min_7cf53_1 : decode cJ9_min_7cf53 1 = .ok (.iload_n 1, 1) := by decide +kernel
theorem dJ9_min_7cf53_2 : decode cJ9_min_7cf53 2 = .ok (.if_icmp .gt 7, 3) := by decide +kernel
theorem dJ9_min_7cf53_5 : decode cJ9_min_7cf53 5 = .ok (.iload_n 0, 1) := by decide +kernel
theorem dJ9_min_7cf53_6 : decode cJ9_min_7cf53 6 = .ok (.goto 4, 3) := by decide +kernel
theorem dJ9_min_7cf53_9 : decode cJ9_min_7cf53 9 = .ok (.iload_n 1, 1) := by decide +kernel
theorem dJ9_min_7cf53_10 : decode cJ9_min_7cf53 10 = .ok (.ireturn, 1) := by decide +kernel
theorem dJ0_length_8abf5_0 : decode cJ0_length_8abf5 0 = .ok (.aload_n 0, 1) := by decide +kernel
theorem dJ0_length_8abf5_1 : decode cJ0_length_8abf5 1 = .ok (.getfield 9, 3) := by decide +kernel
theorem dJ0_length_8abf5_4 : decode cJ0_length_8abf5 4 = .ok (.arraylength, 1) := by decide +kernel
theorem dJ0_length_8abf5_5 : decode cJ0_length_8abf5 5 = .ok (.aload_n 0, 1) := by decide +kernel
theorem dJ0_length_8abf5_6 : decode cJ0_length_8abf5 6 = .ok (.invokevirtual 335, 3) := by decide +kernel
theorem dJ0_length_8abf5_9 : decode cJ0_length_8abf5 9 = .ok (.ishr, 1) := by decide +kernel
theorem dJ0_length_8abf5_10 : decode cJ0_length_8abf5 10 = .ok (.ireturn, 1) := by decide +kernel
theorem dJ0_charAt_5068e_0 : decode cJ0_charAt_5068e 0 = .ok (.aload_n 0, 1) := by decide +kernel
theorem dJ0_charAt_5068e_1 : decode cJ0_charAt_5068e 1 = .ok (.invokevirtual 492, 3) := by decide +kernel
theorem dJ0_charAt_5068e_4 : decode cJ0_charAt_5068e 4 = .ok (.ifCond .eq 12, 3) := by decide +kernel
theorem dJ0_charAt_5068e_7 : decode cJ0_charAt_5068e 7 = .ok (.aload_n 0, 1) := by decide +kernel
theorem dJ0_charAt_5068e_8 : decode cJ0_charAt_5068e 8 = .ok (.getfield 9, 3) := by decide +kernel
theorem dJ0_charAt_5068e_11 : decode cJ0_charAt_5068e 11 = .ok (.iload_n 1, 1) := by decide +kernel
theorem dJ0_charAt_5068e_12 : decode cJ0_charAt_5068e 12 = .ok (.invokestatic 495, 3) := by decide +kernel
theorem dJ0_charAt_5068e_15 : decode cJ0_charAt_5068e 15 = .ok (.ireturn, 1) := by decide +kernel
theorem dJ0_charAt_5068e_16 : decode cJ0_charAt_5068e 16 = .ok (.aload_n 0, 1) := by decide +kernel
theorem dJ0_charAt_5068e_17 : decode cJ0_charAt_5068e 17 = .ok (.getfield 9, 3) := by decide +kernel
theorem dJ0_charAt_5068e_20 : decode cJ0_charAt_5068e 20 = .ok (.iload_n 1, 1) := by decide +kernel
theorem dJ0_charAt_5068e_21 : decode cJ0_charAt_5068e 21 = .ok (.invokestatic 498, 3) := by decide +kernel
theorem dJ0_charAt_5068e_24 : decode cJ0_charAt_5068e 24 = .ok (.ireturn, 1) := by decide +kernel
theorem dJ0_coder_7d493_0 : decode cJ0_coder_7d493 0 = .ok (.getstatic 38, 3) := by decide +kernel
theorem dJ0_coder_7d493_3 : decode cJ0_coder_7d493 3 = .ok (.ifCond .eq 10, 3) := by decide +kernel
theorem dJ0_coder_7d493_6 : decode cJ0_coder_7d493 6 = .ok (.aload_n 0, 1) := by decide +kernel
theorem dJ0_coder_7d493_7 : decode cJ0_coder_7d493 7 = .ok (.getfield 15, 3) := by decide +kernel
theorem dJ0_coder_7d493_10 : decode cJ0_coder_7d493 10 = .ok (.goto 4, 3) := by decide +kernel
theorem dJ0_coder_7d493_13 : decode cJ0_coder_7d493 13 = .ok (.iconst 1, 1) := by decide +kernel
theorem dJ0_coder_7d493_14 : decode cJ0_coder_7d493 14 = .ok (.ireturn, 1) := by decide +kernel
theorem dJ0_isLatin1_aae02_0 : decode cJ0_isLatin1_aae02 0 = .ok (.getstatic 38, 3) := by decide +kernel
theorem dJ0_isLatin1_aae02_3 : decode cJ0_isLatin1_aae02 3 = .ok (.ifCond .eq 14, 3) := by decide +kernel
theorem dJ0_isLatin1_aae02_6 : decode cJ0_isLatin1_aae02 6 = .ok (.aload_n 0, 1) := by decide +kernel
theorem dJ0_isLatin1_aae02_7 : decode cJ0_isLatin1_aae02 7 = .ok (.getfield 15, 3) := by decide +kernel
theorem dJ0_isLatin1_aae02_10 : decode cJ0_isLatin1_aae02 10 = .ok (.ifCond .ne 7, 3) := by decide +kernel
theorem dJ0_isLatin1_aae02_13 : decode cJ0_isLatin1_aae02 13 = .ok (.iconst 1, 1) := by decide +kernel
theorem dJ0_isLatin1_aae02_14 : decode cJ0_isLatin1_aae02 14 = .ok (.goto 4, 3) := by decide +kernel
theorem dJ0_isLatin1_aae02_17 : decode cJ0_isLatin1_aae02 17 = .ok (.iconst 0, 1) := by decide +kernel
theorem dJ0_isLatin1_aae02_18 : decode cJ0_isLatin1_aae02 18 = .ok (.ireturn, 1) := by decide +kernel
theorem dJ0_checkIndex_df160_0 : decode cJ0_checkIndex_df160 0 = .ok (.iload_n 0, 1) := by decide +kernel
theorem dJ0_checkIndex_df160_1 : decode cJ0_checkIndex_df160 1 = .ok (.iload_n 1, 1) := by decide +kernel
theorem dJ0_checkIndex_df160_2 : decode cJ0_checkIndex_df160 2 = .ok (.getstatic 1053, 3) := by decide +kernel
theorem dJ0_checkIndex_df160_5 : decode cJ0_checkIndex_df160 5 = .ok (.invokestatic 1059, 3) := by decide +kernel
theorem dJ0_checkIndex_df160_8 : decode cJ0_checkIndex_df160 8 = .ok (.pop, 1) := by decide +kernel
theorem dJ0_checkIndex_df160_9 : decode cJ0_checkIndex_df160 9 = .ok (.return_, 1) := by decide +kernel
theorem dJ1_charAt_3b067_0 : decode cJ1_charAt_3b067 0 = .ok (.iload_n 1, 1) := by decide +kernel
theorem dJ1_charAt_3b067_1 : decode cJ1_charAt_3b067 1 = .ok (.aload_n 0, 1) := by decide +kernel
theorem dJ1_charAt_3b067_2 : decode cJ1_charAt_3b067 2 = .ok (.arraylength, 1) := by decide +kernel
theorem dJ1_charAt_3b067_3 : decode cJ1_charAt_3b067 3 = .ok (.invokestatic 9, 3) := by decide +kernel
theorem dJ1_charAt_3b067_6 : decode cJ1_charAt_3b067 6 = .ok (.aload_n 0, 1) := by decide +kernel
theorem dJ1_charAt_3b067_7 : decode cJ1_charAt_3b067 7 = .ok (.iload_n 1, 1) := by decide +kernel
theorem dJ1_charAt_3b067_8 : decode cJ1_charAt_3b067 8 = .ok (.baload, 1) := by decide +kernel
theorem dJ1_charAt_3b067_9 : decode cJ1_charAt_3b067 9 = .ok (.sipush 255, 3) := by decide +kernel
theorem dJ1_charAt_3b067_12 : decode cJ1_charAt_3b067 12 = .ok (.iand, 1) := by decide +kernel
theorem dJ1_charAt_3b067_13 : decode cJ1_charAt_3b067 13 = .ok (.i2c, 1) := by decide +kernel
theorem dJ1_charAt_3b067_14 : decode cJ1_charAt_3b067 14 = .ok (.ireturn, 1) := by decide +kernel
theorem dJ2_getChar_3b067_0 : decode cJ2_getChar_3b067 0 = .ok (.getstatic 44, 3) := by decide +kernel
theorem dJ2_getChar_3b067_3 : decode cJ2_getChar_3b067 3 = .ok (.ifCond .ne 25, 3) := by decide +kernel
theorem dJ2_getChar_3b067_6 : decode cJ2_getChar_3b067 6 = .ok (.iload_n 1, 1) := by decide +kernel
theorem dJ2_getChar_3b067_7 : decode cJ2_getChar_3b067 7 = .ok (.ifCond .lt 11, 3) := by decide +kernel
theorem dJ2_getChar_3b067_10 : decode cJ2_getChar_3b067 10 = .ok (.iload_n 1, 1) := by decide +kernel
theorem dJ2_getChar_3b067_11 : decode cJ2_getChar_3b067 11 = .ok (.aload_n 0, 1) := by decide +kernel
theorem dJ2_getChar_3b067_12 : decode cJ2_getChar_3b067 12 = .ok (.invokestatic 48, 3) := by decide +kernel
theorem dJ2_getChar_3b067_15 : decode cJ2_getChar_3b067 15 = .ok (.if_icmp .lt 13, 3) := by decide +kernel
theorem dJ2_getChar_3b067_18 : decode cJ2_getChar_3b067 18 = .ok (.new 52, 3) := by decide +kernel
theorem dJ2_getChar_3b067_21 : decode cJ2_getChar_3b067 21 = .ok (.dup, 1) := by decide +kernel
theorem dJ2_getChar_3b067_22 : decode cJ2_getChar_3b067 22 = .ok (.ldc 54, 2) := by decide +kernel
theorem dJ2_getChar_3b067_24 : decode cJ2_getChar_3b067 24 = .ok (.invokespecial 56, 3) := by decide +kernel
theorem dJ2_getChar_3b067_27 : decode cJ2_getChar_3b067 27 = .ok (.athrow, 1) := by decide +kernel
theorem dJ2_getChar_3b067_28 : decode cJ2_getChar_3b067 28 = .ok (.iload_n 1, 1) := by decide +kernel
theorem dJ2_getChar_3b067_29 : decode cJ2_getChar_3b067 29 = .ok (.iconst 1, 1) := by decide +kernel
theorem dJ2_getChar_3b067_30 : decode cJ2_getChar_3b067 30 = .ok (.ishl, 1) := by decide +kernel
theorem dJ2_getChar_3b067_31 : decode cJ2_getChar_3b067 31 = .ok (.istore_n 1, 1) := by decide +kernel
theorem dJ2_getChar_3b067_32 : decode cJ2_getChar_3b067 32 = .ok (.aload_n 0, 1) := by decide +kernel
theorem dJ2_getChar_3b067_33 : decode cJ2_getChar_3b067 33 = .ok (.iload_n 1, 1) := by decide +kernel
theorem dJ2_getChar_3b067_34 : decode cJ2_getChar_3b067 34 = .ok (.iinc 1 1, 3) := by decide +kernel
theorem dJ2_getChar_3b067_37 : decode cJ2_getChar_3b067 37 = .ok (.baload, 1) := by decide +kernel
theorem dJ2_getChar_3b067_38 : decode cJ2_getChar_3b067 38 = .ok (.sipush 255, 3) := by decide +kernel
theorem dJ2_getChar_3b067_41 : decode cJ2_getChar_3b067 41 = .ok (.iand, 1) := by decide +kernel
theorem dJ2_getChar_3b067_42 : decode cJ2_getChar_3b067 42 = .ok (.getstatic 59, 3) := by decide +kernel
theorem dJ2_getChar_3b067_45 : decode cJ2_getChar_3b067 45 = .ok (.ishl, 1) := by decide +kernel
theorem dJ2_getChar_3b067_46 : decode cJ2_getChar_3b067 46 = .ok (.aload_n 0, 1) := by decide +kernel
theorem dJ2_getChar_3b067_47 : decode cJ2_getChar_3b067 47 = .ok (.iload_n 1, 1) := by decide +kernel
theorem dJ2_getChar_3b067_48 : decode cJ2_getChar_3b067 48 = .ok (.baload, 1) := by decide +kernel
theorem dJ2_getChar_3b067_49 : decode cJ2_getChar_3b067 49 = .ok (.sipush 255, 3) := by decide +kernel
theorem dJ2_getChar_3b067_52 : decode cJ2_getChar_3b067 52 = .ok (.iand, 1) := by decide +kernel
theorem dJ2_getChar_3b067_53 : decode cJ2_getChar_3b067 53 = .ok (.getstatic 63, 3) := by decide +kernel
theorem dJ2_getChar_3b067_56 : decode cJ2_getChar_3b067 56 = .ok (.ishl, 1) := by decide +kernel
theorem dJ2_getChar_3b067_57 : decode cJ2_getChar_3b067 57 = .ok (.ior, 1) := by decide +kernel
theorem dJ2_getChar_3b067_58 : decode cJ2_getChar_3b067 58 = .ok (.i2c, 1) := by decide +kernel
theorem dJ2_getChar_3b067_59 : decode cJ2_getChar_3b067 59 = .ok (.ireturn, 1) := by decide +kernel
theorem dJ2_length_9d52b_0 : decode cJ2_length_9d52b 0 = .ok (.aload_n 0, 1) := by decide +kernel
theorem dJ2_length_9d52b_1 : decode cJ2_length_9d52b 1 = .ok (.arraylength, 1) := by decide +kernel
theorem dJ2_length_9d52b_2 : decode cJ2_length_9d52b 2 = .ok (.iconst 1, 1) := by decide +kernel
theorem dJ2_length_9d52b_3 : decode cJ2_length_9d52b 3 = .ok (.ishr, 1) := by decide +kernel
theorem dJ2_length_9d52b_4 : decode cJ2_length_9d52b 4 = .ok (.ireturn, 1) := by decide +kernel
theorem dJ2_charAt_3b067_0 : decode cJ2_charAt_3b067 0 = .ok (.iload_n 1, 1) := by decide +kernel
theorem dJ2_charAt_3b067_1 : decode cJ2_charAt_3b067 1 = .ok (.aload_n 0, 1) := by decide +kernel
theorem dJ2_charAt_3b067_2 : decode cJ2_charAt_3b067 2 = .ok (.invokestatic 67, 3) := by decide +kernel
theorem dJ2_charAt_3b067_5 : decode cJ2_charAt_3b067 5 = .ok (.aload_n 0, 1) := by decide +kernel
theorem dJ2_charAt_3b067_6 : decode cJ2_charAt_3b067 6 = .ok (.iload_n 1, 1) := by decide +kernel
theorem dJ2_charAt_3b067_7 : decode cJ2_charAt_3b067 7 = .ok (.invokestatic 71, 3) := by decide +kernel
theorem dJ2_charAt_3b067_10 : decode cJ2_charAt_3b067 10 = .ok (.ireturn, 1) := by decide +kernel
theorem dJ2_checkIndex_2214a_0 : decode cJ2_checkIndex_2214a 0 = .ok (.iload_n 0, 1) := by decide +kernel
theorem dJ2_checkIndex_2214a_1 : decode cJ2_checkIndex_2214a 1 = .ok (.aload_n 1, 1) := by decide +kernel
theorem dJ2_checkIndex_2214a_2 : decode cJ2_checkIndex_2214a 2 = .ok (.invokestatic 48, 3) := by decide +kernel
theorem dJ2_checkIndex_2214a_5 : decode cJ2_checkIndex_2214a 5 = .ok (.invokestatic 414, 3) := by decide +kernel
theorem dJ2_checkIndex_2214a_8 : decode cJ2_checkIndex_2214a 8 = .ok (.return_, 1) := by decide +kernel
theorem dJ7_fill_d0a16_0 : decode cJ7_fill_d0a16 0 = .ok (.iconst 0, 1) := by decide +kernel
theorem dJ7_fill_d0a16_1 : decode cJ7_fill_d0a16 1 = .ok (.istore_n 3, 1) := by decide +kernel
theorem dJ7_fill_d0a16_2 : decode cJ7_fill_d0a16 2 = .ok (.aload_n 0, 1) := by decide +kernel
theorem dJ7_fill_d0a16_3 : decode cJ7_fill_d0a16 3 = .ok (.arraylength, 1) := by decide +kernel
theorem dJ7_fill_d0a16_4 : decode cJ7_fill_d0a16 4 = .ok (.istore 4, 2) := by decide +kernel
theorem dJ7_fill_d0a16_6 : decode cJ7_fill_d0a16 6 = .ok (.iload_n 3, 1) := by decide +kernel
theorem dJ7_fill_d0a16_7 : decode cJ7_fill_d0a16 7 = .ok (.iload 4, 2) := by decide +kernel
theorem dJ7_fill_d0a16_9 : decode cJ7_fill_d0a16 9 = .ok (.if_icmp .ge 13, 3) := by decide +kernel
theorem dJ7_fill_d0a16_12 : decode cJ7_fill_d0a16 12 = .ok (.aload_n 0, 1) := by decide +kernel
theorem dJ7_fill_d0a16_13 : decode cJ7_fill_d0a16 13 = .ok (.iload_n 3, 1) := by decide +kernel
theorem dJ7_fill_d0a16_14 : decode cJ7_fill_d0a16 14 = .ok (.lload_n 1, 1) := by decide +kernel
theorem dJ7_fill_d0a16_15 : decode cJ7_fill_d0a16 15 = .ok (.lastore, 1) := by decide +kernel
theorem dJ7_fill_d0a16_16 : decode cJ7_fill_d0a16 16 = .ok (.iinc 3 1, 3) := by decide +kernel
theorem dJ7_fill_d0a16_19 : decode cJ7_fill_d0a16 19 = .ok (.goto (-13), 3) := by decide +kernel
theorem dJ7_fill_d0a16_22 : decode cJ7_fill_d0a16 22 = .ok (.return_, 1) := by decide +kernel
theorem dJ7_fill_53178_0 : decode cJ7_fill_53178 0 = .ok (.iconst 0, 1) := by decide +kernel
theorem dJ7_fill_53178_1 : decode cJ7_fill_53178 1 = .ok (.istore_n 2, 1) := by decide +kernel
theorem dJ7_fill_53178_2 : decode cJ7_fill_53178 2 = .ok (.aload_n 0, 1) := by decide +kernel
theorem dJ7_fill_53178_3 : decode cJ7_fill_53178 3 = .ok (.arraylength, 1) := by decide +kernel
theorem dJ7_fill_53178_4 : decode cJ7_fill_53178 4 = .ok (.istore_n 3, 1) := by decide +kernel
theorem dJ7_fill_53178_5 : decode cJ7_fill_53178 5 = .ok (.iload_n 2, 1) := by decide +kernel
theorem dJ7_fill_53178_6 : decode cJ7_fill_53178 6 = .ok (.iload_n 3, 1) := by decide +kernel
theorem dJ7_fill_53178_7 : decode cJ7_fill_53178 7 = .ok (.if_icmp .ge 13, 3) := by decide +kernel
theorem dJ7_fill_53178_10 : decode cJ7_fill_53178 10 = .ok (.aload_n 0, 1) := by decide +kernel
theorem dJ7_fill_53178_11 : decode cJ7_fill_53178 11 = .ok (.iload_n 2, 1) := by decide +kernel
theorem dJ7_fill_53178_12 : decode cJ7_fill_53178 12 = .ok (.iload_n 1, 1) := by decide +kernel
theorem dJ7_fill_53178_13 : decode cJ7_fill_53178 13 = .ok (.iastore, 1) := by decide +kernel
theorem dJ7_fill_53178_14 : decode cJ7_fill_53178 14 = .ok (.iinc 2 1, 3) := by decide +kernel
theorem dJ7_fill_53178_17 : decode cJ7_fill_53178 17 = .ok (.goto (-12), 3) := by decide +kernel
theorem dJ7_fill_53178_20 : decode cJ7_fill_53178 20 = .ok (.return_, 1) := by decide +kernel
theorem dJ7_copyOf_c38d5_0 : decode cJ7_copyOf_c38d5 0 = .ok (.iload_n 1, 1) := by decide +kernel
theorem dJ7_copyOf_c38d5_1 : decode cJ7_copyOf_c38d5 1 = .ok (.aload_n 0, 1) := by decide +kernel
theorem dJ7_copyOf_c38d5_2 : decode cJ7_copyOf_c38d5 2 = .ok (.arraylength, 1) := by decide +kernel
theorem dJ7_copyOf_c38d5_3 : decode cJ7_copyOf_c38d5 3 = .ok (.if_icmp .ne 11, 3) := by decide +kernel
theorem dJ7_copyOf_c38d5_6 : decode cJ7_copyOf_c38d5 6 = .ok (.aload_n 0, 1) := by decide +kernel
theorem dJ7_copyOf_c38d5_7 : decode cJ7_copyOf_c38d5 7 = .ok (.invokevirtual 319, 3) := by decide +kernel
theorem dJ7_copyOf_c38d5_10 : decode cJ7_copyOf_c38d5 10 = .ok (.checkcast 320, 3) := by decide +kernel
theorem dJ7_copyOf_c38d5_13 : decode cJ7_copyOf_c38d5 13 = .ok (.areturn, 1) := by decide +kernel
theorem dJ7_copyOf_c38d5_14 : decode cJ7_copyOf_c38d5 14 = .ok (.iload_n 1, 1) := by decide +kernel
theorem dJ7_copyOf_c38d5_15 : decode cJ7_copyOf_c38d5 15 = .ok (.newarray .long, 2) := by decide +kernel
theorem dJ7_copyOf_c38d5_17 : decode cJ7_copyOf_c38d5 17 = .ok (.astore_n 2, 1) := by decide +kernel
theorem dJ7_copyOf_c38d5_18 : decode cJ7_copyOf_c38d5 18 = .ok (.aload_n 0, 1) := by decide +kernel
theorem dJ7_copyOf_c38d5_19 : decode cJ7_copyOf_c38d5 19 = .ok (.iconst 0, 1) := by decide +kernel
theorem dJ7_copyOf_c38d5_20 : decode cJ7_copyOf_c38d5 20 = .ok (.aload_n 2, 1) := by decide +kernel
theorem dJ7_copyOf_c38d5_21 : decode cJ7_copyOf_c38d5 21 = .ok (.iconst 0, 1) := by decide +kernel
theorem dJ7_copyOf_c38d5_22 : decode cJ7_copyOf_c38d5 22 = .ok (.aload_n 0, 1) := by decide +kernel
theorem dJ7_copyOf_c38d5_23 : decode cJ7_copyOf_c38d5 23 = .ok (.arraylength, 1) := by decide +kernel
theorem dJ7_copyOf_c38d5_24 : decode cJ7_copyOf_c38d5 24 = .ok (.iload_n 1, 1) := by decide +kernel
theorem dJ7_copyOf_c38d5_25 : decode cJ7_copyOf_c38d5 25 = .ok (.invokestatic 304, 3) := by decide +kernel
theorem dJ7_copyOf_c38d5_28 : decode cJ7_copyOf_c38d5 28 = .ok (.invokestatic 150, 3) := by decide +kernel
theorem dJ7_copyOf_c38d5_31 : decode cJ7_copyOf_c38d5 31 = .ok (.aload_n 2, 1) := by decide +kernel
theorem dJ7_copyOf_c38d5_32 : decode cJ7_copyOf_c38d5 32 = .ok (.areturn, 1) := by decide +kernel
theorem dJ3_checkIndex_8e157_0 : decode cJ3_checkIndex_8e157 0 = .ok (.iload_n 0, 1) := by decide +kernel
theorem dJ3_checkIndex_8e157_1 : decode cJ3_checkIndex_8e157 1 = .ok (.ifCond .lt 8, 3) := by decide +kernel
theorem dJ3_checkIndex_8e157_4 : decode cJ3_checkIndex_8e157 4 = .ok (.iload_n 0, 1) := by decide +kernel
theorem dJ3_checkIndex_8e157_5 : decode cJ3_checkIndex_8e157 5 = .ok (.iload_n 1, 1) := by decide +kernel
theorem dJ3_checkIndex_8e157_6 : decode cJ3_checkIndex_8e157 6 = .ok (.if_icmp .lt 10, 3) := by decide +kernel
theorem dJ3_checkIndex_8e157_9 : decode cJ3_checkIndex_8e157 9 = .ok (.aload_n 2, 1) := by decide +kernel
theorem dJ3_checkIndex_8e157_10 : decode cJ3_checkIndex_8e157 10 = .ok (.iload_n 0, 1) := by decide +kernel
theorem dJ3_checkIndex_8e157_11 : decode cJ3_checkIndex_8e157 11 = .ok (.iload_n 1, 1) := by decide +kernel
theorem dJ3_checkIndex_8e157_12 : decode cJ3_checkIndex_8e157 12 = .ok (.invokestatic 95, 3) := by decide +kernel
theorem dJ3_checkIndex_8e157_15 : decode cJ3_checkIndex_8e157 15 = .ok (.athrow, 1) := by decide +kernel
theorem dJ3_checkIndex_8e157_16 : decode cJ3_checkIndex_8e157 16 = .ok (.iload_n 0, 1) := by decide +kernel
theorem dJ3_checkIndex_8e157_17 : decode cJ3_checkIndex_8e157 17 = .ok (.ireturn, 1) := by decide +kernel
theorem dL_law_0 : decode cL_law 0 = .ok (.new 7, 3) := by decide +kernel
theorem dL_law_3 : decode cL_law 3 = .ok (.dup, 1) := by decide +kernel
theorem dL_law_4 : decode cL_law 4 = .ok (.invokespecial 9, 3) := by decide +kernel
theorem dL_law_7 : decode cL_law 7 = .ok (.astore_n 1, 1) := by decide +kernel
theorem dL_law_8 : decode cL_law 8 = .ok (.new 10, 3) := by decide +kernel
theorem dL_law_11 : decode cL_law 11 = .ok (.dup, 1) := by decide +kernel
theorem dL_law_12 : decode cL_law 12 = .ok (.invokespecial 12, 3) := by decide +kernel
theorem dL_law_15 : decode cL_law 15 = .ok (.astore_n 2, 1) := by decide +kernel
theorem dL_law_16 : decode cL_law 16 = .ok (.iconst 0, 1) := by decide +kernel
theorem dL_law_17 : decode cL_law 17 = .ok (.istore_n 3, 1) := by decide +kernel
theorem dL_law_18 : decode cL_law 18 = .ok (.iload_n 3, 1) := by decide +kernel
theorem dL_law_19 : decode cL_law 19 = .ok (.aload_n 0, 1) := by decide +kernel
theorem dL_law_20 : decode cL_law 20 = .ok (.arraylength, 1) := by decide +kernel
theorem dL_law_21 : decode cL_law 21 = .ok (.bipush 7, 2) := by decide +kernel
theorem dL_law_23 : decode cL_law 23 = .ok (.isub, 1) := by decide +kernel
theorem dL_law_24 : decode cL_law 24 = .ok (.if_icmp .gt 1062, 3) := by decide +kernel
theorem dL_law_27 : decode cL_law 27 = .ok (.aload_n 0, 1) := by decide +kernel
theorem dL_law_28 : decode cL_law 28 = .ok (.iload_n 3, 1) := by decide +kernel
theorem dL_law_29 : decode cL_law 29 = .ok (.iaload, 1) := by decide +kernel
theorem dL_law_30 : decode cL_law 30 = .ok (.bipush 31, 2) := by decide +kernel
theorem dL_law_32 : decode cL_law 32 = .ok (.iand, 1) := by decide +kernel
theorem dL_law_33 : decode cL_law 33 = .ok (.tableswitch 1047 0 25 #[119, 142, 185, 260, 309, 342, 405, 418, 431, 484, 537, 580, 613, 636, 659, 682, 735, 778, 821, 874, 917, 941, 964, 987, 1010, 1033], 119) := by decide +kernel
theorem dL_law_152 : decode cL_law 152 = .ok (.aload_n 1, 1) := by decide +kernel
theorem dL_law_153 : decode cL_law 153 = .ok (.aload_n 0, 1) := by decide +kernel
theorem dL_law_154 : decode cL_law 154 = .ok (.iload_n 3, 1) := by decide +kernel
theorem dL_law_155 : decode cL_law 155 = .ok (.iconst 1, 1) := by decide +kernel
theorem dL_law_156 : decode cL_law 156 = .ok (.iadd, 1) := by decide +kernel
theorem dL_law_157 : decode cL_law 157 = .ok (.iaload, 1) := by decide +kernel
theorem dL_law_158 : decode cL_law 158 = .ok (.invokevirtual 13, 3) := by decide +kernel
theorem dL_law_161 : decode cL_law 161 = .ok (.aload_n 2, 1) := by decide +kernel
theorem dL_law_162 : decode cL_law 162 = .ok (.aload_n 0, 1) := by decide +kernel
theorem dL_law_163 : decode cL_law 163 = .ok (.iload_n 3, 1) := by decide +kernel
theorem dL_law_164 : decode cL_law 164 = .ok (.iconst 1, 1) := by decide +kernel
theorem dL_law_165 : decode cL_law 165 = .ok (.iadd, 1) := by decide +kernel
theorem dL_law_166 : decode cL_law 166 = .ok (.iaload, 1) := by decide +kernel
theorem dL_law_167 : decode cL_law 167 = .ok (.invokevirtual 17, 3) := by decide +kernel
theorem dL_law_170 : decode cL_law 170 = .ok (.if_icmp .eq 910, 3) := by decide +kernel
theorem dL_law_173 : decode cL_law 173 = .ok (.iconst 0, 1) := by decide +kernel
theorem dL_law_174 : decode cL_law 174 = .ok (.ireturn, 1) := by decide +kernel
theorem dL_law_175 : decode cL_law 175 = .ok (.aload_n 1, 1) := by decide +kernel
theorem dL_law_176 : decode cL_law 176 = .ok (.aload_n 0, 1) := by decide +kernel
theorem dL_law_177 : decode cL_law 177 = .ok (.iload_n 3, 1) := by decide +kernel
theorem dL_law_178 : decode cL_law 178 = .ok (.iconst 1, 1) := by decide +kernel
theorem dL_law_179 : decode cL_law 179 = .ok (.iadd, 1) := by decide +kernel
theorem dL_law_180 : decode cL_law 180 = .ok (.iaload, 1) := by decide +kernel
theorem dL_law_181 : decode cL_law 181 = .ok (.aload_n 0, 1) := by decide +kernel
theorem dL_law_182 : decode cL_law 182 = .ok (.iload_n 3, 1) := by decide +kernel
theorem dL_law_183 : decode cL_law 183 = .ok (.iconst 2, 1) := by decide +kernel
theorem dL_law_184 : decode cL_law 184 = .ok (.iadd, 1) := by decide +kernel
theorem dL_law_185 : decode cL_law 185 = .ok (.iaload, 1) := by decide +kernel
theorem dL_law_186 : decode cL_law 186 = .ok (.aload_n 0, 1) := by decide +kernel
theorem dL_law_187 : decode cL_law 187 = .ok (.iload_n 3, 1) := by decide +kernel
theorem dL_law_188 : decode cL_law 188 = .ok (.iconst 3, 1) := by decide +kernel
theorem dL_law_189 : decode cL_law 189 = .ok (.iadd, 1) := by decide +kernel
theorem dL_law_190 : decode cL_law 190 = .ok (.iaload, 1) := by decide +kernel
theorem dL_law_191 : decode cL_law 191 = .ok (.invokevirtual 18, 3) := by decide +kernel
theorem dL_law_194 : decode cL_law 194 = .ok (.aload_n 2, 1) := by decide +kernel
theorem dL_law_195 : decode cL_law 195 = .ok (.aload_n 0, 1) := by decide +kernel
theorem dL_law_196 : decode cL_law 196 = .ok (.iload_n 3, 1) := by decide +kernel
theorem dL_law_197 : decode cL_law 197 = .ok (.iconst 1, 1) := by decide +kernel
theorem dL_law_198 : decode cL_law 198 = .ok (.iadd, 1) := by decide +kernel
theorem dL_law_199 : decode cL_law 199 = .ok (.iaload, 1) := by decide +kernel
theorem dL_law_200 : decode cL_law 200 = .ok (.aload_n 0, 1) := by decide +kernel
theorem dL_law_201 : decode cL_law 201 = .ok (.iload_n 3, 1) := by decide +kernel
theorem dL_law_202 : decode cL_law 202 = .ok (.iconst 2, 1) := by decide +kernel
theorem dL_law_203 : decode cL_law 203 = .ok (.iadd, 1) := by decide +kernel
theorem dL_law_204 : decode cL_law 204 = .ok (.iaload, 1) := by decide +kernel
theorem dL_law_205 : decode cL_law 205 = .ok (.aload_n 0, 1) := by decide +kernel
theorem dL_law_206 : decode cL_law 206 = .ok (.iload_n 3, 1) := by decide +kernel
theorem dL_law_207 : decode cL_law 207 = .ok (.iconst 3, 1) := by decide +kernel
theorem dL_law_208 : decode cL_law 208 = .ok (.iadd, 1) := by decide +kernel
theorem dL_law_209 : decode cL_law 209 = .ok (.iaload, 1) := by decide +kernel
theorem dL_law_210 : decode cL_law 210 = .ok (.invokevirtual 22, 3) := by decide +kernel
theorem dL_law_213 : decode cL_law 213 = .ok (.if_icmp .eq 867, 3) := by decide +kernel
theorem dL_law_216 : decode cL_law 216 = .ok (.iconst 0, 1) := by decide +kernel
theorem dL_law_217 : decode cL_law 217 = .ok (.ireturn, 1) := by decide +kernel
theorem dL_law_218 : decode cL_law 218 = .ok (.aload_n 1, 1) := by decide +kernel
theorem dL_law_219 : decode cL_law 219 = .ok (.aload_n 0, 1) := by decide +kernel
theorem dL_law_220 : decode cL_law 220 = .ok (.iload_n 3, 1) := by decide +kernel
theorem dL_law_221 : decode cL_law 221 = .ok (.iconst 1, 1) := by decide +kernel
theorem dL_law_222 : decode cL_law 222 = .ok (.iadd, 1) := by decide +kernel
theorem dL_law_223 : decode cL_law 223 = .ok (.iaload, 1) := by decide +kernel
theorem dL_law_224 : decode cL_law 224 = .ok (.aload_n 0, 1) := by decide +kernel
theorem dL_law_225 : decode cL_law 225 = .ok (.iload_n 3, 1) := by decide +kernel
theorem dL_law_226 : decode cL_law 226 = .ok (.iconst 2, 1) := by decide +kernel
theorem dL_law_227 : decode cL_law 227 = .ok (.iadd, 1) := by decide +kernel
theorem dL_law_228 : decode cL_law 228 = .ok (.iaload, 1) := by decide +kernel
theorem dL_law_229 : decode cL_law 229 = .ok (.aload_n 0, 1) := by decide +kernel
theorem dL_law_230 : decode cL_law 230 = .ok (.iload_n 3, 1) := by decide +kernel
theorem dL_law_231 : decode cL_law 231 = .ok (.iconst 3, 1) := by decide +kernel
theorem dL_law_232 : decode cL_law 232 = .ok (.iadd, 1) := by decide +kernel
theorem dL_law_233 : decode cL_law 233 = .ok (.iaload, 1) := by decide +kernel
theorem dL_law_234 : decode cL_law 234 = .ok (.aload_n 0, 1) := by decide +kernel
theorem dL_law_235 : decode cL_law 235 = .ok (.iload_n 3, 1) := by decide +kernel
theorem dL_law_236 : decode cL_law 236 = .ok (.iconst 4, 1) := by decide +kernel
theorem dL_law_237 : decode cL_law 237 = .ok (.iadd, 1) := by decide +kernel
theorem dL_law_238 : decode cL_law 238 = .ok (.iaload, 1) := by decide +kernel
theorem dL_law_239 : decode cL_law 239 = .ok (.aload_n 0, 1) := by decide +kernel
theorem dL_law_240 : decode cL_law 240 = .ok (.iload_n 3, 1) := by decide +kernel
theorem dL_law_241 : decode cL_law 241 = .ok (.iconst 5, 1) := by decide +kernel
theorem dL_law_242 : decode cL_law 242 = .ok (.iadd, 1) := by decide +kernel
theorem dL_law_243 : decode cL_law 243 = .ok (.iaload, 1) := by decide +kernel
theorem dL_law_244 : decode cL_law 244 = .ok (.aload_n 0, 1) := by decide +kernel
theorem dL_law_245 : decode cL_law 245 = .ok (.iload_n 3, 1) := by decide +kernel
theorem dL_law_246 : decode cL_law 246 = .ok (.bipush 6, 2) := by decide +kernel
theorem dL_law_248 : decode cL_law 248 = .ok (.iadd, 1) := by decide +kernel
theorem dL_law_249 : decode cL_law 249 = .ok (.iaload, 1) := by decide +kernel
theorem dL_law_250 : decode cL_law 250 = .ok (.invokevirtual 23, 3) := by decide +kernel
theorem dL_law_253 : decode cL_law 253 = .ok (.aload_n 2, 1) := by decide +kernel
theorem dL_law_254 : decode cL_law 254 = .ok (.aload_n 0, 1) := by decide +kernel
theorem dL_law_255 : decode cL_law 255 = .ok (.iload_n 3, 1) := by decide +kernel
theorem dL_law_256 : decode cL_law 256 = .ok (.iconst 1, 1) := by decide +kernel
theorem dL_law_257 : decode cL_law 257 = .ok (.iadd, 1) := by decide +kernel
theorem dL_law_258 : decode cL_law 258 = .ok (.iaload, 1) := by decide +kernel
theorem dL_law_259 : decode cL_law 259 = .ok (.aload_n 0, 1) := by decide +kernel
theorem dL_law_260 : decode cL_law 260 = .ok (.iload_n 3, 1) := by decide +kernel
theorem dL_law_261 : decode cL_law 261 = .ok (.iconst 2, 1) := by decide +kernel
theorem dL_law_262 : decode cL_law 262 = .ok (.iadd, 1) := by decide +kernel
theorem dL_law_263 : decode cL_law 263 = .ok (.iaload, 1) := by decide +kernel
theorem dL_law_264 : decode cL_law 264 = .ok (.aload_n 0, 1) := by decide +kernel
theorem dL_law_265 : decode cL_law 265 = .ok (.iload_n 3, 1) := by decide +kernel
theorem dL_law_266 : decode cL_law 266 = .ok (.iconst 3, 1) := by decide +kernel
theorem dL_law_267 : decode cL_law 267 = .ok (.iadd, 1) := by decide +kernel
theorem dL_law_268 : decode cL_law 268 = .ok (.iaload, 1) := by decide +kernel
theorem dL_law_269 : decode cL_law 269 = .ok (.aload_n 0, 1) := by decide +kernel
theorem dL_law_270 : decode cL_law 270 = .ok (.iload_n 3, 1) := by decide +kernel
theorem dL_law_271 : decode cL_law 271 = .ok (.iconst 4, 1) := by decide +kernel
theorem dL_law_272 : decode cL_law 272 = .ok (.iadd, 1) := by decide +kernel
theorem dL_law_273 : decode cL_law 273 = .ok (.iaload, 1) := by decide +kernel
theorem dL_law_274 : decode cL_law 274 = .ok (.aload_n 0, 1) := by decide +kernel
theorem dL_law_275 : decode cL_law 275 = .ok (.iload_n 3, 1) := by decide +kernel
theorem dL_law_276 : decode cL_law 276 = .ok (.iconst 5, 1) := by decide +kernel
theorem dL_law_277 : decode cL_law 277 = .ok (.iadd, 1) := by decide +kernel
theorem dL_law_278 : decode cL_law 278 = .ok (.iaload, 1) := by decide +kernel
theorem dL_law_279 : decode cL_law 279 = .ok (.aload_n 0, 1) := by decide +kernel
theorem dL_law_280 : decode cL_law 280 = .ok (.iload_n 3, 1) := by decide +kernel
theorem dL_law_281 : decode cL_law 281 = .ok (.bipush 6, 2) := by decide +kernel
theorem dL_law_283 : decode cL_law 283 = .ok (.iadd, 1) := by decide +kernel
theorem dL_law_284 : decode cL_law 284 = .ok (.iaload, 1) := by decide +kernel
theorem dL_law_285 : decode cL_law 285 = .ok (.invokevirtual 27, 3) := by decide +kernel
theorem dL_law_288 : decode cL_law 288 = .ok (.if_icmp .eq 792, 3) := by decide +kernel
theorem dL_law_291 : decode cL_law 291 = .ok (.iconst 0, 1) := by decide +kernel
theorem dL_law_292 : decode cL_law 292 = .ok (.ireturn, 1) := by decide +kernel
theorem dL_law_293 : decode cL_law 293 = .ok (.aload_n 1, 1) := by decide +kernel
theorem dL_law_294 : decode cL_law 294 = .ok (.aload_n 0, 1) := by decide +kernel
theorem dL_law_295 : decode cL_law 295 = .ok (.iload_n 3, 1) := by decide +kernel
theorem dL_law_296 : decode cL_law 296 = .ok (.iconst 1, 1) := by decide +kernel
theorem dL_law_297 : decode cL_law 297 = .ok (.iadd, 1) := by decide +kernel
theorem dL_law_298 : decode cL_law 298 = .ok (.iaload, 1) := by decide +kernel
theorem dL_law_299 : decode cL_law 299 = .ok (.aload_n 0, 1) := by decide +kernel
theorem dL_law_300 : decode cL_law 300 = .ok (.iload_n 3, 1) := by decide +kernel
theorem dL_law_301 : decode cL_law 301 = .ok (.iconst 2, 1) := by decide +kernel
theorem dL_law_302 : decode cL_law 302 = .ok (.iadd, 1) := by decide +kernel
theorem dL_law_303 : decode cL_law 303 = .ok (.iaload, 1) := by decide +kernel
theorem dL_law_304 : decode cL_law 304 = .ok (.ifCond .eq 7, 3) := by decide +kernel
theorem dL_law_307 : decode cL_law 307 = .ok (.iconst 1, 1) := by decide +kernel
theorem dL_law_308 : decode cL_law 308 = .ok (.goto 4, 3) := by decide +kernel
theorem dL_law_311 : decode cL_law 311 = .ok (.iconst 0, 1) := by decide +kernel
theorem dL_law_312 : decode cL_law 312 = .ok (.invokevirtual 28, 3) := by decide +kernel
theorem dL_law_315 : decode cL_law 315 = .ok (.aload_n 2, 1) := by decide +kernel
theorem dL_law_316 : decode cL_law 316 = .ok (.aload_n 0, 1) := by decide +kernel
theorem dL_law_317 : decode cL_law 317 = .ok (.iload_n 3, 1) := by decide +kernel
theorem dL_law_318 : decode cL_law 318 = .ok (.iconst 1, 1) := by decide +kernel
theorem dL_law_319 : decode cL_law 319 = .ok (.iadd, 1) := by decide +kernel
theorem dL_law_320 : decode cL_law 320 = .ok (.iaload, 1) := by decide +kernel
theorem dL_law_321 : decode cL_law 321 = .ok (.aload_n 0, 1) := by decide +kernel
theorem dL_law_322 : decode cL_law 322 = .ok (.iload_n 3, 1) := by decide +kernel
theorem dL_law_323 : decode cL_law 323 = .ok (.iconst 2, 1) := by decide +kernel
theorem dL_law_324 : decode cL_law 324 = .ok (.iadd, 1) := by decide +kernel
theorem dL_law_325 : decode cL_law 325 = .ok (.iaload, 1) := by decide +kernel
theorem dL_law_326 : decode cL_law 326 = .ok (.ifCond .eq 7, 3) := by decide +kernel
theorem dL_law_329 : decode cL_law 329 = .ok (.iconst 1, 1) := by decide +kernel
theorem dL_law_330 : decode cL_law 330 = .ok (.goto 4, 3) := by decide +kernel
theorem dL_law_333 : decode cL_law 333 = .ok (.iconst 0, 1) := by decide +kernel
theorem dL_law_334 : decode cL_law 334 = .ok (.invokevirtual 32, 3) := by decide +kernel
theorem dL_law_337 : decode cL_law 337 = .ok (.if_icmp .eq 743, 3) := by decide +kernel
theorem dL_law_340 : decode cL_law 340 = .ok (.iconst 0, 1) := by decide +kernel
theorem dL_law_341 : decode cL_law 341 = .ok (.ireturn, 1) := by decide +kernel
theorem dL_law_342 : decode cL_law 342 = .ok (.aload_n 1, 1) := by decide +kernel
theorem dL_law_343 : decode cL_law 343 = .ok (.aload_n 0, 1) := by decide +kernel
theorem dL_law_344 : decode cL_law 344 = .ok (.iload_n 3, 1) := by decide +kernel
theorem dL_law_345 : decode cL_law 345 = .ok (.iconst 1, 1) := by decide +kernel
theorem dL_law_346 : decode cL_law 346 = .ok (.iadd, 1) := by decide +kernel
theorem dL_law_347 : decode cL_law 347 = .ok (.iaload, 1) := by decide +kernel
theorem dL_law_348 : decode cL_law 348 = .ok (.aload_n 0, 1) := by decide +kernel
theorem dL_law_349 : decode cL_law 349 = .ok (.iload_n 3, 1) := by decide +kernel
theorem dL_law_350 : decode cL_law 350 = .ok (.iconst 2, 1) := by decide +kernel
theorem dL_law_351 : decode cL_law 351 = .ok (.iadd, 1) := by decide +kernel
theorem dL_law_352 : decode cL_law 352 = .ok (.iaload, 1) := by decide +kernel
theorem dL_law_353 : decode cL_law 353 = .ok (.invokevirtual 33, 3) := by decide +kernel
theorem dL_law_356 : decode cL_law 356 = .ok (.aload_n 2, 1) := by decide +kernel
theorem dL_law_357 : decode cL_law 357 = .ok (.aload_n 0, 1) := by decide +kernel
theorem dL_law_358 : decode cL_law 358 = .ok (.iload_n 3, 1) := by decide +kernel
theorem dL_law_359 : decode cL_law 359 = .ok (.iconst 1, 1) := by decide +kernel
theorem dL_law_360 : decode cL_law 360 = .ok (.iadd, 1) := by decide +kernel
theorem dL_law_361 : decode cL_law 361 = .ok (.iaload, 1) := by decide +kernel
theorem dL_law_362 : decode cL_law 362 = .ok (.aload_n 0, 1) := by decide +kernel
theorem dL_law_363 : decode cL_law 363 = .ok (.iload_n 3, 1) := by decide +kernel
theorem dL_law_364 : decode cL_law 364 = .ok (.iconst 2, 1) := by decide +kernel
theorem dL_law_365 : decode cL_law 365 = .ok (.iadd, 1) := by decide +kernel
theorem dL_law_366 : decode cL_law 366 = .ok (.iaload, 1) := by decide +kernel
theorem dL_law_367 : decode cL_law 367 = .ok (.invokevirtual 37, 3) := by decide +kernel
theorem dL_law_370 : decode cL_law 370 = .ok (.if_icmp .eq 710, 3) := by decide +kernel
theorem dL_law_373 : decode cL_law 373 = .ok (.iconst 0, 1) := by decide +kernel
theorem dL_law_374 : decode cL_law 374 = .ok (.ireturn, 1) := by decide +kernel
theorem dL_law_375 : decode cL_law 375 = .ok (.aload_n 1, 1) := by decide +kernel
theorem dL_law_376 : decode cL_law 376 = .ok (.aload_n 0, 1) := by decide +kernel
theorem dL_law_377 : decode cL_law 377 = .ok (.iload_n 3, 1) := by decide +kernel
theorem dL_law_378 : decode cL_law 378 = .ok (.iconst 1, 1) := by decide +kernel
theorem dL_law_379 : decode cL_law 379 = .ok (.iadd, 1) := by decide +kernel
theorem dL_law_380 : decode cL_law 380 = .ok (.iaload, 1) := by decide +kernel
theorem dL_law_381 : decode cL_law 381 = .ok (.i2l, 1) := by decide +kernel
theorem dL_law_382 : decode cL_law 382 = .ok (.bipush 32, 2) := by decide +kernel
theorem dL_law_384 : decode cL_law 384 = .ok (.lshl, 1) := by decide +kernel
theorem dL_law_385 : decode cL_law 385 = .ok (.aload_n 0, 1) := by decide +kernel
theorem dL_law_386 : decode cL_law 386 = .ok (.iload_n 3, 1) := by decide +kernel
theorem dL_law_387 : decode cL_law 387 = .ok (.iconst 2, 1) := by decide +kernel
theorem dL_law_388 : decode cL_law 388 = .ok (.iadd, 1) := by decide +kernel
theorem dL_law_389 : decode cL_law 389 = .ok (.iaload, 1) := by decide +kernel
theorem dL_law_390 : decode cL_law 390 = .ok (.i2l, 1) := by decide +kernel
theorem dL_law_391 : decode cL_law 391 = .ok (.ldc2_w 38, 3) := by decide +kernel
theorem dL_law_394 : decode cL_law 394 = .ok (.land, 1) := by decide +kernel
theorem dL_law_395 : decode cL_law 395 = .ok (.lor, 1) := by decide +kernel
theorem dL_law_396 : decode cL_law 396 = .ok (.aload_n 0, 1) := by decide +kernel
theorem dL_law_397 : decode cL_law 397 = .ok (.iload_n 3, 1) := by decide +kernel
theorem dL_law_398 : decode cL_law 398 = .ok (.iconst 3, 1) := by decide +kernel
end
section
theorem dL_law_399 : decode cL_law 399 = .ok (.iadd, 1) := by decide +kernel
theorem dL_law_400 : decode cL_law 400 = .ok (.iaload, 1) := by decide +kernel
theorem dL_law_401 : decode cL_law 401 = .ok (.invokevirtual 40, 3) := by decide +kernel
theorem dL_law_404 : decode cL_law 404 = .ok (.aload_n 2, 1) := by decide +kernel
theorem dL_law_405 : decode cL_law 405 = .ok (.aload_n 0, 1) := by decide +kernel
theorem dL_law_406 : decode cL_law 406 = .ok (.iload_n 3, 1) := by decide +kernel
theorem dL_law_407 : decode cL_law 407 = .ok (.iconst 1, 1) := by decide +kernel
theorem dL_law_408 : decode cL_law 408 = .ok (.iadd, 1) := by decide +kernel
theorem dL_law_409 : decode cL_law 409 = .ok (.iaload, 1) := by decide +kernel
theorem dL_law_410 : decode cL_law 410 = .ok (.i2l, 1) := by decide +kernel
theorem dL_law_411 : decode cL_law 411 = .ok (.bipush 32, 2) := by decide +kernel
theorem dL_law_413 : decode cL_law 413 = .ok (.lshl, 1) := by decide +kernel
theorem dL_law_414 : decode cL_law 414 = .ok (.aload_n 0, 1) := by decide +kernel
theorem dL_law_415 : decode cL_law 415 = .ok (.iload_n 3, 1) := by decide +kernel
theorem dL_law_416 : decode cL_law 416 = .ok (.iconst 2, 1) := by decide +kernel
theorem dL_law_417 : decode cL_law 417 = .ok (.iadd, 1) := by decide +kernel
theorem dL_law_418 : decode cL_law 418 = .ok (.iaload, 1) := by decide +kernel
theorem dL_law_419 : decode cL_law 419 = .ok (.i2l, 1) := by decide +kernel
theorem dL_law_420 : decode cL_law 420 = .ok (.ldc2_w 38, 3) := by decide +kernel
theorem dL_law_423 : decode cL_law 423 = .ok (.land, 1) := by decide +kernel
theorem dL_law_424 : decode cL_law 424 = .ok (.lor, 1) := by decide +kernel
theorem dL_law_425 : decode cL_law 425 = .ok (.aload_n 0, 1) := by decide +kernel
theorem dL_law_426 : decode cL_law 426 = .ok (.iload_n 3, 1) := by decide +kernel
theorem dL_law_427 : decode cL_law 427 = .ok (.iconst 3, 1) := by decide +kernel
theorem dL_law_428 : decode cL_law 428 = .ok (.iadd, 1) := by decide +kernel
theorem dL_law_429 : decode cL_law 429 = .ok (.iaload, 1) := by decide +kernel
theorem dL_law_430 : decode cL_law 430 = .ok (.invokevirtual 44, 3) := by decide +kernel
theorem dL_law_433 : decode cL_law 433 = .ok (.if_icmp .eq 647, 3) := by decide +kernel
theorem dL_law_436 : decode cL_law 436 = .ok (.iconst 0, 1) := by decide +kernel
theorem dL_law_437 : decode cL_law 437 = .ok (.ireturn, 1) := by decide +kernel
theorem dL_law_438 : decode cL_law 438 = .ok (.aload_n 1, 1) := by decide +kernel
theorem dL_law_439 : decode cL_law 439 = .ok (.invokevirtual 45, 3) := by decide +kernel
theorem dL_law_442 : decode cL_law 442 = .ok (.aload_n 2, 1) := by decide +kernel
theorem dL_law_443 : decode cL_law 443 = .ok (.invokevirtual 49, 3) := by decide +kernel
theorem dL_law_446 : decode cL_law 446 = .ok (.if_icmp .eq 634, 3) := by decide +kernel
theorem dL_law_449 : decode cL_law 449 = .ok (.iconst 0, 1) := by decide +kernel
theorem dL_law_450 : decode cL_law 450 = .ok (.ireturn, 1) := by decide +kernel
theorem dL_law_451 : decode cL_law 451 = .ok (.aload_n 1, 1) := by decide +kernel
theorem dL_law_452 : decode cL_law 452 = .ok (.invokevirtual 50, 3) := by decide +kernel
theorem dL_law_455 : decode cL_law 455 = .ok (.aload_n 2, 1) := by decide +kernel
theorem dL_law_456 : decode cL_law 456 = .ok (.invokevirtual 53, 3) := by decide +kernel
theorem dL_law_459 : decode cL_law 459 = .ok (.if_icmp .eq 621, 3) := by decide +kernel
theorem dL_law_462 : decode cL_law 462 = .ok (.iconst 0, 1) := by decide +kernel
theorem dL_law_463 : decode cL_law 463 = .ok (.ireturn, 1) := by decide +kernel
theorem dL_law_464 : decode cL_law 464 = .ok (.aload_n 1, 1) := by decide +kernel
theorem dL_law_465 : decode cL_law 465 = .ok (.aload_n 0, 1) := by decide +kernel
theorem dL_law_466 : decode cL_law 466 = .ok (.iload_n 3, 1) := by decide +kernel
theorem dL_law_467 : decode cL_law 467 = .ok (.iconst 1, 1) := by decide +kernel
theorem dL_law_468 : decode cL_law 468 = .ok (.iadd, 1) := by decide +kernel
theorem dL_law_469 : decode cL_law 469 = .ok (.iaload, 1) := by decide +kernel
theorem dL_law_470 : decode cL_law 470 = .ok (.aload_n 0, 1) := by decide +kernel
theorem dL_law_471 : decode cL_law 471 = .ok (.iload_n 3, 1) := by decide +kernel
theorem dL_law_472 : decode cL_law 472 = .ok (.iconst 2, 1) := by decide +kernel
theorem dL_law_473 : decode cL_law 473 = .ok (.iadd, 1) := by decide +kernel
theorem dL_law_474 : decode cL_law 474 = .ok (.iaload, 1) := by decide +kernel
theorem dL_law_475 : decode cL_law 475 = .ok (.aload_n 0, 1) := by decide +kernel
theorem dL_law_476 : decode cL_law 476 = .ok (.iload_n 3, 1) := by decide +kernel
theorem dL_law_477 : decode cL_law 477 = .ok (.iconst 3, 1) := by decide +kernel
theorem dL_law_478 : decode cL_law 478 = .ok (.iadd, 1) := by decide +kernel
theorem dL_law_479 : decode cL_law 479 = .ok (.iaload, 1) := by decide +kernel
theorem dL_law_480 : decode cL_law 480 = .ok (.aload_n 0, 1) := by decide +kernel
theorem dL_law_481 : decode cL_law 481 = .ok (.iload_n 3, 1) := by decide +kernel
theorem dL_law_482 : decode cL_law 482 = .ok (.iconst 4, 1) := by decide +kernel
theorem dL_law_483 : decode cL_law 483 = .ok (.iadd, 1) := by decide +kernel
theorem dL_law_484 : decode cL_law 484 = .ok (.iaload, 1) := by decide +kernel
theorem dL_law_485 : decode cL_law 485 = .ok (.invokevirtual 54, 3) := by decide +kernel
theorem dL_law_488 : decode cL_law 488 = .ok (.aload_n 2, 1) := by decide +kernel
theorem dL_law_489 : decode cL_law 489 = .ok (.aload_n 0, 1) := by decide +kernel
theorem dL_law_490 : decode cL_law 490 = .ok (.iload_n 3, 1) := by decide +kernel
theorem dL_law_491 : decode cL_law 491 = .ok (.iconst 1, 1) := by decide +kernel
theorem dL_law_492 : decode cL_law 492 = .ok (.iadd, 1) := by decide +kernel
theorem dL_law_493 : decode cL_law 493 = .ok (.iaload, 1) := by decide +kernel
theorem dL_law_494 : decode cL_law 494 = .ok (.aload_n 0, 1) := by decide +kernel
theorem dL_law_495 : decode cL_law 495 = .ok (.iload_n 3, 1) := by decide +kernel
theorem dL_law_496 : decode cL_law 496 = .ok (.iconst 2, 1) := by decide +kernel
theorem dL_law_497 : decode cL_law 497 = .ok (.iadd, 1) := by decide +kernel
theorem dL_law_498 : decode cL_law 498 = .ok (.iaload, 1) := by decide +kernel
theorem dL_law_499 : decode cL_law 499 = .ok (.aload_n 0, 1) := by decide +kernel
theorem dL_law_500 : decode cL_law 500 = .ok (.iload_n 3, 1) := by decide +kernel
theorem dL_law_501 : decode cL_law 501 = .ok (.iconst 3, 1) := by decide +kernel
theorem dL_law_502 : decode cL_law 502 = .ok (.iadd, 1) := by decide +kernel
theorem dL_law_503 : decode cL_law 503 = .ok (.iaload, 1) := by decide +kernel
theorem dL_law_504 : decode cL_law 504 = .ok (.aload_n 0, 1) := by decide +kernel
theorem dL_law_505 : decode cL_law 505 = .ok (.iload_n 3, 1) := by decide +kernel
theorem dL_law_506 : decode cL_law 506 = .ok (.iconst 4, 1) := by decide +kernel
theorem dL_law_507 : decode cL_law 507 = .ok (.iadd, 1) := by decide +kernel
theorem dL_law_508 : decode cL_law 508 = .ok (.iaload, 1) := by decide +kernel
theorem dL_law_509 : decode cL_law 509 = .ok (.invokevirtual 58, 3) := by decide +kernel
theorem dL_law_512 : decode cL_law 512 = .ok (.if_icmp .eq 568, 3) := by decide +kernel
theorem dL_law_515 : decode cL_law 515 = .ok (.iconst 0, 1) := by decide +kernel
theorem dL_law_516 : decode cL_law 516 = .ok (.ireturn, 1) := by decide +kernel
theorem dL_law_517 : decode cL_law 517 = .ok (.aload_n 1, 1) := by decide +kernel
theorem dL_law_518 : decode cL_law 518 = .ok (.aload_n 0, 1) := by decide +kernel
theorem dL_law_519 : decode cL_law 519 = .ok (.iload_n 3, 1) := by decide +kernel
theorem dL_law_520 : decode cL_law 520 = .ok (.iconst 1, 1) := by decide +kernel
theorem dL_law_521 : decode cL_law 521 = .ok (.iadd, 1) := by decide +kernel
theorem dL_law_522 : decode cL_law 522 = .ok (.iaload, 1) := by decide +kernel
theorem dL_law_523 : decode cL_law 523 = .ok (.aload_n 0, 1) := by decide +kernel
theorem dL_law_524 : decode cL_law 524 = .ok (.iload_n 3, 1) := by decide +kernel
theorem dL_law_525 : decode cL_law 525 = .ok (.iconst 2, 1) := by decide +kernel
theorem dL_law_526 : decode cL_law 526 = .ok (.iadd, 1) := by decide +kernel
theorem dL_law_527 : decode cL_law 527 = .ok (.iaload, 1) := by decide +kernel
theorem dL_law_528 : decode cL_law 528 = .ok (.aload_n 0, 1) := by decide +kernel
theorem dL_law_529 : decode cL_law 529 = .ok (.iload_n 3, 1) := by decide +kernel
theorem dL_law_530 : decode cL_law 530 = .ok (.iconst 3, 1) := by decide +kernel
theorem dL_law_531 : decode cL_law 531 = .ok (.iadd, 1) := by decide +kernel
theorem dL_law_532 : decode cL_law 532 = .ok (.iaload, 1) := by decide +kernel
theorem dL_law_533 : decode cL_law 533 = .ok (.aload_n 0, 1) := by decide +kernel
theorem dL_law_534 : decode cL_law 534 = .ok (.iload_n 3, 1) := by decide +kernel
theorem dL_law_535 : decode cL_law 535 = .ok (.iconst 4, 1) := by decide +kernel
theorem dL_law_536 : decode cL_law 536 = .ok (.iadd, 1) := by decide +kernel
theorem dL_law_537 : decode cL_law 537 = .ok (.iaload, 1) := by decide +kernel
theorem dL_law_538 : decode cL_law 538 = .ok (.invokevirtual 59, 3) := by decide +kernel
theorem dL_law_541 : decode cL_law 541 = .ok (.aload_n 2, 1) := by decide +kernel
theorem dL_law_542 : decode cL_law 542 = .ok (.aload_n 0, 1) := by decide +kernel
theorem dL_law_543 : decode cL_law 543 = .ok (.iload_n 3, 1) := by decide +kernel
theorem dL_law_544 : decode cL_law 544 = .ok (.iconst 1, 1) := by decide +kernel
theorem dL_law_545 : decode cL_law 545 = .ok (.iadd, 1) := by decide +kernel
theorem dL_law_546 : decode cL_law 546 = .ok (.iaload, 1) := by decide +kernel
theorem dL_law_547 : decode cL_law 547 = .ok (.aload_n 0, 1) := by decide +kernel
theorem dL_law_548 : decode cL_law 548 = .ok (.iload_n 3, 1) := by decide +kernel
theorem dL_law_549 : decode cL_law 549 = .ok (.iconst 2, 1) := by decide +kernel
theorem dL_law_550 : decode cL_law 550 = .ok (.iadd, 1) := by decide +kernel
theorem dL_law_551 : decode cL_law 551 = .ok (.iaload, 1) := by decide +kernel
theorem dL_law_552 : decode cL_law 552 = .ok (.aload_n 0, 1) := by decide +kernel
theorem dL_law_553 : decode cL_law 553 = .ok (.iload_n 3, 1) := by decide +kernel
theorem dL_law_554 : decode cL_law 554 = .ok (.iconst 3, 1) := by decide +kernel
theorem dL_law_555 : decode cL_law 555 = .ok (.iadd, 1) := by decide +kernel
theorem dL_law_556 : decode cL_law 556 = .ok (.iaload, 1) := by decide +kernel
theorem dL_law_557 : decode cL_law 557 = .ok (.aload_n 0, 1) := by decide +kernel
theorem dL_law_558 : decode cL_law 558 = .ok (.iload_n 3, 1) := by decide +kernel
theorem dL_law_559 : decode cL_law 559 = .ok (.iconst 4, 1) := by decide +kernel
theorem dL_law_560 : decode cL_law 560 = .ok (.iadd, 1) := by decide +kernel
theorem dL_law_561 : decode cL_law 561 = .ok (.iaload, 1) := by decide +kernel
theorem dL_law_562 : decode cL_law 562 = .ok (.invokevirtual 62, 3) := by decide +kernel
theorem dL_law_565 : decode cL_law 565 = .ok (.if_icmp .eq 515, 3) := by decide +kernel
theorem dL_law_568 : decode cL_law 568 = .ok (.iconst 0, 1) := by decide +kernel
theorem dL_law_569 : decode cL_law 569 = .ok (.ireturn, 1) := by decide +kernel
theorem dL_law_570 : decode cL_law 570 = .ok (.aload_n 1, 1) := by decide +kernel
theorem dL_law_571 : decode cL_law 571 = .ok (.aload_n 0, 1) := by decide +kernel
theorem dL_law_572 : decode cL_law 572 = .ok (.iload_n 3, 1) := by decide +kernel
theorem dL_law_573 : decode cL_law 573 = .ok (.iconst 1, 1) := by decide +kernel
theorem dL_law_574 : decode cL_law 574 = .ok (.iadd, 1) := by decide +kernel
theorem dL_law_575 : decode cL_law 575 = .ok (.iaload, 1) := by decide +kernel
theorem dL_law_576 : decode cL_law 576 = .ok (.aload_n 0, 1) := by decide +kernel
theorem dL_law_577 : decode cL_law 577 = .ok (.iload_n 3, 1) := by decide +kernel
theorem dL_law_578 : decode cL_law 578 = .ok (.iconst 2, 1) := by decide +kernel
theorem dL_law_579 : decode cL_law 579 = .ok (.iadd, 1) := by decide +kernel
theorem dL_law_580 : decode cL_law 580 = .ok (.iaload, 1) := by decide +kernel
theorem dL_law_581 : decode cL_law 581 = .ok (.aload_n 0, 1) := by decide +kernel
theorem dL_law_582 : decode cL_law 582 = .ok (.iload_n 3, 1) := by decide +kernel
theorem dL_law_583 : decode cL_law 583 = .ok (.iconst 3, 1) := by decide +kernel
theorem dL_law_584 : decode cL_law 584 = .ok (.iadd, 1) := by decide +kernel
theorem dL_law_585 : decode cL_law 585 = .ok (.iaload, 1) := by decide +kernel
theorem dL_law_586 : decode cL_law 586 = .ok (.invokevirtual 63, 3) := by decide +kernel
theorem dL_law_589 : decode cL_law 589 = .ok (.aload_n 2, 1) := by decide +kernel
theorem dL_law_590 : decode cL_law 590 = .ok (.aload_n 0, 1) := by decide +kernel
theorem dL_law_591 : decode cL_law 591 = .ok (.iload_n 3, 1) := by decide +kernel
theorem dL_law_592 : decode cL_law 592 = .ok (.iconst 1, 1) := by decide +kernel
theorem dL_law_593 : decode cL_law 593 = .ok (.iadd, 1) := by decide +kernel
theorem dL_law_594 : decode cL_law 594 = .ok (.iaload, 1) := by decide +kernel
theorem dL_law_595 : decode cL_law 595 = .ok (.aload_n 0, 1) := by decide +kernel
theorem dL_law_596 : decode cL_law 596 = .ok (.iload_n 3, 1) := by decide +kernel
theorem dL_law_597 : decode cL_law 597 = .ok (.iconst 2, 1) := by decide +kernel
theorem dL_law_598 : decode cL_law 598 = .ok (.iadd, 1) := by decide +kernel
theorem dL_law_599 : decode cL_law 599 = .ok (.iaload, 1) := by decide +kernel
theorem dL_law_600 : decode cL_law 600 = .ok (.aload_n 0, 1) := by decide +kernel
theorem dL_law_601 : decode cL_law 601 = .ok (.iload_n 3, 1) := by decide +kernel
theorem dL_law_602 : decode cL_law 602 = .ok (.iconst 3, 1) := by decide +kernel
theorem dL_law_603 : decode cL_law 603 = .ok (.iadd, 1) := by decide +kernel
theorem dL_law_604 : decode cL_law 604 = .ok (.iaload, 1) := by decide +kernel
theorem dL_law_605 : decode cL_law 605 = .ok (.invokevirtual 66, 3) := by decide +kernel
theorem dL_law_608 : decode cL_law 608 = .ok (.if_icmp .eq 472, 3) := by decide +kernel
theorem dL_law_611 : decode cL_law 611 = .ok (.iconst 0, 1) := by decide +kernel
theorem dL_law_612 : decode cL_law 612 = .ok (.ireturn, 1) := by decide +kernel
theorem dL_law_613 : decode cL_law 613 = .ok (.aload_n 1, 1) := by decide +kernel
theorem dL_law_614 : decode cL_law 614 = .ok (.aload_n 0, 1) := by decide +kernel
theorem dL_law_615 : decode cL_law 615 = .ok (.iload_n 3, 1) := by decide +kernel
theorem dL_law_616 : decode cL_law 616 = .ok (.iconst 1, 1) := by decide +kernel
theorem dL_law_617 : decode cL_law 617 = .ok (.iadd, 1) := by decide +kernel
theorem dL_law_618 : decode cL_law 618 = .ok (.iaload, 1) := by decide +kernel
theorem dL_law_619 : decode cL_law 619 = .ok (.aload_n 0, 1) := by decide +kernel
theorem dL_law_620 : decode cL_law 620 = .ok (.iload_n 3, 1) := by decide +kernel
theorem dL_law_621 : decode cL_law 621 = .ok (.iconst 2, 1) := by decide +kernel
theorem dL_law_622 : decode cL_law 622 = .ok (.iadd, 1) := by decide +kernel
theorem dL_law_623 : decode cL_law 623 = .ok (.iaload, 1) := by decide +kernel
theorem dL_law_624 : decode cL_law 624 = .ok (.invokevirtual 67, 3) := by decide +kernel
theorem dL_law_627 : decode cL_law 627 = .ok (.aload_n 2, 1) := by decide +kernel
theorem dL_law_628 : decode cL_law 628 = .ok (.aload_n 0, 1) := by decide +kernel
theorem dL_law_629 : decode cL_law 629 = .ok (.iload_n 3, 1) := by decide +kernel
theorem dL_law_630 : decode cL_law 630 = .ok (.iconst 1, 1) := by decide +kernel
theorem dL_law_631 : decode cL_law 631 = .ok (.iadd, 1) := by decide +kernel
theorem dL_law_632 : decode cL_law 632 = .ok (.iaload, 1) := by decide +kernel
theorem dL_law_633 : decode cL_law 633 = .ok (.aload_n 0, 1) := by decide +kernel
theorem dL_law_634 : decode cL_law 634 = .ok (.iload_n 3, 1) := by decide +kernel
theorem dL_law_635 : decode cL_law 635 = .ok (.iconst 2, 1) := by decide +kernel
theorem dL_law_636 : decode cL_law 636 = .ok (.iadd, 1) := by decide +kernel
theorem dL_law_637 : decode cL_law 637 = .ok (.iaload, 1) := by decide +kernel
theorem dL_law_638 : decode cL_law 638 = .ok (.invokevirtual 70, 3) := by decide +kernel
theorem dL_law_641 : decode cL_law 641 = .ok (.if_icmp .eq 439, 3) := by decide +kernel
theorem dL_law_644 : decode cL_law 644 = .ok (.iconst 0, 1) := by decide +kernel
theorem dL_law_645 : decode cL_law 645 = .ok (.ireturn, 1) := by decide +kernel
theorem dL_law_646 : decode cL_law 646 = .ok (.aload_n 1, 1) := by decide +kernel
theorem dL_law_647 : decode cL_law 647 = .ok (.aload_n 0, 1) := by decide +kernel
theorem dL_law_648 : decode cL_law 648 = .ok (.iload_n 3, 1) := by decide +kernel
theorem dL_law_649 : decode cL_law 649 = .ok (.iconst 1, 1) := by decide +kernel
theorem dL_law_650 : decode cL_law 650 = .ok (.iadd, 1) := by decide +kernel
theorem dL_law_651 : decode cL_law 651 = .ok (.iaload, 1) := by decide +kernel
theorem dL_law_652 : decode cL_law 652 = .ok (.invokevirtual 71, 3) := by decide +kernel
theorem dL_law_655 : decode cL_law 655 = .ok (.aload_n 2, 1) := by decide +kernel
theorem dL_law_656 : decode cL_law 656 = .ok (.aload_n 0, 1) := by decide +kernel
theorem dL_law_657 : decode cL_law 657 = .ok (.iload_n 3, 1) := by decide +kernel
theorem dL_law_658 : decode cL_law 658 = .ok (.iconst 1, 1) := by decide +kernel
theorem dL_law_659 : decode cL_law 659 = .ok (.iadd, 1) := by decide +kernel
theorem dL_law_660 : decode cL_law 660 = .ok (.iaload, 1) := by decide +kernel
theorem dL_law_661 : decode cL_law 661 = .ok (.invokevirtual 74, 3) := by decide +kernel
theorem dL_law_664 : decode cL_law 664 = .ok (.if_icmp .eq 416, 3) := by decide +kernel
theorem dL_law_667 : decode cL_law 667 = .ok (.iconst 0, 1) := by decide +kernel
theorem dL_law_668 : decode cL_law 668 = .ok (.ireturn, 1) := by decide +kernel
theorem dL_law_669 : decode cL_law 669 = .ok (.aload_n 1, 1) := by decide +kernel
theorem dL_law_670 : decode cL_law 670 = .ok (.aload_n 0, 1) := by decide +kernel
theorem dL_law_671 : decode cL_law 671 = .ok (.iload_n 3, 1) := by decide +kernel
theorem dL_law_672 : decode cL_law 672 = .ok (.iconst 1, 1) := by decide +kernel
theorem dL_law_673 : decode cL_law 673 = .ok (.iadd, 1) := by decide +kernel
theorem dL_law_674 : decode cL_law 674 = .ok (.iaload, 1) := by decide +kernel
theorem dL_law_675 : decode cL_law 675 = .ok (.invokevirtual 75, 3) := by decide +kernel
theorem dL_law_678 : decode cL_law 678 = .ok (.aload_n 2, 1) := by decide +kernel
theorem dL_law_679 : decode cL_law 679 = .ok (.aload_n 0, 1) := by decide +kernel
theorem dL_law_680 : decode cL_law 680 = .ok (.iload_n 3, 1) := by decide +kernel
theorem dL_law_681 : decode cL_law 681 = .ok (.iconst 1, 1) := by decide +kernel
theorem dL_law_682 : decode cL_law 682 = .ok (.iadd, 1) := by decide +kernel
theorem dL_law_683 : decode cL_law 683 = .ok (.iaload, 1) := by decide +kernel
theorem dL_law_684 : decode cL_law 684 = .ok (.invokevirtual 78, 3) := by decide +kernel
theorem dL_law_687 : decode cL_law 687 = .ok (.if_icmp .eq 393, 3) := by decide +kernel
theorem dL_law_690 : decode cL_law 690 = .ok (.iconst 0, 1) := by decide +kernel
theorem dL_law_691 : decode cL_law 691 = .ok (.ireturn, 1) := by decide +kernel
theorem dL_law_692 : decode cL_law 692 = .ok (.aload_n 1, 1) := by decide +kernel
theorem dL_law_693 : decode cL_law 693 = .ok (.aload_n 0, 1) := by decide +kernel
theorem dL_law_694 : decode cL_law 694 = .ok (.iload_n 3, 1) := by decide +kernel
theorem dL_law_695 : decode cL_law 695 = .ok (.iconst 1, 1) := by decide +kernel
theorem dL_law_696 : decode cL_law 696 = .ok (.iadd, 1) := by decide +kernel
theorem dL_law_697 : decode cL_law 697 = .ok (.iaload, 1) := by decide +kernel
theorem dL_law_698 : decode cL_law 698 = .ok (.invokevirtual 79, 3) := by decide +kernel
theorem dL_law_701 : decode cL_law 701 = .ok (.aload_n 2, 1) := by decide +kernel
theorem dL_law_702 : decode cL_law 702 = .ok (.aload_n 0, 1) := by decide +kernel
theorem dL_law_703 : decode cL_law 703 = .ok (.iload_n 3, 1) := by decide +kernel
theorem dL_law_704 : decode cL_law 704 = .ok (.iconst 1, 1) := by decide +kernel
theorem dL_law_705 : decode cL_law 705 = .ok (.iadd, 1) := by decide +kernel
theorem dL_law_706 : decode cL_law 706 = .ok (.iaload, 1) := by decide +kernel
theorem dL_law_707 : decode cL_law 707 = .ok (.invokevirtual 82, 3) := by decide +kernel
theorem dL_law_710 : decode cL_law 710 = .ok (.if_icmp .eq 370, 3) := by decide +kernel
theorem dL_law_713 : decode cL_law 713 = .ok (.iconst 0, 1) := by decide +kernel
theorem dL_law_714 : decode cL_law 714 = .ok (.ireturn, 1) := by decide +kernel
theorem dL_law_715 : decode cL_law 715 = .ok (.aload_n 1, 1) := by decide +kernel
theorem dL_law_716 : decode cL_law 716 = .ok (.aload_n 0, 1) := by decide +kernel
theorem dL_law_717 : decode cL_law 717 = .ok (.iload_n 3, 1) := by decide +kernel
theorem dL_law_718 : decode cL_law 718 = .ok (.iconst 1, 1) := by decide +kernel
theorem dL_law_719 : decode cL_law 719 = .ok (.iadd, 1) := by decide +kernel
theorem dL_law_720 : decode cL_law 720 = .ok (.iaload, 1) := by decide +kernel
theorem dL_law_721 : decode cL_law 721 = .ok (.aload_n 0, 1) := by decide +kernel
theorem dL_law_722 : decode cL_law 722 = .ok (.iload_n 3, 1) := by decide +kernel
theorem dL_law_723 : decode cL_law 723 = .ok (.iconst 2, 1) := by decide +kernel
theorem dL_law_724 : decode cL_law 724 = .ok (.iadd, 1) := by decide +kernel
theorem dL_law_725 : decode cL_law 725 = .ok (.iaload, 1) := by decide +kernel
theorem dL_law_726 : decode cL_law 726 = .ok (.aload_n 0, 1) := by decide +kernel
theorem dL_law_727 : decode cL_law 727 = .ok (.iload_n 3, 1) := by decide +kernel
theorem dL_law_728 : decode cL_law 728 = .ok (.iconst 3, 1) := by decide +kernel
theorem dL_law_729 : decode cL_law 729 = .ok (.iadd, 1) := by decide +kernel
theorem dL_law_730 : decode cL_law 730 = .ok (.iaload, 1) := by decide +kernel
theorem dL_law_731 : decode cL_law 731 = .ok (.aload_n 0, 1) := by decide +kernel
theorem dL_law_732 : decode cL_law 732 = .ok (.iload_n 3, 1) := by decide +kernel
theorem dL_law_733 : decode cL_law 733 = .ok (.iconst 4, 1) := by decide +kernel
theorem dL_law_734 : decode cL_law 734 = .ok (.iadd, 1) := by decide +kernel
theorem dL_law_735 : decode cL_law 735 = .ok (.iaload, 1) := by decide +kernel
theorem dL_law_736 : decode cL_law 736 = .ok (.invokevirtual 83, 3) := by decide +kernel
theorem dL_law_739 : decode cL_law 739 = .ok (.aload_n 2, 1) := by decide +kernel
theorem dL_law_740 : decode cL_law 740 = .ok (.aload_n 0, 1) := by decide +kernel
theorem dL_law_741 : decode cL_law 741 = .ok (.iload_n 3, 1) := by decide +kernel
theorem dL_law_742 : decode cL_law 742 = .ok (.iconst 1, 1) := by decide +kernel
theorem dL_law_743 : decode cL_law 743 = .ok (.iadd, 1) := by decide +kernel
theorem dL_law_744 : decode cL_law 744 = .ok (.iaload, 1) := by decide +kernel
theorem dL_law_745 : decode cL_law 745 = .ok (.aload_n 0, 1) := by decide +kernel
theorem dL_law_746 : decode cL_law 746 = .ok (.iload_n 3, 1) := by decide +kernel
theorem dL_law_747 : decode cL_law 747 = .ok (.iconst 2, 1) := by decide +kernel
theorem dL_law_748 : decode cL_law 748 = .ok (.iadd, 1) := by decide +kernel
theorem dL_law_749 : decode cL_law 749 = .ok (.iaload, 1) := by decide +kernel
theorem dL_law_750 : decode cL_law 750 = .ok (.aload_n 0, 1) := by decide +kernel
theorem dL_law_751 : decode cL_law 751 = .ok (.iload_n 3, 1) := by decide +kernel
theorem dL_law_752 : decode cL_law 752 = .ok (.iconst 3, 1) := by decide +kernel
theorem dL_law_753 : decode cL_law 753 = .ok (.iadd, 1) := by decide +kernel
theorem dL_law_754 : decode cL_law 754 = .ok (.iaload, 1) := by decide +kernel
theorem dL_law_755 : decode cL_law 755 = .ok (.aload_n 0, 1) := by decide +kernel
theorem dL_law_756 : decode cL_law 756 = .ok (.iload_n 3, 1) := by decide +kernel
theorem dL_law_757 : decode cL_law 757 = .ok (.iconst 4, 1) := by decide +kernel
theorem dL_law_758 : decode cL_law 758 = .ok (.iadd, 1) := by decide +kernel
theorem dL_law_759 : decode cL_law 759 = .ok (.iaload, 1) := by decide +kernel
theorem dL_law_760 : decode cL_law 760 = .ok (.invokevirtual 86, 3) := by decide +kernel
theorem dL_law_763 : decode cL_law 763 = .ok (.if_icmp .eq 317, 3) := by decide +kernel
theorem dL_law_766 : decode cL_law 766 = .ok (.iconst 0, 1) := by decide +kernel
theorem dL_law_767 : decode cL_law 767 = .ok (.ireturn, 1) := by decide +kernel
theorem dL_law_768 : decode cL_law 768 = .ok (.aload_n 1, 1) := by decide +kernel
theorem dL_law_769 : decode cL_law 769 = .ok (.aload_n 0, 1) := by decide +kernel
theorem dL_law_770 : decode cL_law 770 = .ok (.iload_n 3, 1) := by decide +kernel
theorem dL_law_771 : decode cL_law 771 = .ok (.iconst 1, 1) := by decide +kernel
theorem dL_law_772 : decode cL_law 772 = .ok (.iadd, 1) := by decide +kernel
theorem dL_law_773 : decode cL_law 773 = .ok (.iaload, 1) := by decide +kernel
theorem dL_law_774 : decode cL_law 774 = .ok (.aload_n 0, 1) := by decide +kernel
theorem dL_law_775 : decode cL_law 775 = .ok (.iload_n 3, 1) := by decide +kernel
theorem dL_law_776 : decode cL_law 776 = .ok (.iconst 2, 1) := by decide +kernel
theorem dL_law_777 : decode cL_law 777 = .ok (.iadd, 1) := by decide +kernel
theorem dL_law_778 : decode cL_law 778 = .ok (.iaload, 1) := by decide +kernel
theorem dL_law_779 : decode cL_law 779 = .ok (.aload_n 0, 1) := by decide +kernel
theorem dL_law_780 : decode cL_law 780 = .ok (.iload_n 3, 1) := by decide +kernel
theorem dL_law_781 : decode cL_law 781 = .ok (.iconst 3, 1) := by decide +kernel
theorem dL_law_782 : decode cL_law 782 = .ok (.iadd, 1) := by decide +kernel
theorem dL_law_783 : decode cL_law 783 = .ok (.iaload, 1) := by decide +kernel
theorem dL_law_784 : decode cL_law 784 = .ok (.invokevirtual 87, 3) := by decide +kernel
theorem dL_law_787 : decode cL_law 787 = .ok (.aload_n 2, 1) := by decide +kernel
theorem dL_law_788 : decode cL_law 788 = .ok (.aload_n 0, 1) := by decide +kernel
theorem dL_law_789 : decode cL_law 789 = .ok (.iload_n 3, 1) := by decide +kernel
theorem dL_law_790 : decode cL_law 790 = .ok (.iconst 1, 1) := by decide +kernel
theorem dL_law_791 : decode cL_law 791 = .ok (.iadd, 1) := by decide +kernel
theorem dL_law_792 : decode cL_law 792 = .ok (.iaload, 1) := by decide +kernel
theorem dL_law_793 : decode cL_law 793 = .ok (.aload_n 0, 1) := by decide +kernel
theorem dL_law_794 : decode cL_law 794 = .ok (.iload_n 3, 1) := by decide +kernel
theorem dL_law_795 : decode cL_law 795 = .ok (.iconst 2, 1) := by decide +kernel
theorem dL_law_796 : decode cL_law 796 = .ok (.iadd, 1) := by decide +kernel
theorem dL_law_797 : decode cL_law 797 = .ok (.iaload, 1) := by decide +kernel
theorem dL_law_798 : decode cL_law 798 = .ok (.aload_n 0, 1) := by decide +kernel
theorem dL_law_799 : decode cL_law 799 = .ok (.iload_n 3, 1) := by decide +kernel
theorem dL_law_800 : decode cL_law 800 = .ok (.iconst 3, 1) := by decide +kernel
theorem dL_law_801 : decode cL_law 801 = .ok (.iadd, 1) := by decide +kernel
theorem dL_law_802 : decode cL_law 802 = .ok (.iaload, 1) := by decide +kernel
theorem dL_law_803 : decode cL_law 803 = .ok (.invokevirtual 90, 3) := by decide +kernel
theorem dL_law_806 : decode cL_law 806 = .ok (.if_icmp .eq 274, 3) := by decide +kernel
theorem dL_law_809 : decode cL_law 809 = .ok (.iconst 0, 1) := by decide +kernel
theorem dL_law_810 : decode cL_law 810 = .ok (.ireturn, 1) := by decide +kernel
theorem dL_law_811 : decode cL_law 811 = .ok (.aload_n 1, 1) := by decide +kernel
theorem dL_law_812 : decode cL_law 812 = .ok (.aload_n 0, 1) := by decide +kernel
theorem dL_law_813 : decode cL_law 813 = .ok (.iload_n 3, 1) := by decide +kernel
theorem dL_law_814 : decode cL_law 814 = .ok (.iconst 1, 1) := by decide +kernel
theorem dL_law_815 : decode cL_law 815 = .ok (.iadd, 1) := by decide +kernel
theorem dL_law_816 : decode cL_law 816 = .ok (.iaload, 1) := by decide +kernel
theorem dL_law_817 : decode cL_law 817 = .ok (.aload_n 0, 1) := by decide +kernel
theorem dL_law_818 : decode cL_law 818 = .ok (.iload_n 3, 1) := by decide +kernel
theorem dL_law_819 : decode cL_law 819 = .ok (.iconst 2, 1) := by decide +kernel
theorem dL_law_820 : decode cL_law 820 = .ok (.iadd, 1) := by decide +kernel
theorem dL_law_821 : decode cL_law 821 = .ok (.iaload, 1) := by decide +kernel
theorem dL_law_822 : decode cL_law 822 = .ok (.aload_n 0, 1) := by decide +kernel
theorem dL_law_823 : decode cL_law 823 = .ok (.iload_n 3, 1) := by decide +kernel
theorem dL_law_824 : decode cL_law 824 = .ok (.iconst 3, 1) := by decide +kernel
theorem dL_law_825 : decode cL_law 825 = .ok (.iadd, 1) := by decide +kernel
theorem dL_law_826 : decode cL_law 826 = .ok (.iaload, 1) := by decide +kernel
theorem dL_law_827 : decode cL_law 827 = .ok (.invokevirtual 91, 3) := by decide +kernel
theorem dL_law_830 : decode cL_law 830 = .ok (.aload_n 2, 1) := by decide +kernel
theorem dL_law_831 : decode cL_law 831 = .ok (.aload_n 0, 1) := by decide +kernel
theorem dL_law_832 : decode cL_law 832 = .ok (.iload_n 3, 1) := by decide +kernel
theorem dL_law_833 : decode cL_law 833 = .ok (.iconst 1, 1) := by decide +kernel
theorem dL_law_834 : decode cL_law 834 = .ok (.iadd, 1) := by decide +kernel
theorem dL_law_835 : decode cL_law 835 = .ok (.iaload, 1) := by decide +kernel
theorem dL_law_836 : decode cL_law 836 = .ok (.aload_n 0, 1) := by decide +kernel
theorem dL_law_837 : decode cL_law 837 = .ok (.iload_n 3, 1) := by decide +kernel
theorem dL_law_838 : decode cL_law 838 = .ok (.iconst 2, 1) := by decide +kernel
theorem dL_law_839 : decode cL_law 839 = .ok (.iadd, 1) := by decide +kernel
theorem dL_law_840 : decode cL_law 840 = .ok (.iaload, 1) := by decide +kernel
theorem dL_law_841 : decode cL_law 841 = .ok (.aload_n 0, 1) := by decide +kernel
theorem dL_law_842 : decode cL_law 842 = .ok (.iload_n 3, 1) := by decide +kernel
theorem dL_law_843 : decode cL_law 843 = .ok (.iconst 3, 1) := by decide +kernel
theorem dL_law_844 : decode cL_law 844 = .ok (.iadd, 1) := by decide +kernel
theorem dL_law_845 : decode cL_law 845 = .ok (.iaload, 1) := by decide +kernel
theorem dL_law_846 : decode cL_law 846 = .ok (.invokevirtual 94, 3) := by decide +kernel
theorem dL_law_849 : decode cL_law 849 = .ok (.if_icmp .eq 231, 3) := by decide +kernel
theorem dL_law_852 : decode cL_law 852 = .ok (.iconst 0, 1) := by decide +kernel
theorem dL_law_853 : decode cL_law 853 = .ok (.ireturn, 1) := by decide +kernel
theorem dL_law_854 : decode cL_law 854 = .ok (.aload_n 1, 1) := by decide +kernel
theorem dL_law_855 : decode cL_law 855 = .ok (.aload_n 0, 1) := by decide +kernel
theorem dL_law_856 : decode cL_law 856 = .ok (.iload_n 3, 1) := by decide +kernel
theorem dL_law_857 : decode cL_law 857 = .ok (.iconst 1, 1) := by decide +kernel
theorem dL_law_858 : decode cL_law 858 = .ok (.iadd, 1) := by decide +kernel
theorem dL_law_859 : decode cL_law 859 = .ok (.iaload, 1) := by decide +kernel
theorem dL_law_860 : decode cL_law 860 = .ok (.aload_n 0, 1) := by decide +kernel
theorem dL_law_861 : decode cL_law 861 = .ok (.iload_n 3, 1) := by decide +kernel
theorem dL_law_862 : decode cL_law 862 = .ok (.iconst 2, 1) := by decide +kernel
theorem dL_law_863 : decode cL_law 863 = .ok (.iadd, 1) := by decide +kernel
theorem dL_law_864 : decode cL_law 864 = .ok (.iaload, 1) := by decide +kernel
theorem dL_law_865 : decode cL_law 865 = .ok (.aload_n 0, 1) := by decide +kernel
theorem dL_law_866 : decode cL_law 866 = .ok (.iload_n 3, 1) := by decide +kernel
theorem dL_law_867 : decode cL_law 867 = .ok (.iconst 3, 1) := by decide +kernel
theorem dL_law_868 : decode cL_law 868 = .ok (.iadd, 1) := by decide +kernel
theorem dL_law_869 : decode cL_law 869 = .ok (.iaload, 1) := by decide +kernel
theorem dL_law_870 : decode cL_law 870 = .ok (.aload_n 0, 1) := by decide +kernel
theorem dL_law_871 : decode cL_law 871 = .ok (.iload_n 3, 1) := by decide +kernel
theorem dL_law_872 : decode cL_law 872 = .ok (.iconst 4, 1) := by decide +kernel
theorem dL_law_873 : decode cL_law 873 = .ok (.iadd, 1) := by decide +kernel
theorem dL_law_874 : decode cL_law 874 = .ok (.iaload, 1) := by decide +kernel
theorem dL_law_875 : decode cL_law 875 = .ok (.invokevirtual 95, 3) := by decide +kernel
theorem dL_law_878 : decode cL_law 878 = .ok (.aload_n 2, 1) := by decide +kernel
theorem dL_law_879 : decode cL_law 879 = .ok (.aload_n 0, 1) := by decide +kernel
theorem dL_law_880 : decode cL_law 880 = .ok (.iload_n 3, 1) := by decide +kernel
theorem dL_law_881 : decode cL_law 881 = .ok (.iconst 1, 1) := by decide +kernel
theorem dL_law_882 : decode cL_law 882 = .ok (.iadd, 1) := by decide +kernel
theorem dL_law_883 : decode cL_law 883 = .ok (.iaload, 1) := by decide +kernel
theorem dL_law_884 : decode cL_law 884 = .ok (.aload_n 0, 1) := by decide +kernel
theorem dL_law_885 : decode cL_law 885 = .ok (.iload_n 3, 1) := by decide +kernel
theorem dL_law_886 : decode cL_law 886 = .ok (.iconst 2, 1) := by decide +kernel
theorem dL_law_887 : decode cL_law 887 = .ok (.iadd, 1) := by decide +kernel
theorem dL_law_888 : decode cL_law 888 = .ok (.iaload, 1) := by decide +kernel
theorem dL_law_889 : decode cL_law 889 = .ok (.aload_n 0, 1) := by decide +kernel
theorem dL_law_890 : decode cL_law 890 = .ok (.iload_n 3, 1) := by decide +kernel
theorem dL_law_891 : decode cL_law 891 = .ok (.iconst 3, 1) := by decide +kernel
theorem dL_law_892 : decode cL_law 892 = .ok (.iadd, 1) := by decide +kernel
theorem dL_law_893 : decode cL_law 893 = .ok (.iaload, 1) := by decide +kernel
theorem dL_law_894 : decode cL_law 894 = .ok (.aload_n 0, 1) := by decide +kernel
theorem dL_law_895 : decode cL_law 895 = .ok (.iload_n 3, 1) := by decide +kernel
theorem dL_law_896 : decode cL_law 896 = .ok (.iconst 4, 1) := by decide +kernel
theorem dL_law_897 : decode cL_law 897 = .ok (.iadd, 1) := by decide +kernel
theorem dL_law_898 : decode cL_law 898 = .ok (.iaload, 1) := by decide +kernel
theorem dL_law_899 : decode cL_law 899 = .ok (.invokevirtual 98, 3) := by decide +kernel
theorem dL_law_902 : decode cL_law 902 = .ok (.if_icmp .eq 178, 3) := by decide +kernel
theorem dL_law_905 : decode cL_law 905 = .ok (.iconst 0, 1) := by decide +kernel
theorem dL_law_906 : decode cL_law 906 = .ok (.ireturn, 1) := by decide +kernel
theorem dL_law_907 : decode cL_law 907 = .ok (.aload_n 1, 1) := by decide +kernel
theorem dL_law_908 : decode cL_law 908 = .ok (.aload_n 0, 1) := by decide +kernel
theorem dL_law_909 : decode cL_law 909 = .ok (.iload_n 3, 1) := by decide +kernel
theorem dL_law_910 : decode cL_law 910 = .ok (.iconst 1, 1) := by decide +kernel
theorem dL_law_911 : decode cL_law 911 = .ok (.iadd, 1) := by decide +kernel
theorem dL_law_912 : decode cL_law 912 = .ok (.iaload, 1) := by decide +kernel
theorem dL_law_913 : decode cL_law 913 = .ok (.aload_n 0, 1) := by decide +kernel
theorem dL_law_914 : decode cL_law 914 = .ok (.iload_n 3, 1) := by decide +kernel
theorem dL_law_915 : decode cL_law 915 = .ok (.iconst 2, 1) := by decide +kernel
theorem dL_law_916 : decode cL_law 916 = .ok (.iadd, 1) := by decide +kernel
theorem dL_law_917 : decode cL_law 917 = .ok (.iaload, 1) := by decide +kernel
theorem dL_law_918 : decode cL_law 918 = .ok (.aload_n 0, 1) := by decide +kernel
theorem dL_law_919 : decode cL_law 919 = .ok (.iload_n 3, 1) := by decide +kernel
theorem dL_law_920 : decode cL_law 920 = .ok (.iconst 3, 1) := by decide +kernel
theorem dL_law_921 : decode cL_law 921 = .ok (.iadd, 1) := by decide +kernel
theorem dL_law_922 : decode cL_law 922 = .ok (.iaload, 1) := by decide +kernel
theorem dL_law_923 : decode cL_law 923 = .ok (.invokevirtual 99, 3) := by decide +kernel
theorem dL_law_926 : decode cL_law 926 = .ok (.aload_n 2, 1) := by decide +kernel
theorem dL_law_927 : decode cL_law 927 = .ok (.aload_n 0, 1) := by decide +kernel
theorem dL_law_928 : decode cL_law 928 = .ok (.iload_n 3, 1) := by decide +kernel
theorem dL_law_929 : decode cL_law 929 = .ok (.iconst 1, 1) := by decide +kernel
theorem dL_law_930 : decode cL_law 930 = .ok (.iadd, 1) := by decide +kernel
theorem dL_law_931 : decode cL_law 931 = .ok (.iaload, 1) := by decide +kernel
theorem dL_law_932 : decode cL_law 932 = .ok (.aload_n 0, 1) := by decide +kernel
theorem dL_law_933 : decode cL_law 933 = .ok (.iload_n 3, 1) := by decide +kernel
theorem dL_law_934 : decode cL_law 934 = .ok (.iconst 2, 1) := by decide +kernel
theorem dL_law_935 : decode cL_law 935 = .ok (.iadd, 1) := by decide +kernel
theorem dL_law_936 : decode cL_law 936 = .ok (.iaload, 1) := by decide +kernel
theorem dL_law_937 : decode cL_law 937 = .ok (.aload_n 0, 1) := by decide +kernel
theorem dL_law_938 : decode cL_law 938 = .ok (.iload_n 3, 1) := by decide +kernel
theorem dL_law_939 : decode cL_law 939 = .ok (.iconst 3, 1) := by decide +kernel
theorem dL_law_940 : decode cL_law 940 = .ok (.iadd, 1) := by decide +kernel
theorem dL_law_941 : decode cL_law 941 = .ok (.iaload, 1) := by decide +kernel
theorem dL_law_942 : decode cL_law 942 = .ok (.invokevirtual 102, 3) := by decide +kernel
theorem dL_law_945 : decode cL_law 945 = .ok (.if_icmp .eq 135, 3) := by decide +kernel
theorem dL_law_948 : decode cL_law 948 = .ok (.iconst 0, 1) := by decide +kernel
theorem dL_law_949 : decode cL_law 949 = .ok (.ireturn, 1) := by decide +kernel
theorem dL_law_950 : decode cL_law 950 = .ok (.aload_n 1, 1) := by decide +kernel
theorem dL_law_951 : decode cL_law 951 = .ok (.aload_n 0, 1) := by decide +kernel
theorem dL_law_952 : decode cL_law 952 = .ok (.iload_n 3, 1) := by decide +kernel
theorem dL_law_953 : decode cL_law 953 = .ok (.iconst 1, 1) := by decide +kernel
theorem dL_law_954 : decode cL_law 954 = .ok (.iadd, 1) := by decide +kernel
theorem dL_law_955 : decode cL_law 955 = .ok (.iaload, 1) := by decide +kernel
theorem dL_law_956 : decode cL_law 956 = .ok (.invokevirtual 103, 3) := by decide +kernel
theorem dL_law_959 : decode cL_law 959 = .ok (.aload_n 2, 1) := by decide +kernel
theorem dL_law_960 : decode cL_law 960 = .ok (.aload_n 0, 1) := by decide +kernel
theorem dL_law_961 : decode cL_law 961 = .ok (.iload_n 3, 1) := by decide +kernel
theorem dL_law_962 : decode cL_law 962 = .ok (.iconst 1, 1) := by decide +kernel
theorem dL_law_963 : decode cL_law 963 = .ok (.iadd, 1) := by decide +kernel
theorem dL_law_964 : decode cL_law 964 = .ok (.iaload, 1) := by decide +kernel
theorem dL_law_965 : decode cL_law 965 = .ok (.invokevirtual 107, 3) := by decide +kernel
theorem dL_law_968 : decode cL_law 968 = .ok (.lcmp, 1) := by decide +kernel
theorem dL_law_969 : decode cL_law 969 = .ok (.ifCond .eq 111, 3) := by decide +kernel
theorem dL_law_972 : decode cL_law 972 = .ok (.iconst 0, 1) := by decide +kernel
theorem dL_law_973 : decode cL_law 973 = .ok (.ireturn, 1) := by decide +kernel
theorem dL_law_974 : decode cL_law 974 = .ok (.aload_n 1, 1) := by decide +kernel
theorem dL_law_975 : decode cL_law 975 = .ok (.aload_n 0, 1) := by decide +kernel
theorem dL_law_976 : decode cL_law 976 = .ok (.iload_n 3, 1) := by decide +kernel
theorem dL_law_977 : decode cL_law 977 = .ok (.iconst 1, 1) := by decide +kernel
theorem dL_law_978 : decode cL_law 978 = .ok (.iadd, 1) := by decide +kernel
theorem dL_law_979 : decode cL_law 979 = .ok (.iaload, 1) := by decide +kernel
theorem dL_law_980 : decode cL_law 980 = .ok (.invokevirtual 108, 3) := by decide +kernel
theorem dL_law_983 : decode cL_law 983 = .ok (.aload_n 2, 1) := by decide +kernel
theorem dL_law_984 : decode cL_law 984 = .ok (.aload_n 0, 1) := by decide +kernel
theorem dL_law_985 : decode cL_law 985 = .ok (.iload_n 3, 1) := by decide +kernel
theorem dL_law_986 : decode cL_law 986 = .ok (.iconst 1, 1) := by decide +kernel
theorem dL_law_987 : decode cL_law 987 = .ok (.iadd, 1) := by decide +kernel
theorem dL_law_988 : decode cL_law 988 = .ok (.iaload, 1) := by decide +kernel
theorem dL_law_989 : decode cL_law 989 = .ok (.invokevirtual 111, 3) := by decide +kernel
theorem dL_law_992 : decode cL_law 992 = .ok (.if_icmp .eq 88, 3) := by decide +kernel
theorem dL_law_995 : decode cL_law 995 = .ok (.iconst 0, 1) := by decide +kernel
theorem dL_law_996 : decode cL_law 996 = .ok (.ireturn, 1) := by decide +kernel
theorem dL_law_997 : decode cL_law 997 = .ok (.aload_n 1, 1) := by decide +kernel
theorem dL_law_998 : decode cL_law 998 = .ok (.aload_n 0, 1) := by decide +kernel
theorem dL_law_999 : decode cL_law 999 = .ok (.iload_n 3, 1) := by decide +kernel
theorem dL_law_1000 : decode cL_law 1000 = .ok (.iconst 1, 1) := by decide +kernel
theorem dL_law_1001 : decode cL_law 1001 = .ok (.iadd, 1) := by decide +kernel
theorem dL_law_1002 : decode cL_law 1002 = .ok (.iaload, 1) := by decide +kernel
theorem dL_law_1003 : decode cL_law 1003 = .ok (.invokevirtual 112, 3) := by decide +kernel
theorem dL_law_1006 : decode cL_law 1006 = .ok (.aload_n 2, 1) := by decide +kernel
theorem dL_law_1007 : decode cL_law 1007 = .ok (.aload_n 0, 1) := by decide +kernel
theorem dL_law_1008 : decode cL_law 1008 = .ok (.iload_n 3, 1) := by decide +kernel
theorem dL_law_1009 : decode cL_law 1009 = .ok (.iconst 1, 1) := by decide +kernel
theorem dL_law_1010 : decode cL_law 1010 = .ok (.iadd, 1) := by decide +kernel
theorem dL_law_1011 : decode cL_law 1011 = .ok (.iaload, 1) := by decide +kernel
theorem dL_law_1012 : decode cL_law 1012 = .ok (.invokevirtual 115, 3) := by decide +kernel
theorem dL_law_1015 : decode cL_law 1015 = .ok (.if_icmp .eq 65, 3) := by decide +kernel
theorem dL_law_1018 : decode cL_law 1018 = .ok (.iconst 0, 1) := by decide +kernel
theorem dL_law_1019 : decode cL_law 1019 = .ok (.ireturn, 1) := by decide +kernel
theorem dL_law_1020 : decode cL_law 1020 = .ok (.aload_n 1, 1) := by decide +kernel
theorem dL_law_1021 : decode cL_law 1021 = .ok (.aload_n 0, 1) := by decide +kernel
theorem dL_law_1022 : decode cL_law 1022 = .ok (.iload_n 3, 1) := by decide +kernel
theorem dL_law_1023 : decode cL_law 1023 = .ok (.iconst 1, 1) := by decide +kernel
theorem dL_law_1024 : decode cL_law 1024 = .ok (.iadd, 1) := by decide +kernel
theorem dL_law_1025 : decode cL_law 1025 = .ok (.iaload, 1) := by decide +kernel
theorem dL_law_1026 : decode cL_law 1026 = .ok (.invokevirtual 116, 3) := by decide +kernel
theorem dL_law_1029 : decode cL_law 1029 = .ok (.aload_n 2, 1) := by decide +kernel
theorem dL_law_1030 : decode cL_law 1030 = .ok (.aload_n 0, 1) := by decide +kernel
theorem dL_law_1031 : decode cL_law 1031 = .ok (.iload_n 3, 1) := by decide +kernel
theorem dL_law_1032 : decode cL_law 1032 = .ok (.iconst 1, 1) := by decide +kernel
theorem dL_law_1033 : decode cL_law 1033 = .ok (.iadd, 1) := by decide +kernel
theorem dL_law_1034 : decode cL_law 1034 = .ok (.iaload, 1) := by decide +kernel
theorem dL_law_1035 : decode cL_law 1035 = .ok (.invokevirtual 119, 3) := by decide +kernel
theorem dL_law_1038 : decode cL_law 1038 = .ok (.if_icmp .eq 42, 3) := by decide +kernel
theorem dL_law_1041 : decode cL_law 1041 = .ok (.iconst 0, 1) := by decide +kernel
theorem dL_law_1042 : decode cL_law 1042 = .ok (.ireturn, 1) := by decide +kernel
theorem dL_law_1043 : decode cL_law 1043 = .ok (.aload_n 1, 1) := by decide +kernel
theorem dL_law_1044 : decode cL_law 1044 = .ok (.aload_n 0, 1) := by decide +kernel
theorem dL_law_1045 : decode cL_law 1045 = .ok (.iload_n 3, 1) := by decide +kernel
theorem dL_law_1046 : decode cL_law 1046 = .ok (.iconst 1, 1) := by decide +kernel
theorem dL_law_1047 : decode cL_law 1047 = .ok (.iadd, 1) := by decide +kernel
theorem dL_law_1048 : decode cL_law 1048 = .ok (.iaload, 1) := by decide +kernel
theorem dL_law_1049 : decode cL_law 1049 = .ok (.invokevirtual 120, 3) := by decide +kernel
theorem dL_law_1052 : decode cL_law 1052 = .ok (.aload_n 2, 1) := by decide +kernel
theorem dL_law_1053 : decode cL_law 1053 = .ok (.aload_n 0, 1) := by decide +kernel
theorem dL_law_1054 : decode cL_law 1054 = .ok (.iload_n 3, 1) := by decide +kernel
theorem dL_law_1055 : decode cL_law 1055 = .ok (.iconst 1, 1) := by decide +kernel
theorem dL_law_1056 : decode cL_law 1056 = .ok (.iadd, 1) := by decide +kernel
theorem dL_law_1057 : decode cL_law 1057 = .ok (.iaload, 1) := by decide +kernel
theorem dL_law_1058 : decode cL_law 1058 = .ok (.invokevirtual 123, 3) := by decide +kernel
theorem dL_law_1061 : decode cL_law 1061 = .ok (.if_icmp .eq 19, 3) := by decide +kernel
theorem dL_law_1064 : decode cL_law 1064 = .ok (.iconst 0, 1) := by decide +kernel
theorem dL_law_1065 : decode cL_law 1065 = .ok (.ireturn, 1) := by decide +kernel
theorem dL_law_1066 : decode cL_law 1066 = .ok (.aload_n 1, 1) := by decide +kernel
theorem dL_law_1067 : decode cL_law 1067 = .ok (.invokevirtual 124, 3) := by decide +kernel
theorem dL_law_1070 : decode cL_law 1070 = .ok (.aload_n 2, 1) := by decide +kernel
theorem dL_law_1071 : decode cL_law 1071 = .ok (.invokevirtual 128, 3) := by decide +kernel
theorem dL_law_1074 : decode cL_law 1074 = .ok (.lcmp, 1) := by decide +kernel
theorem dL_law_1075 : decode cL_law 1075 = .ok (.ifCond .eq 5, 3) := by decide +kernel
theorem dL_law_1078 : decode cL_law 1078 = .ok (.iconst 0, 1) := by decide +kernel
theorem dL_law_1079 : decode cL_law 1079 = .ok (.ireturn, 1) := by decide +kernel
theorem dL_law_1080 : decode cL_law 1080 = .ok (.iinc 3 7, 3) := by decide +kernel
theorem dL_law_1083 : decode cL_law 1083 = .ok (.goto (-1065), 3) := by decide +kernel
theorem dL_law_1086 : decode cL_law 1086 = .ok (.iconst 1, 1) := by decide +kernel
theorem dL_law_1087 : decode cL_law 1087 = .ok (.ireturn, 1) := by decide +kernel
end
section
/-! ONE MEMORY FOR ALL: the cells that the law's run has made, by address; next address; slots used. A judgement zW: from pc, with locals L, stack stk and memory M, the method returns rv, the memory then M2. -/
abbrev zEn : Type := (FieldType × vp_A) ⊕ (Nat × List Value)
abbrev zMe : Type := (Nat → Option zEn) × Nat × Nat
/-- launch, the law's start, its arguments, class numbers and slots -/
abbrev zG : Type := Launch × State × Array Value × va_G
/-- a method: own class, bytes, size of locals, return type, name, frames, locals' room -/
abbrev zM : Type := String × ByteArray × Nat × Option FieldType × String × Nat × Nat
def zC (g : zG) : Prop := (∀ w ∈ lw_tbl, w.before g.2.2.1 g.2.1 = true) ∧ va_K g.2.2.2 vwCl [] g.2.1
def zAt (g : zG) (q : Nat) (e : zEn) (H : Heap) : Prop := match e with
  | .inl (ty, a) => ∃ cA : ClassId, H[q]? = some (vp_cell cA a) ∧ ArrOfT g.2.1 cA ty ∧ va_RA g.2.1 cA ty
  | .inr (ci, fs) => ∃ r : vw_C, vwCl[ci]? = some r ∧ r.2.2 = fs.length ∧ t_OB q (g.2.2.2.1 ci) r.2.2 (g.2.2.2.2 ci) H (vp_V fs)
def zR (g : zG) (M : zMe) (H : Heap) : Prop := H.size = M.2.1 ∧ g.2.1.heap.size ≤ M.2.1 ∧ (∀ q : Nat, q < g.2.1.heap.size → H[q]? = g.2.1.heap[q]?) ∧ ∀ (q : Nat) (e : zEn), M.1 q = some e → g.2.1.heap.size ≤ q ∧ zAt g q e H
theorem zAt.kept {g : zG} {q : Nat} {e : zEn} {H H1 : Heap} (h : zAt g q e H) (hq : H1[q]? = H[q]?) : zAt g q e H1 := by
  match e, h with
  | .inl (ty, a), ⟨cA, h1, h2⟩ => exact ⟨cA, by rw [hq]; exact h1, h2⟩
  | .inr (ci, fs), ⟨r, h1, h2, h3⟩ => exact ⟨r, h1, h2, h3.kept hq⟩
theorem zAt.lt {g : zG} {q : Nat} {e : zEn} {H : Heap} (h : zAt g q e H) : q < H.size := by
  match e, h with
  | .inl (ty, a), ⟨cA, h1, h2⟩ => exact (Array.getElem?_eq_some_iff.mp h1).1
  | .inr (ci, fs), ⟨r, h1, h2, c0, h3, h4⟩ => exact (Array.getElem?_eq_some_iff.mp h3).1
/-- one cell changed -/
def zSet (M : zMe) (a : Nat) (e : zEn) : zMe := (fun q => if q = a then some e else M.1 q, M.2.1, M.2.2)
/-- one cell more, of n slots -/
def zAdd (M : zMe) (e : zEn) (n : Nat) : zMe := (fun q => if q = M.2.1 then some e else M.1 q, M.2.1 + 1, M.2.2 + n)
theorem zR.set {g : zG} {M : zMe} {H H1 : Heap} {a : Nat} {e e0 : zEn} (h : zR g M H) (h0 : M.1 a = some e0) (hs : H1.size = H.size) (ho : ∀ q : Nat, q ≠ a → H1[q]? = H[q]?) (hn : zAt g a e H1) : zR g (zSet M a e) H1 := by
  obtain ⟨h1, h2, h3, h4⟩ := h
  have hb := (h4 a e0 h0).1
  refine ⟨hs.trans h1, h2, fun q hq => (ho q (by omega)).trans (h3 q hq), fun q e' hq => ?_⟩
  by_cases hqa : q = a
  · subst hqa
    simp only [zSet, if_true] at hq
    cases hq
    exact ⟨hb, hn⟩
  · simp only [zSet, if_neg hqa] at hq
    exact ⟨(h4 q e' hq).1, (h4 q e' hq).2.kept (ho q hqa)⟩
theorem zR.add {g : zG} {M : zMe} {H H1 : Heap} {e : zEn} {n : Nat} (h : zR g M H) (hs : H1.size = M.2.1 + 1) (ho : ∀ q : Nat, q < M.2.1 → H1[q]? = H[q]?) (hn : zAt g M.2.1 e H1) : zR g (zAdd M e n) H1 := by
  obtain ⟨h1, h2, h3, h4⟩ := h
  refine ⟨hs, Nat.le_succ_of_le h2, fun q hq => (ho q (by omega)).trans (h3 q hq), fun q e' hq => ?_⟩
  by_cases hqa : q = M.2.1
  · subst hqa
    simp only [zAdd, if_true] at hq
    cases hq
    exact ⟨h2, hn⟩
  · simp only [zAdd, if_neg hqa] at hq
    exact ⟨(h4 q e' hq).1, (h4 q e' hq).2.kept (ho q (by have := (h4 q e' hq).2.lt; omega))⟩
/-! locals by place; what isn't known (or a long's second half) is .retAddr 0 -/
def zJ : Value → Bool
  | .retAddr _ => true
  | _ => false
def zL (n : Nat) (L : List Value) (ls : Array Slot) : Prop := ls.size = n ∧ L.length = n ∧ lv_wf ls ∧ ∀ (i : Nat) (v : Value), L[i]? = some v → zJ v = false → ls[i]? = some (.val v)
/-- a long ahead of place i is lost when i is written -/
def zk1 : Value → Value
  | .long _ => .retAddr 0
  | .double _ => .retAddr 0
  | w => w
def zK : List Value → Nat → List Value
  | [], _ => []
  | v :: L, 0 => v :: L
  | v :: L, 1 => zk1 v :: L
  | v :: L, i + 2 => v :: zK L (i + 1)
def zS1 (L : List Value) (i : Nat) (v : Value) : List Value := (zK L i).set i v
def zS2 (L : List Value) (i : Nat) (v : Value) : List Value := ((zK L i).set i v).set (i + 1) (.retAddr 0)
theorem zK_len : ∀ (L : List Value) (i : Nat), (zK L i).length = L.length := by
  intro L
  induction L with
  | nil => intro i; cases i <;> rfl
  | cons v L ih =>
    intro i
    match i with
    | 0 => rfl
    | 1 => rfl
    | i + 2 => simp [zK, ih]
theorem zK_at : ∀ (L : List Value) (i j : Nat) (w : Value), (zK L i)[j]? = some w → zJ w = false → L[j]? = some w ∧ (j + 1 = i → w.category ≠ 2) := by
  intro L
  induction L with
  | nil => intro i j w h; cases i <;> simp [zK] at h
  | cons v L ih =>
    intro i j w h hw
    match i with
    | 0 => exact ⟨h, fun e => by omega⟩
    | 1 =>
      match j with
      | 0 =>
        have h : zk1 v = w := by
          have h : (zk1 v :: L)[0]? = some w := h
          simpa using h
        subst h
        cases v <;> first | (simp [zk1, zJ] at hw; done) | (refine ⟨rfl, fun _ => ?_⟩; simp [zk1, Value.category])
      | j + 1 =>
        have h : (zk1 v :: L)[j + 1]? = some w := h
        exact ⟨by simpa using h, fun e => by omega⟩
    | i + 2 =>
      match j with
      | 0 => exact ⟨by simpa [zK] using h, fun e => by omega⟩
      | j + 1 =>
        obtain ⟨a, b⟩ := ih (i + 1) j w (by simpa [zK] using h) hw
        exact ⟨by simpa using a, fun e => b (by omega)⟩
theorem zL.at {n : Nat} {L : List Value} {ls : Array Slot} (h : zL n L ls) {i : Nat} {v : Value} (hi : L[i]? = some v) (hv : zJ v = false) : ls[i]? = some (.val v) := h.2.2.2 i v hi hv
/-- the known places as the kit lists them -/
def zA (L : List Value) : List (Nat × Value) := (List.range L.length).filterMap (fun i => match L[i]? with | some v => if zJ v then none else some (i, v) | none => none)
theorem zA_mem {L : List Value} {i : Nat} {v : Value} : (i, v) ∈ zA L ↔ (L[i]? = some v ∧ zJ v = false) := by
  simp only [zA, List.mem_filterMap, List.mem_range]
  constructor
  · rintro ⟨j, hj, h⟩
    cases hL : L[j]? with
    | none => rw [hL] at h; cases h
    | some w =>
      rw [hL] at h
      simp only at h
      by_cases hw : zJ w = true
      · rw [if_pos hw] at h; cases h
      · rw [if_neg hw] at h
        simp only [Option.some.injEq, Prod.mk.injEq] at h
        obtain ⟨rfl, rfl⟩ := h
        exact ⟨hL, by simpa using hw⟩
  · rintro ⟨h1, h2⟩
    refine ⟨i, (List.getElem?_eq_some_iff.mp h1).1, ?_⟩
    rw [h1]
    simp [h2]
theorem zL.has {n : Nat} {L : List Value} {ls : Array Slot} (h : zL n L ls) : lv_has ls n (zA L) := ⟨h.1, h.2.2.1, fun q hq => by obtain ⟨i, v⟩ := q; obtain ⟨a, b⟩ := zA_mem.mp hq; exact h.2.2.2 i v a b⟩
theorem zL.s1 {n : Nat} {L : List Value} {ls ls' : Array Slot} {i : Nat} {v : Value} (h : zL n L ls) (hl : lv_has ls' n ((i, v) :: (zA L).filter (fun q => !(q.1 == i) && !(q.1 + 1 == i && q.2.category == 2)))) (hi : i < n) : zL n (zS1 L i v) ls' := by
  refine ⟨hl.1, by rw [zS1, List.length_set, zK_len]; exact h.2.1, hl.2.1, fun j w hj hw => ?_⟩
  by_cases hji : j = i
  · subst hji
    rw [zS1, List.getElem?_set_self (by rw [zK_len, h.2.1]; exact hi)] at hj
    cases hj
    exact hl.2.2 _ List.mem_cons_self
  · rw [zS1, List.getElem?_set_ne (Ne.symm hji)] at hj
    obtain ⟨a, b⟩ := zK_at L i j w hj hw
    refine hl.2.2 (j, w) (List.mem_cons_of_mem _ (List.mem_filter.mpr ⟨zA_mem.mpr ⟨a, hw⟩, ?_⟩))
    have hb : ¬ (j + 1 = i ∧ w.category = 2) := fun e => b e.1 e.2
    simp [hji]
    omega
theorem zL.s2 {n : Nat} {L : List Value} {ls ls' : Array Slot} {i : Nat} {v : Value} (h : zL n L ls) (hl : lv_has ls' n ((i, v) :: (zA L).filter (fun q => !(q.1 == i) && (!(q.1 == i + 1) && !(q.1 + 1 == i && q.2.category == 2))))) (hi : i + 1 < n) : zL n (zS2 L i v) ls' := by
  refine ⟨hl.1, by rw [zS2, List.length_set, List.length_set, zK_len]; exact h.2.1, hl.2.1, fun j w hj hw => ?_⟩
  by_cases hj1 : j = i + 1
  · subst hj1
    rw [zS2, List.getElem?_set_self (by rw [List.length_set, zK_len, h.2.1]; exact hi)] at hj
    cases hj
    simp [zJ] at hw
  · rw [zS2, List.getElem?_set_ne (Ne.symm hj1)] at hj
    by_cases hji : j = i
    · subst hji
      rw [List.getElem?_set_self (by rw [zK_len, h.2.1]; omega)] at hj
      cases hj
      exact hl.2.2 _ List.mem_cons_self
    · rw [List.getElem?_set_ne (Ne.symm hji)] at hj
      obtain ⟨a, b⟩ := zK_at L i j w hj hw
      refine hl.2.2 (j, w) (List.mem_cons_of_mem _ (List.mem_filter.mpr ⟨zA_mem.mpr ⟨a, hw⟩, ?_⟩))
      have hb : ¬ (j + 1 = i ∧ w.category = 2) := fun e => b e.1 e.2
      simp [hji, hj1]
      omega
/-- the locals at a method's entry -/
def zE : List Value → List Value
  | [] => []
  | .long x :: vs => .long x :: .retAddr 0 :: zE vs
  | .double x :: vs => .double x :: .retAddr 0 :: zE vs
  | v :: vs => v :: zE vs
theorem zE_at : ∀ (vs : List Value) (k i : Nat) (v : Value), (zE vs)[i]? = some v → zJ v = false → (k + i, v) ∈ lv_args k vs := by
  intro vs
  induction vs with
  | nil => intro k i v h; simp [zE] at h
  | cons u vs ih =>
    intro k i v h hv
    have one : u.category = 1 → (zE (u :: vs)) = u :: zE vs → (k + i, v) ∈ lv_args k (u :: vs) := by
      intro hc he
      rw [he] at h
      have hc2 : ¬ u.category = 2 := by omega
      simp only [lv_args, if_neg hc2]
      match i, h with
      | 0, h => simp at h; subst h; exact List.mem_cons_self
      | i + 1, h =>
        refine List.mem_cons_of_mem _ ?_
        have := ih (k + 1) i v (by simpa using h) hv
        rwa [show k + (i + 1) = k + 1 + i by omega]
    have two : u.category = 2 → (zE (u :: vs)) = u :: .retAddr 0 :: zE vs → (k + i, v) ∈ lv_args k (u :: vs) := by
      intro hc he
      rw [he] at h
      simp only [lv_args, if_pos hc]
      match i, h with
      | 0, h => simp at h; subst h; exact List.mem_cons_self
      | 1, h => simp at h; subst h; simp [zJ] at hv
      | i + 2, h =>
        refine List.mem_cons_of_mem _ ?_
        have := ih (k + 2) i v (by simpa using h) hv
        rwa [show k + (i + 2) = k + 2 + i by omega]
    cases u with
    | long x => exact two rfl rfl
    | double x => exact two rfl rfl
    | int x => exact one rfl rfl
    | float x => exact one rfl rfl
    | null => exact one rfl rfl
    | ref x => exact one rfl rfl
    | retAddr x => exact one rfl rfl
theorem zE_len : ∀ vs : List Value, (zE vs).length = (lg_sl vs).length := by
  intro vs
  induction vs with
  | nil => rfl
  | cons u vs ih => cases u <;> simp [zE, lg_sl, Value.category] at ih ⊢ <;> omega
def zEn0 (n : Nat) (vs : List Value) : List Value := zE vs ++ List.replicate (n - (zE vs).length) (.retAddr 0)
theorem zL.entry {n : Nat} {vs : List Value} (h : (zE vs).length ≤ n) : zL n (zEn0 n vs) ((lg_sl vs ++ List.replicate (n - (lg_sl vs).length) Slot.unset).toArray) := by
  have hl := lv_entry vs (n := n) (by rw [← zE_len]; exact h)
  refine ⟨hl.1, by simp [zEn0]; omega, hl.2.1, fun i v hi hv => ?_⟩
  by_cases hlt : i < (zE vs).length
  · rw [zEn0, List.getElem?_append_left hlt] at hi
    have := zE_at vs 0 i v hi hv
    exact hl.2.2 (i, v) (by simpa using this)
  · rw [zEn0, List.getElem?_append_right (by omega)] at hi
    have := List.eq_of_mem_replicate (List.mem_of_getElem? hi)
    subst this
    simp [zJ] at hv
/-! the judgement -/
def zRet (cc : ByteArray) (pc : Nat) (rv : Option Value) : Prop := match rv with
  | none => decode cc pc = .ok (.return_, 1)
  | some (.int _) => decode cc pc = .ok (.ireturn, 1)
  | some (.long _) => decode cc pc = .ok (.lreturn, 1)
  | some (.ref _) => decode cc pc = .ok (.areturn, 1)
  | some .null => decode cc pc = .ok (.areturn, 1)
  | _ => False
/-- the answer fits the method's type -/
def zRok (ty : Option FieldType) (rv : Option Value) : Prop := match rv with
  | none => ty = none
  | some (.int x) => ∃ a, ty = some a ∧ narrow a (.int x) = .int x
  | some (.long _) => ty = some .long
  | some (.ref _) => ∃ a, ty = some a ∧ ((∃ n, a = .object n) ∨ ∃ u, a = .array u)
  | some .null => ∃ a, ty = some a ∧ ((∃ n, a = .object n) ∨ ∃ u, a = .array u)
  | _ => False
def zF (g : zG) (t : zM) (p : Program) (R : Room) (s : State) (m : MethodId) (meth : Method) (c : Code) : Prop := p.tables.exec = Jvm.exec ∧ c.code = t.2.1 ∧ c.maxLocals = t.2.2.1 ∧ s.vm.findClass t.1 = some m.cls ∧ meth.name = t.2.2.2.2.1 ∧ g.2.1.WarmedH s.vm ∧ t.2.2.2.2.2.1 ≤ R.frames ∧ t.2.2.2.2.2.2 ≤ R.locals
def zW (g : zG) (t : zM) (pc : Nat) (L stk : List Value) (M : zMe) (rv : Option Value) (M2 : zMe) : Prop := M.2.1 ≤ M2.2.1 ∧ M.2.2 ≤ M2.2.2 ∧
  ∀ (p : Program) (e : Env) (R : Room) (s : State) (m : MethodId) (args : Array Value) (below : List Frame) (meth : Method) (c : Code) (H : Heap) (ls : Array Slot) (locs : List Loc) (cells slots : Nat) (Q : State → Prop),
    zF g t p R s m meth c → zR g M H → zL t.2.2.1 L ls → (∀ q ∈ locs, g.2.1.heap.size ≤ q.base) → cells + (M2.2.1 - M.2.1) ≤ R.cells → slots + (M2.2.2 - M.2.2) ≤ R.slots →
    (∀ (pc1 : Nat) (ls1 : Array Slot) (H1 : Heap) (locs1 : List Loc) (cells1 slots1 : Nat), zR g M2 H1 → (∀ q ∈ locs1, g.2.1.heap.size ≤ q.base) → cells1 ≤ R.cells → slots1 ≤ R.slots → zRet t.2.1 pc1 rv → zRok t.2.2.2.1 rv → W p g.1 e R s m args below meth c H1 locs1 cells1 slots1 Q (F0 m pc1 ls1 rv.toList)) →
    W p g.1 e R s m args below meth c H locs cells slots Q (F0 m pc ls stk)
section ZW
variable {g : zG} {t : zM} {pc pc2 : Nat} {L L2 stk stk2 r : List Value} {M M1 M2 : zMe} {rv : Option Value}
/-- a step that leaves locals and memory alone -/
theorem zgo (h : ∀ (p : Program) (e : Env) (R : Room) (s : State) (m : MethodId) (args : Array Value) (below : List Frame) (meth : Method) (c : Code) (H : Heap) (ls : Array Slot) (locs : List Loc) (cells slots : Nat) (Q : State → Prop), zF g t p R s m meth c → zL t.2.2.1 L ls → W p g.1 e R s m args below meth c H locs cells slots Q (F0 m pc2 ls stk2) → W p g.1 e R s m args below meth c H locs cells slots Q (F0 m pc ls stk))
    (k : zW g t pc2 L stk2 M rv M2) : zW g t pc L stk M rv M2 :=
  ⟨k.1, k.2.1, fun p e R s m args below meth c H ls locs cells slots Q hF hR hL hl hc hs hQ => h p e R s m args below meth c H ls locs cells slots Q hF hL (k.2.2 p e R s m args below meth c H ls locs cells slots Q hF hR hL hl hc hs hQ)⟩
/-- a step that changes locals -/
theorem zgoL (h : ∀ (p : Program) (e : Env) (R : Room) (s : State) (m : MethodId) (args : Array Value) (below : List Frame) (meth : Method) (c : Code) (H : Heap) (ls : Array Slot) (locs : List Loc) (cells slots : Nat) (Q : State → Prop), zF g t p R s m meth c → zL t.2.2.1 L ls → (∀ ls2, zL t.2.2.1 L2 ls2 → W p g.1 e R s m args below meth c H locs cells slots Q (F0 m pc2 ls2 stk2)) → W p g.1 e R s m args below meth c H locs cells slots Q (F0 m pc ls stk))
    (k : zW g t pc2 L2 stk2 M rv M2) : zW g t pc L stk M rv M2 :=
  ⟨k.1, k.2.1, fun p e R s m args below meth c H ls locs cells slots Q hF hR hL hl hc hs hQ => h p e R s m args below meth c H ls locs cells slots Q hF hL (fun ls2 hL2 => k.2.2 p e R s m args below meth c H ls2 locs cells slots Q hF hR hL2 hl hc hs hQ)⟩
/-- places of the locals that are forgotten -/
def zmask : List Bool → List Value → List Value
  | _, [] => []
  | [], v :: L => v :: L
  | b :: bs, v :: L => (if b then v else .retAddr 0) :: zmask bs L
theorem zmask_len : ∀ (bs : List Bool) (L : List Value), (zmask bs L).length = L.length := by
  intro bs
  induction bs with
  | nil => intro L; cases L <;> rfl
  | cons b bs ih => intro L; cases L <;> simp [zmask, ih]
theorem zmask_at : ∀ (bs : List Bool) (L : List Value) (i : Nat) (v : Value), (zmask bs L)[i]? = some v → zJ v = false → L[i]? = some v := by
  intro bs
  induction bs with
  | nil => intro L i v h hv; cases L <;> exact h
  | cons b bs ih =>
    intro L i v h hv
    cases L with
    | nil => exact h
    | cons w L =>
      cases i with
      | zero =>
        cases b
        · simp [zmask] at h; subst h; simp [zJ] at hv
        · simpa [zmask] using h
      | succ i => exact ih L i v (by simpa [zmask] using h) hv
theorem zweak (bs : List Bool) (k : zW g t pc (zmask bs L) stk M rv M2) : zW g t pc L stk M rv M2 :=
  ⟨k.1, k.2.1, fun p e R s m args below meth c H ls locs cells slots Q hF hR hL hl hc hs hQ => k.2.2 p e R s m args below meth c H ls locs cells slots Q hF hR ⟨hL.1, by rw [zmask_len]; exact hL.2.1, hL.2.2.1, fun i v h hv => hL.2.2.2 i v (zmask_at bs L i v h hv) hv⟩ hl hc hs hQ⟩
theorem zeq (hL : L = L2) (hs : stk = stk2) (k : zW g t pc L2 stk2 M rv M2) : zW g t pc L stk M rv M2 := by subst hL; subst hs; exact k
end ZW
end
section
section ZR
variable {g : zG} {t : zM} {pc : Nat} {L r : List Value} {M M1 M2 : zMe} {rv : Option Value}
theorem z_iconst {n : Int} (v : Int32) (hv : Int32.ofInt n = v) (hd : decode t.2.1 pc = .ok (.iconst n, 1)) (k : zW g t (pc + 1) L (.int v :: r) M rv M2) : zW g t pc L (r) M rv M2 :=
  zgo (fun p e R s m args below meth c H ls locs cells slots Q hF hL k => lv_iconst hF.1 hF.2.1 hd hv k) k
theorem z_bipush {n : Int} (v : Int32) (hv : (Int8.ofInt n).toInt32 = v) (hd : decode t.2.1 pc = .ok (.bipush n, 2)) (k : zW g t (pc + 2) L (.int v :: r) M rv M2) : zW g t pc L (r) M rv M2 :=
  zgo (fun p e R s m args below meth c H ls locs cells slots Q hF hL k => lv_bipush hF.1 hF.2.1 hd hv k) k
theorem z_sipush {n : Int} (v : Int32) (hv : (Int16.ofInt n).toInt32 = v) (hd : decode t.2.1 pc = .ok (.sipush n, 3)) (k : zW g t (pc + 3) L (.int v :: r) M rv M2) : zW g t pc L (r) M rv M2 :=
  zgo (fun p e R s m args below meth c H ls locs cells slots Q hF hL k => lv_sipush hF.1 hF.2.1 hd hv k) k
theorem z_lconst {n : Fin 2} (v : Int64) (hv : Int64.ofNat (n : Nat) = v) (hd : decode t.2.1 pc = .ok (.lconst n, 1)) (k : zW g t (pc + 1) L (.long v :: r) M rv M2) : zW g t pc L (r) M rv M2 :=
  zgo (fun p e R s m args below meth c H ls locs cells slots Q hF hL k => lv_lconst hF.1 hF.2.1 hd hv k) k
theorem z_null  (hd : decode t.2.1 pc = .ok (.aconst_null, 1)) (k : zW g t (pc + 1) L (.null :: r) M rv M2) : zW g t pc L (r) M rv M2 :=
  zgo (fun p e R s m args below meth c H ls locs cells slots Q hF hL k => lv_null hF.1 hF.2.1 hd k) k
theorem z_iload_n {n : Fin 4} {x : Int32} (hl : L[(n : Nat)]? = some (.int x)) (hd : decode t.2.1 pc = .ok (.iload_n n, 1)) (k : zW g t (pc + 1) L (.int x :: r) M rv M2) : zW g t pc L (r) M rv M2 :=
  zgo (fun p e R s m args below meth c H ls locs cells slots Q hF hL k => lv_iload_n hF.1 hF.2.1 hd rfl (hL.at hl rfl) k) k
theorem z_iload {n : Nat} {x : Int32} (hl : L[n]? = some (.int x)) (hd : decode t.2.1 pc = .ok (.iload n, 2)) (k : zW g t (pc + 2) L (.int x :: r) M rv M2) : zW g t pc L (r) M rv M2 :=
  zgo (fun p e R s m args below meth c H ls locs cells slots Q hF hL k => lv_iload hF.1 hF.2.1 hd (hL.at hl rfl) k) k
theorem z_lload_n {n : Fin 4} {x : Int64} (hl : L[(n : Nat)]? = some (.long x)) (hd : decode t.2.1 pc = .ok (.lload_n n, 1)) (k : zW g t (pc + 1) L (.long x :: r) M rv M2) : zW g t pc L (r) M rv M2 :=
  zgo (fun p e R s m args below meth c H ls locs cells slots Q hF hL k => lv_lload_n hF.1 hF.2.1 hd rfl (hL.at hl rfl) k) k
theorem z_lload {n : Nat} {x : Int64} (hl : L[n]? = some (.long x)) (hd : decode t.2.1 pc = .ok (.lload n, 2)) (k : zW g t (pc + 2) L (.long x :: r) M rv M2) : zW g t pc L (r) M rv M2 :=
  zgo (fun p e R s m args below meth c H ls locs cells slots Q hF hL k => lv_lload hF.1 hF.2.1 hd (hL.at hl rfl) k) k
theorem z_aload_n {n : Fin 4} {x : Nat} (hl : L[(n : Nat)]? = some (.ref x)) (hd : decode t.2.1 pc = .ok (.aload_n n, 1)) (k : zW g t (pc + 1) L (.ref x :: r) M rv M2) : zW g t pc L (r) M rv M2 :=
  zgo (fun p e R s m args below meth c H ls locs cells slots Q hF hL k => lv_aload_n hF.1 hF.2.1 hd rfl (hL.at hl rfl) k) k
theorem z_aload {n : Nat} {x : Nat} (hl : L[n]? = some (.ref x)) (hd : decode t.2.1 pc = .ok (.aload n, 2)) (k : zW g t (pc + 2) L (.ref x :: r) M rv M2) : zW g t pc L (r) M rv M2 :=
  zgo (fun p e R s m args below meth c H ls locs cells slots Q hF hL k => lv_aload hF.1 hF.2.1 hd (hL.at hl rfl) k) k
theorem z_aload_nN {n : Fin 4} (hl : L[(n : Nat)]? = some .null) (hd : decode t.2.1 pc = .ok (.aload_n n, 1)) (k : zW g t (pc + 1) L (.null :: r) M rv M2) : zW g t pc L (r) M rv M2 :=
  zgo (fun p e R s m args below meth c H ls locs cells slots Q hF hL k => lv_aload_nN hF.1 hF.2.1 hd rfl (hL.at hl rfl) k) k
theorem z_aloadN {n : Nat} (hl : L[n]? = some .null) (hd : decode t.2.1 pc = .ok (.aload n, 2)) (k : zW g t (pc + 2) L (.null :: r) M rv M2) : zW g t pc L (r) M rv M2 :=
  zgo (fun p e R s m args below meth c H ls locs cells slots Q hF hL k => lv_aloadN hF.1 hF.2.1 hd (hL.at hl rfl) k) k
theorem z_istore_n {n : Fin 4} {x : Int32} (hd : decode t.2.1 pc = .ok (.istore_n n, 1)) (hn : (n : Nat) < t.2.2.1) (k : zW g t (pc + 1) (zS1 L n (.int x)) r M rv M2) : zW g t pc L (.int x :: r) M rv M2 :=
  zgoL (fun p e R s m args below meth c H ls locs cells slots Q hF hL k => lv_istore_n hF.1 hF.2.1 hd rfl hL.has hn rfl (fun ls2 h2 => k ls2 (hL.s1 h2 hn))) k
theorem z_istore {n : Nat} {x : Int32} (hd : decode t.2.1 pc = .ok (.istore n, 2)) (hn : n < t.2.2.1) (k : zW g t (pc + 2) (zS1 L n (.int x)) r M rv M2) : zW g t pc L (.int x :: r) M rv M2 :=
  zgoL (fun p e R s m args below meth c H ls locs cells slots Q hF hL k => lv_istore hF.1 hF.2.1 hd hL.has hn rfl (fun ls2 h2 => k ls2 (hL.s1 h2 hn))) k
theorem z_lstore_n {n : Fin 4} {x : Int64} (hd : decode t.2.1 pc = .ok (.lstore_n n, 1)) (hn : (n : Nat) + 1 < t.2.2.1) (k : zW g t (pc + 1) (zS2 L n (.long x)) r M rv M2) : zW g t pc L (.long x :: r) M rv M2 :=
  zgoL (fun p e R s m args below meth c H ls locs cells slots Q hF hL k => lv_lstore_n hF.1 hF.2.1 hd rfl hL.has hn rfl (fun ls2 h2 => k ls2 (hL.s2 h2 hn))) k
theorem z_lstore {n : Nat} {x : Int64} (hd : decode t.2.1 pc = .ok (.lstore n, 2)) (hn : n + 1 < t.2.2.1) (k : zW g t (pc + 2) (zS2 L n (.long x)) r M rv M2) : zW g t pc L (.long x :: r) M rv M2 :=
  zgoL (fun p e R s m args below meth c H ls locs cells slots Q hF hL k => lv_lstore hF.1 hF.2.1 hd hL.has hn rfl (fun ls2 h2 => k ls2 (hL.s2 h2 hn))) k
theorem z_astore_n {n : Fin 4} {x : Nat} (hd : decode t.2.1 pc = .ok (.astore_n n, 1)) (hn : (n : Nat) < t.2.2.1) (k : zW g t (pc + 1) (zS1 L n (.ref x)) r M rv M2) : zW g t pc L (.ref x :: r) M rv M2 :=
  zgoL (fun p e R s m args below meth c H ls locs cells slots Q hF hL k => lv_astore_n hF.1 hF.2.1 hd rfl hL.has hn rfl (fun ls2 h2 => k ls2 (hL.s1 h2 hn))) k
theorem z_astore {n : Nat} {x : Nat} (hd : decode t.2.1 pc = .ok (.astore n, 2)) (hn : n < t.2.2.1) (k : zW g t (pc + 2) (zS1 L n (.ref x)) r M rv M2) : zW g t pc L (.ref x :: r) M rv M2 :=
  zgoL (fun p e R s m args below meth c H ls locs cells slots Q hF hL k => lv_astore hF.1 hF.2.1 hd hL.has hn rfl (fun ls2 h2 => k ls2 (hL.s1 h2 hn))) k
theorem z_astore_nN {n : Fin 4} (hd : decode t.2.1 pc = .ok (.astore_n n, 1)) (hn : (n : Nat) < t.2.2.1) (k : zW g t (pc + 1) (zS1 L n .null) r M rv M2) : zW g t pc L (.null :: r) M rv M2 :=
  zgoL (fun p e R s m args below meth c H ls locs cells slots Q hF hL k => lv_astore_nN hF.1 hF.2.1 hd rfl hL.has hn rfl (fun ls2 h2 => k ls2 (hL.s1 h2 hn))) k
theorem z_astoreN {n : Nat} (hd : decode t.2.1 pc = .ok (.astore n, 2)) (hn : n < t.2.2.1) (k : zW g t (pc + 2) (zS1 L n .null) r M rv M2) : zW g t pc L (.null :: r) M rv M2 :=
  zgoL (fun p e R s m args below meth c H ls locs cells slots Q hF hL k => lv_astoreN hF.1 hF.2.1 hd hL.has hn rfl (fun ls2 h2 => k ls2 (hL.s1 h2 hn))) k
theorem z_iinc {i : Nat} {n : Int} {x v : Int32} (hd : decode t.2.1 pc = .ok (.iinc i n, 3)) (hl : L[i]? = some (.int x)) (hv : x + Int32.ofInt n = v) (k : zW g t (pc + 3) (zS1 L i (.int v)) r M rv M2) : zW g t pc L r M rv M2 :=
  zgoL (fun p e R s m args below meth c H ls locs cells slots Q hF hL k => by
    have hm : (i, Value.int x) ∈ zA L := zA_mem.mpr ⟨hl, rfl⟩
    obtain ⟨j, hj⟩ := List.getElem?_of_mem hm
    have hn : i < t.2.2.1 := by rw [← hL.2.1]; exact (List.getElem?_eq_some_iff.mp hl).1
    exact lv_iinc hF.1 hF.2.1 hd hL.has hj hv hn rfl (fun ls2 h2 => k ls2 (hL.s1 h2 hn))) k
theorem z_iadd {x y : Int32} (hd : decode t.2.1 pc = .ok (.iadd, 1)) (k : zW g t (pc + 1) L (.int (x + y) :: r) M rv M2) : zW g t pc L (.int y :: .int x :: r) M rv M2 :=
  zgo (fun p e R s m args below meth c H ls locs cells slots Q hF hL k => lv_iadd hF.1 hF.2.1 hd k) k
theorem z_ladd {x y : Int64} (hd : decode t.2.1 pc = .ok (.ladd, 1)) (k : zW g t (pc + 1) L (.long (x + y) :: r) M rv M2) : zW g t pc L (.long y :: .long x :: r) M rv M2 :=
  zgo (fun p e R s m args below meth c H ls locs cells slots Q hF hL k => lv_ladd hF.1 hF.2.1 hd k) k
theorem z_isub {x y : Int32} (hd : decode t.2.1 pc = .ok (.isub, 1)) (k : zW g t (pc + 1) L (.int (x - y) :: r) M rv M2) : zW g t pc L (.int y :: .int x :: r) M rv M2 :=
  zgo (fun p e R s m args below meth c H ls locs cells slots Q hF hL k => lv_isub hF.1 hF.2.1 hd k) k
theorem z_lsub {x y : Int64} (hd : decode t.2.1 pc = .ok (.lsub, 1)) (k : zW g t (pc + 1) L (.long (x - y) :: r) M rv M2) : zW g t pc L (.long y :: .long x :: r) M rv M2 :=
  zgo (fun p e R s m args below meth c H ls locs cells slots Q hF hL k => lv_lsub hF.1 hF.2.1 hd k) k
theorem z_imul {x y : Int32} (hd : decode t.2.1 pc = .ok (.imul, 1)) (k : zW g t (pc + 1) L (.int (x * y) :: r) M rv M2) : zW g t pc L (.int y :: .int x :: r) M rv M2 :=
  zgo (fun p e R s m args below meth c H ls locs cells slots Q hF hL k => lv_imul hF.1 hF.2.1 hd k) k
theorem z_lmul {x y : Int64} (hd : decode t.2.1 pc = .ok (.lmul, 1)) (k : zW g t (pc + 1) L (.long (x * y) :: r) M rv M2) : zW g t pc L (.long y :: .long x :: r) M rv M2 :=
  zgo (fun p e R s m args below meth c H ls locs cells slots Q hF hL k => lv_lmul hF.1 hF.2.1 hd k) k
theorem z_iand {x y : Int32} (hd : decode t.2.1 pc = .ok (.iand, 1)) (k : zW g t (pc + 1) L (.int (x &&& y) :: r) M rv M2) : zW g t pc L (.int y :: .int x :: r) M rv M2 :=
  zgo (fun p e R s m args below meth c H ls locs cells slots Q hF hL k => lv_iand hF.1 hF.2.1 hd k) k
theorem z_land {x y : Int64} (hd : decode t.2.1 pc = .ok (.land, 1)) (k : zW g t (pc + 1) L (.long (x &&& y) :: r) M rv M2) : zW g t pc L (.long y :: .long x :: r) M rv M2 :=
  zgo (fun p e R s m args below meth c H ls locs cells slots Q hF hL k => lv_land hF.1 hF.2.1 hd k) k
theorem z_ior {x y : Int32} (hd : decode t.2.1 pc = .ok (.ior, 1)) (k : zW g t (pc + 1) L (.int (x ||| y) :: r) M rv M2) : zW g t pc L (.int y :: .int x :: r) M rv M2 :=
  zgo (fun p e R s m args below meth c H ls locs cells slots Q hF hL k => lv_ior hF.1 hF.2.1 hd k) k
theorem z_lor {x y : Int64} (hd : decode t.2.1 pc = .ok (.lor, 1)) (k : zW g t (pc + 1) L (.long (x ||| y) :: r) M rv M2) : zW g t pc L (.long y :: .long x :: r) M rv M2 :=
  zgo (fun p e R s m args below meth c H ls locs cells slots Q hF hL k => lv_lor hF.1 hF.2.1 hd k) k
theorem z_ixor {x y : Int32} (hd : decode t.2.1 pc = .ok (.ixor, 1)) (k : zW g t (pc + 1) L (.int (x ^^^ y) :: r) M rv M2) : zW g t pc L (.int y :: .int x :: r) M rv M2 :=
  zgo (fun p e R s m args below meth c H ls locs cells slots Q hF hL k => lv_ixor hF.1 hF.2.1 hd k) k
theorem z_lxor {x y : Int64} (hd : decode t.2.1 pc = .ok (.lxor, 1)) (k : zW g t (pc + 1) L (.long (x ^^^ y) :: r) M rv M2) : zW g t pc L (.long y :: .long x :: r) M rv M2 :=
  zgo (fun p e R s m args below meth c H ls locs cells slots Q hF hL k => lv_lxor hF.1 hF.2.1 hd k) k
theorem z_idiv {x y : Int32} (hne : ¬ y = 0) (hd : decode t.2.1 pc = .ok (.idiv, 1)) (k : zW g t (pc + 1) L (.int (x / y) :: r) M rv M2) : zW g t pc L (.int y :: .int x :: r) M rv M2 :=
  zgo (fun p e R s m args below meth c H ls locs cells slots Q hF hL k => lv_idiv hF.1 hF.2.1 hd hne k) k
theorem z_irem {x y : Int32} (hne : ¬ y = 0) (hd : decode t.2.1 pc = .ok (.irem, 1)) (k : zW g t (pc + 1) L (.int (x - x / y * y) :: r) M rv M2) : zW g t pc L (.int y :: .int x :: r) M rv M2 :=
  zgo (fun p e R s m args below meth c H ls locs cells slots Q hF hL k => lv_irem hF.1 hF.2.1 hd hne k) k
theorem z_ineg {x : Int32} (hd : decode t.2.1 pc = .ok (.ineg, 1)) (k : zW g t (pc + 1) L (.int (-x) :: r) M rv M2) : zW g t pc L (.int x :: r) M rv M2 :=
  zgo (fun p e R s m args below meth c H ls locs cells slots Q hF hL k => lv_ineg hF.1 hF.2.1 hd k) k
theorem z_ldiv {x y : Int64} (hne : ¬ y = 0) (hd : decode t.2.1 pc = .ok (.ldiv, 1)) (k : zW g t (pc + 1) L (.long (x / y) :: r) M rv M2) : zW g t pc L (.long y :: .long x :: r) M rv M2 :=
  zgo (fun p e R s m args below meth c H ls locs cells slots Q hF hL k => lv_ldiv hF.1 hF.2.1 hd hne k) k
theorem z_lrem {x y : Int64} (hne : ¬ y = 0) (hd : decode t.2.1 pc = .ok (.lrem, 1)) (k : zW g t (pc + 1) L (.long (x - x / y * y) :: r) M rv M2) : zW g t pc L (.long y :: .long x :: r) M rv M2 :=
  zgo (fun p e R s m args below meth c H ls locs cells slots Q hF hL k => lv_lrem hF.1 hF.2.1 hd hne k) k
theorem z_lneg {x : Int64} (hd : decode t.2.1 pc = .ok (.lneg, 1)) (k : zW g t (pc + 1) L (.long (-x) :: r) M rv M2) : zW g t pc L (.long x :: r) M rv M2 :=
  zgo (fun p e R s m args below meth c H ls locs cells slots Q hF hL k => lv_lneg hF.1 hF.2.1 hd k) k
theorem z_ishl {x y : Int32} (hd : decode t.2.1 pc = .ok (.ishl, 1)) (k : zW g t (pc + 1) L (.int (x <<< (y &&& 31)) :: r) M rv M2) : zW g t pc L (.int y :: .int x :: r) M rv M2 :=
  zgo (fun p e R s m args below meth c H ls locs cells slots Q hF hL k => lv_ishl hF.1 hF.2.1 hd k) k
theorem z_ishr {x y : Int32} (hd : decode t.2.1 pc = .ok (.ishr, 1)) (k : zW g t (pc + 1) L (.int (x >>> (y &&& 31)) :: r) M rv M2) : zW g t pc L (.int y :: .int x :: r) M rv M2 :=
  zgo (fun p e R s m args below meth c H ls locs cells slots Q hF hL k => lv_ishr hF.1 hF.2.1 hd k) k
theorem z_iushr {x y : Int32} (hd : decode t.2.1 pc = .ok (.iushr, 1)) (k : zW g t (pc + 1) L (.int ((x.toUInt32 >>> (y.toUInt32 &&& Int32.toUInt32 31)).toInt32) :: r) M rv M2) : zW g t pc L (.int y :: .int x :: r) M rv M2 :=
  zgo (fun p e R s m args below meth c H ls locs cells slots Q hF hL k => lv_iushr hF.1 hF.2.1 hd rfl k) k
theorem z_lshl {x : Int64} {y : Int32} (hd : decode t.2.1 pc = .ok (.lshl, 1)) (k : zW g t (pc + 1) L (.long (x <<< (y.toInt64 &&& 63)) :: r) M rv M2) : zW g t pc L (.int y :: .long x :: r) M rv M2 :=
  zgo (fun p e R s m args below meth c H ls locs cells slots Q hF hL k => lv_lshl hF.1 hF.2.1 hd rfl k) k
theorem z_lshr {x : Int64} {y : Int32} (hd : decode t.2.1 pc = .ok (.lshr, 1)) (k : zW g t (pc + 1) L (.long (x >>> (y.toInt64 &&& 63)) :: r) M rv M2) : zW g t pc L (.int y :: .long x :: r) M rv M2 :=
  zgo (fun p e R s m args below meth c H ls locs cells slots Q hF hL k => lv_lshr hF.1 hF.2.1 hd rfl k) k
theorem z_lushr {x : Int64} {y : Int32} (hd : decode t.2.1 pc = .ok (.lushr, 1)) (k : zW g t (pc + 1) L (.long ((x.toUInt64 >>> (y.toInt64.toUInt64 &&& Int64.toUInt64 63)).toInt64) :: r) M rv M2) : zW g t pc L (.int y :: .long x :: r) M rv M2 :=
  zgo (fun p e R s m args below meth c H ls locs cells slots Q hF hL k => lv_lushr hF.1 hF.2.1 hd rfl k) k
theorem z_i2l {x : Int32} (hd : decode t.2.1 pc = .ok (.i2l, 1)) (k : zW g t (pc + 1) L (.long x.toInt64 :: r) M rv M2) : zW g t pc L (.int x :: r) M rv M2 :=
  zgo (fun p e R s m args below meth c H ls locs cells slots Q hF hL k => lv_i2l hF.1 hF.2.1 hd rfl k) k
theorem z_l2i {x : Int64} (hd : decode t.2.1 pc = .ok (.l2i, 1)) (k : zW g t (pc + 1) L (.int x.toInt32 :: r) M rv M2) : zW g t pc L (.long x :: r) M rv M2 :=
  zgo (fun p e R s m args below meth c H ls locs cells slots Q hF hL k => lv_l2i hF.1 hF.2.1 hd rfl k) k
theorem z_i2b {x : Int32} (hd : decode t.2.1 pc = .ok (.i2b, 1)) (k : zW g t (pc + 1) L (.int x.toInt8.toInt32 :: r) M rv M2) : zW g t pc L (.int x :: r) M rv M2 :=
  zgo (fun p e R s m args below meth c H ls locs cells slots Q hF hL k => lv_i2b hF.1 hF.2.1 hd rfl k) k
theorem z_i2c {x : Int32} (hd : decode t.2.1 pc = .ok (.i2c, 1)) (k : zW g t (pc + 1) L (.int (x.toUInt32 % 65536).toInt32 :: r) M rv M2) : zW g t pc L (.int x :: r) M rv M2 :=
  zgo (fun p e R s m args below meth c H ls locs cells slots Q hF hL k => lv_i2c hF.1 hF.2.1 hd rfl k) k
theorem z_dup {v : Value} (hv : v.category = 1) (hd : decode t.2.1 pc = .ok (.dup, 1)) (k : zW g t (pc + 1) L (v :: v :: r) M rv M2) : zW g t pc L (v :: r) M rv M2 :=
  zgo (fun p e R s m args below meth c H ls locs cells slots Q hF hL k => lv_dup hF.1 hF.2.1 hd hv k) k
theorem z_pop {v : Value} (hv : v.category = 1) (hd : decode t.2.1 pc = .ok (.pop, 1)) (k : zW g t (pc + 1) L (r) M rv M2) : zW g t pc L (v :: r) M rv M2 :=
  zgo (fun p e R s m args below meth c H ls locs cells slots Q hF hL k => lv_pop hF.1 hF.2.1 hd hv k) k
theorem z_dup2 {v w : Value} (hv : v.category = 1) (hw : w.category = 1) (hd : decode t.2.1 pc = .ok (.dup2, 1)) (k : zW g t (pc + 1) L (v :: w :: v :: w :: r) M rv M2) : zW g t pc L (v :: w :: r) M rv M2 :=
  zgo (fun p e R s m args below meth c H ls locs cells slots Q hF hL k => lv_dup2_11 hF.1 hF.2.1 hd hv hw k) k
theorem z_dup_x1 {v w : Value} (hv : v.category = 1) (hw : w.category = 1) (hd : decode t.2.1 pc = .ok (.dup_x1, 1)) (k : zW g t (pc + 1) L (v :: w :: v :: r) M rv M2) : zW g t pc L (v :: w :: r) M rv M2 :=
  zgo (fun p e R s m args below meth c H ls locs cells slots Q hF hL k => lv_dup_x1 hF.1 hF.2.1 hd hv hw k) k
def zcmp (x y : Int64) : Int32 := if y < x then 1 else if x = y then 0 else -1
theorem z_goto {off : Int} {tgt : Nat} (hd : decode t.2.1 pc = .ok (.goto off, 3)) (ht : (pc : Int) + off = (tgt : Int)) (k : zW g t tgt L r M rv M2) : zW g t pc L r M rv M2 :=
  zgo (fun p e R s m args below meth c H ls locs cells slots Q hF hL k => lv_goto hF.1 hF.2.1 hd ht k) k
theorem z_if_eq {x : Int32} {off : Int} {tgt : Nat} (hd : decode t.2.1 pc = .ok (.ifCond .eq off, 3)) (ht : (pc : Int) + off = (tgt : Int)) (kt : x = 0 → zW g t tgt L r M rv M2) (kf : ¬ (x = 0) → zW g t (pc + 3) L r M rv M2) : zW g t pc L (.int x :: r) M rv M2 := by
  by_cases hc : x = 0
  · exact zgo (fun p e R s m args below meth c H ls locs cells slots Q hF hL k => lv_if_eq hF.1 hF.2.1 hd ht (fun _ => k) (fun h => absurd hc h)) (kt hc)
  · exact zgo (fun p e R s m args below meth c H ls locs cells slots Q hF hL k => lv_if_eq hF.1 hF.2.1 hd ht (fun h => absurd h hc) (fun _ => k)) (kf hc)
theorem z_icmp_eq {x y : Int32} {off : Int} {tgt : Nat} (hd : decode t.2.1 pc = .ok (.if_icmp .eq off, 3)) (ht : (pc : Int) + off = (tgt : Int)) (kt : x = y → zW g t tgt L r M rv M2) (kf : ¬ (x = y) → zW g t (pc + 3) L r M rv M2) : zW g t pc L (.int y :: .int x :: r) M rv M2 := by
  by_cases hc : x = y
  · exact zgo (fun p e R s m args below meth c H ls locs cells slots Q hF hL k => lv_icmp_eq hF.1 hF.2.1 hd ht (fun _ => k) (fun h => absurd hc h)) (kt hc)
  · exact zgo (fun p e R s m args below meth c H ls locs cells slots Q hF hL k => lv_icmp_eq hF.1 hF.2.1 hd ht (fun h => absurd h hc) (fun _ => k)) (kf hc)
theorem z_if_lt {x : Int32} {off : Int} {tgt : Nat} (hd : decode t.2.1 pc = .ok (.ifCond .lt off, 3)) (ht : (pc : Int) + off = (tgt : Int)) (kt : x < 0 → zW g t tgt L r M rv M2) (kf : ¬ (x < 0) → zW g t (pc + 3) L r M rv M2) : zW g t pc L (.int x :: r) M rv M2 := by
  by_cases hc : x < 0
  · exact zgo (fun p e R s m args below meth c H ls locs cells slots Q hF hL k => lv_if_lt hF.1 hF.2.1 hd ht (fun _ => k) (fun h => absurd hc h)) (kt hc)
  · exact zgo (fun p e R s m args below meth c H ls locs cells slots Q hF hL k => lv_if_lt hF.1 hF.2.1 hd ht (fun h => absurd h hc) (fun _ => k)) (kf hc)
theorem z_icmp_lt {x y : Int32} {off : Int} {tgt : Nat} (hd : decode t.2.1 pc = .ok (.if_icmp .lt off, 3)) (ht : (pc : Int) + off = (tgt : Int)) (kt : x < y → zW g t tgt L r M rv M2) (kf : ¬ (x < y) → zW g t (pc + 3) L r M rv M2) : zW g t pc L (.int y :: .int x :: r) M rv M2 := by
  by_cases hc : x < y
  · exact zgo (fun p e R s m args below meth c H ls locs cells slots Q hF hL k => lv_icmp_lt hF.1 hF.2.1 hd ht (fun _ => k) (fun h => absurd hc h)) (kt hc)
  · exact zgo (fun p e R s m args below meth c H ls locs cells slots Q hF hL k => lv_icmp_lt hF.1 hF.2.1 hd ht (fun h => absurd h hc) (fun _ => k)) (kf hc)
theorem z_if_ge {x : Int32} {off : Int} {tgt : Nat} (hd : decode t.2.1 pc = .ok (.ifCond .ge off, 3)) (ht : (pc : Int) + off = (tgt : Int)) (kt : 0 ≤ x → zW g t tgt L r M rv M2) (kf : ¬ (0 ≤ x) → zW g t (pc + 3) L r M rv M2) : zW g t pc L (.int x :: r) M rv M2 := by
  by_cases hc : 0 ≤ x
  · exact zgo (fun p e R s m args below meth c H ls locs cells slots Q hF hL k => lv_if_ge hF.1 hF.2.1 hd ht (fun _ => k) (fun h => absurd hc h)) (kt hc)
  · exact zgo (fun p e R s m args below meth c H ls locs cells slots Q hF hL k => lv_if_ge hF.1 hF.2.1 hd ht (fun h => absurd h hc) (fun _ => k)) (kf hc)
theorem z_icmp_ge {x y : Int32} {off : Int} {tgt : Nat} (hd : decode t.2.1 pc = .ok (.if_icmp .ge off, 3)) (ht : (pc : Int) + off = (tgt : Int)) (kt : y ≤ x → zW g t tgt L r M rv M2) (kf : ¬ (y ≤ x) → zW g t (pc + 3) L r M rv M2) : zW g t pc L (.int y :: .int x :: r) M rv M2 := by
  by_cases hc : y ≤ x
  · exact zgo (fun p e R s m args below meth c H ls locs cells slots Q hF hL k => lv_icmp_ge hF.1 hF.2.1 hd ht (fun _ => k) (fun h => absurd hc h)) (kt hc)
  · exact zgo (fun p e R s m args below meth c H ls locs cells slots Q hF hL k => lv_icmp_ge hF.1 hF.2.1 hd ht (fun h => absurd h hc) (fun _ => k)) (kf hc)
theorem z_if_gt {x : Int32} {off : Int} {tgt : Nat} (hd : decode t.2.1 pc = .ok (.ifCond .gt off, 3)) (ht : (pc : Int) + off = (tgt : Int)) (kt : 0 < x → zW g t tgt L r M rv M2) (kf : ¬ (0 < x) → zW g t (pc + 3) L r M rv M2) : zW g t pc L (.int x :: r) M rv M2 := by
  by_cases hc : 0 < x
  · exact zgo (fun p e R s m args below meth c H ls locs cells slots Q hF hL k => lv_if_gt hF.1 hF.2.1 hd ht (fun _ => k) (fun h => absurd hc h)) (kt hc)
  · exact zgo (fun p e R s m args below meth c H ls locs cells slots Q hF hL k => lv_if_gt hF.1 hF.2.1 hd ht (fun h => absurd h hc) (fun _ => k)) (kf hc)
theorem z_icmp_gt {x y : Int32} {off : Int} {tgt : Nat} (hd : decode t.2.1 pc = .ok (.if_icmp .gt off, 3)) (ht : (pc : Int) + off = (tgt : Int)) (kt : y < x → zW g t tgt L r M rv M2) (kf : ¬ (y < x) → zW g t (pc + 3) L r M rv M2) : zW g t pc L (.int y :: .int x :: r) M rv M2 := by
  by_cases hc : y < x
  · exact zgo (fun p e R s m args below meth c H ls locs cells slots Q hF hL k => lv_icmp_gt hF.1 hF.2.1 hd ht (fun _ => k) (fun h => absurd hc h)) (kt hc)
  · exact zgo (fun p e R s m args below meth c H ls locs cells slots Q hF hL k => lv_icmp_gt hF.1 hF.2.1 hd ht (fun h => absurd h hc) (fun _ => k)) (kf hc)
theorem z_if_le {x : Int32} {off : Int} {tgt : Nat} (hd : decode t.2.1 pc = .ok (.ifCond .le off, 3)) (ht : (pc : Int) + off = (tgt : Int)) (kt : x ≤ 0 → zW g t tgt L r M rv M2) (kf : ¬ (x ≤ 0) → zW g t (pc + 3) L r M rv M2) : zW g t pc L (.int x :: r) M rv M2 := by
  by_cases hc : x ≤ 0
  · exact zgo (fun p e R s m args below meth c H ls locs cells slots Q hF hL k => lv_if_le hF.1 hF.2.1 hd ht (fun _ => k) (fun h => absurd hc h)) (kt hc)
  · exact zgo (fun p e R s m args below meth c H ls locs cells slots Q hF hL k => lv_if_le hF.1 hF.2.1 hd ht (fun h => absurd h hc) (fun _ => k)) (kf hc)
theorem z_icmp_le {x y : Int32} {off : Int} {tgt : Nat} (hd : decode t.2.1 pc = .ok (.if_icmp .le off, 3)) (ht : (pc : Int) + off = (tgt : Int)) (kt : x ≤ y → zW g t tgt L r M rv M2) (kf : ¬ (x ≤ y) → zW g t (pc + 3) L r M rv M2) : zW g t pc L (.int y :: .int x :: r) M rv M2 := by
  by_cases hc : x ≤ y
  · exact zgo (fun p e R s m args below meth c H ls locs cells slots Q hF hL k => lv_icmp_le hF.1 hF.2.1 hd ht (fun _ => k) (fun h => absurd hc h)) (kt hc)
  · exact zgo (fun p e R s m args below meth c H ls locs cells slots Q hF hL k => lv_icmp_le hF.1 hF.2.1 hd ht (fun h => absurd h hc) (fun _ => k)) (kf hc)
theorem z_if_ne {x : Int32} {off : Int} {tgt : Nat} (hd : decode t.2.1 pc = .ok (.ifCond .ne off, 3)) (ht : (pc : Int) + off = (tgt : Int)) (kt : ¬ (x = 0) → zW g t tgt L r M rv M2) (kf : x = 0 → zW g t (pc + 3) L r M rv M2) : zW g t pc L (.int x :: r) M rv M2 := by
  by_cases hc : x = 0
  · exact zgo (fun p e R s m args below meth c H ls locs cells slots Q hF hL k => lv_if_ne hF.1 hF.2.1 hd ht (fun h => absurd hc h) (fun _ => k)) (kf hc)
  · exact zgo (fun p e R s m args below meth c H ls locs cells slots Q hF hL k => lv_if_ne hF.1 hF.2.1 hd ht (fun _ => k) (fun h => absurd h hc)) (kt hc)
theorem z_icmp_ne {x y : Int32} {off : Int} {tgt : Nat} (hd : decode t.2.1 pc = .ok (.if_icmp .ne off, 3)) (ht : (pc : Int) + off = (tgt : Int)) (kt : ¬ (x = y) → zW g t tgt L r M rv M2) (kf : x = y → zW g t (pc + 3) L r M rv M2) : zW g t pc L (.int y :: .int x :: r) M rv M2 := by
  by_cases hc : x = y
  · exact zgo (fun p e R s m args below meth c H ls locs cells slots Q hF hL k => lv_icmp_ne hF.1 hF.2.1 hd ht (fun h => absurd hc h) (fun _ => k)) (kf hc)
  · exact zgo (fun p e R s m args below meth c H ls locs cells slots Q hF hL k => lv_icmp_ne hF.1 hF.2.1 hd ht (fun _ => k) (fun h => absurd h hc)) (kt hc)
theorem z_lcmp {x y : Int64} (hd : decode t.2.1 pc = .ok (.lcmp, 1)) (k : zW g t (pc + 1) L (.int (lg_cmp x y) :: r) M rv M2) : zW g t pc L (.long y :: .long x :: r) M rv M2 :=
  zgo (fun p e R s m args below meth c H ls locs cells slots Q hF hL k => W.lcmp hF.1 hF.2.1 hd k) k
theorem z_ifnull {x : Nat} {off : Int} (hd : decode t.2.1 pc = .ok (.ifnull off, 3)) (k : zW g t (pc + 3) L r M rv M2) : zW g t pc L (.ref x :: r) M rv M2 :=
  zgo (fun p e R s m args below meth c H ls locs cells slots Q hF hL k => lv_ifnull hF.1 hF.2.1 hd k) k
theorem z_ifnullN {off : Int} {tgt : Nat} (hd : decode t.2.1 pc = .ok (.ifnull off, 3)) (ht : (pc : Int) + off = (tgt : Int)) (k : zW g t tgt L r M rv M2) : zW g t pc L (.null :: r) M rv M2 :=
  zgo (fun p e R s m args below meth c H ls locs cells slots Q hF hL k => lv_ifnullN hF.1 hF.2.1 hd ht k) k
theorem z_ifnonnull {x : Nat} {off : Int} {tgt : Nat} (hd : decode t.2.1 pc = .ok (.ifnonnull off, 3)) (ht : (pc : Int) + off = (tgt : Int)) (k : zW g t tgt L r M rv M2) : zW g t pc L (.ref x :: r) M rv M2 :=
  zgo (fun p e R s m args below meth c H ls locs cells slots Q hF hL k => lv_ifnonnull hF.1 hF.2.1 hd ht k) k
theorem z_ifnonnullN {off : Int} (hd : decode t.2.1 pc = .ok (.ifnonnull off, 3)) (k : zW g t (pc + 3) L r M rv M2) : zW g t pc L (.null :: r) M rv M2 :=
  zgo (fun p e R s m args below meth c H ls locs cells slots Q hF hL k => lv_ifnonnullN hF.1 hF.2.1 hd k) k
/-- a good word of the tables, inside a method -/
theorem zw_at (hC : zC g) {p : Program} {R : Room} {s : State} {m : MethodId} {meth : Method} {c : Code} (hF : zF g t p R s m meth c) {w : Cond} (hw : w ∈ lw_tbl) (hg : goodWord w = true) (a : Array Value) : w.before a s = true := word_at hF.2.2.2.2.2.1 (good_of_word hg) (hC.1 w hw)
theorem z_ldc (hC : zC g) {n : Nat} {v : Int32} (hd : decode t.2.1 pc = .ok (.ldc n, 2)) (hw : Cond.constant t.1 n v ∈ lw_tbl) (k : zW g t (pc + 2) L (.int v :: r) M rv M2) : zW g t pc L r M rv M2 :=
  zgo (fun p e R s m args below meth c H ls locs cells slots Q hF hL k => lv_ldc hF.1 hF.2.1 hF.2.2.2.1 (zw_at hC hF hw rfl args) hd k) k
theorem z_ldc_w (hC : zC g) {n : Nat} {v : Int32} (hd : decode t.2.1 pc = .ok (.ldc_w n, 3)) (hw : Cond.constant t.1 n v ∈ lw_tbl) (k : zW g t (pc + 3) L (.int v :: r) M rv M2) : zW g t pc L r M rv M2 :=
  zgo (fun p e R s m args below meth c H ls locs cells slots Q hF hL k => lv_ldcw hF.1 hF.2.1 hF.2.2.2.1 (zw_at hC hF hw rfl args) hd k) k
theorem z_ldc2 (hC : zC g) {n : Nat} {v : Int64} (hd : decode t.2.1 pc = .ok (.ldc2_w n, 3)) (hw : Cond.constantLong t.1 n v ∈ lw_tbl) (k : zW g t (pc + 3) L (.long v :: r) M rv M2) : zW g t pc L r M rv M2 :=
  zgo (fun p e R s m args below meth c H ls locs cells slots Q hF hL k => lv_ldc2 hF.1 hF.2.1 hF.2.2.2.1 (zw_at hC hF hw rfl args) hd k) k
theorem z_objInit (hC : zC g) {a n : Nat} (hd : decode t.2.1 pc = .ok (.invokespecial n, 3)) (hw : Cond.methodLink t.1 n Lib.objectInit ∈ lw_tbl) (hw1 : Cond.instanceMethod Lib.objectInit ∈ lw_tbl) (hw2 : Cond.code Lib.objectInit ⟨#[0xb1]⟩ 1 none ∈ lw_tbl) (hfr : 1 ≤ t.2.2.2.2.2.1) (hlo : (r.map fun v => v.category).sum + 12 ≤ t.2.2.2.2.2.2) (k : zW g t (pc + 3) L r M rv M2) : zW g t pc L (.ref a :: r) M rv M2 :=
  zgo (fun p e R s m args below meth c H ls locs cells slots Q hF hL k => W.objInit hF.1 hF.2.1 hF.2.2.2.1 (zw_at hC hF hw rfl args) (zw_at hC hF hw1 rfl args) (zw_at hC hF hw2 rfl args) rfl (by rw [hF.2.2.1]; exact hL.1) rfl hd (Nat.le_trans hfr hF.2.2.2.2.2.2.1) (by
    have h1 : (F0 m pc ls (.ref a :: r)).monitorRoom = 0 := rfl
    rw [h1]
    have := hF.2.2.2.2.2.2.2
    omega) k) k
theorem z_iret {x : Int32} (hr : zRok t.2.2.2.1 (some (.int x))) (hd : decode t.2.1 pc = .ok (.ireturn, 1)) : zW g t pc L [.int x] M (some (.int x)) M :=
  ⟨Nat.le_refl _, Nat.le_refl _, fun p e R s m args below meth c H ls locs cells slots Q hF hR hL hl hc hs hQ => hQ pc ls H locs cells slots hR hl (by omega) (by omega) hd hr⟩
theorem z_lret {x : Int64} (hr : zRok t.2.2.2.1 (some (.long x))) (hd : decode t.2.1 pc = .ok (.lreturn, 1)) : zW g t pc L [.long x] M (some (.long x)) M :=
  ⟨Nat.le_refl _, Nat.le_refl _, fun p e R s m args below meth c H ls locs cells slots Q hF hR hL hl hc hs hQ => hQ pc ls H locs cells slots hR hl (by omega) (by omega) hd hr⟩
theorem z_aret {x : Option Nat} {a : FieldType} (hr : t.2.2.2.1 = some a) (ha : (∃ n, a = .object n) ∨ ∃ u, a = .array u) (hd : decode t.2.1 pc = .ok (.areturn, 1)) : zW g t pc L [va_rf x] M (some (va_rf x)) M :=
  ⟨Nat.le_refl _, Nat.le_refl _, fun p e R s m args below meth c H ls locs cells slots Q hF hR hL hl hc hs hQ => hQ pc ls H locs cells slots hR hl (by omega) (by omega) (by cases x <;> exact hd) (by cases x <;> exact ⟨a, hr, ha⟩)⟩
theorem z_ret (hr : t.2.2.2.1 = none) (hd : decode t.2.1 pc = .ok (.return_, 1)) : zW g t pc L [] M none M :=
  ⟨Nat.le_refl _, Nat.le_refl _, fun p e R s m args below meth c H ls locs cells slots Q hF hR hL hl hc hs hQ => hQ pc ls H locs cells slots hR hl (by omega) (by omega) hd hr⟩
theorem z_nameI {x : Int32} (k : ∀ y : Int32, y = x → zW g t pc L (.int y :: r) M rv M2) : zW g t pc L (.int x :: r) M rv M2 := k x rfl
theorem z_nameL {x : Int64} (k : ∀ y : Int64, y = x → zW g t pc L (.long y :: r) M rv M2) : zW g t pc L (.long x :: r) M rv M2 := k x rfl
theorem z_tabIn {dflt hi : Int} {offs : Array Int} {len : Nat} {x : Int32} {off : Int} {tgt : Nat} (j : Nat) (hd : decode t.2.1 pc = .ok (.tableswitch dflt 0 hi offs, len)) (hx : x = Int32.ofNat j) (hj : j < 1000) (h2 : (j : Int) ≤ hi) (ho : offs[j]? = some off) (ht : (pc : Int) + off = (tgt : Int)) (k : zW g t tgt L r M rv M2) : zW g t pc L (.int x :: r) M rv M2 :=
  zgo (fun p e R s m args below meth c H ls locs cells slots Q hF hL k => by
    have hxi : x.toInt = (j : Int) := by rw [hx]; exact nI_toInt (by omega)
    exact lv_tableIn hF.1 hF.2.1 hd (by omega) (by omega) (by rw [hxi]; simpa using ho) ht k) k
theorem z_tabOut {dflt hi : Int} {offs : Array Int} {len : Nat} {x : Int32} {tgt : Nat} (n : Nat) (hd : decode t.2.1 pc = .ok (.tableswitch dflt 0 hi offs, len)) (hn : (n : Int) = hi) (hn2 : n < 1000) (hx : ∀ j, j ≤ n → ¬ x = Int32.ofNat j) (ht : (pc : Int) + dflt = (tgt : Int)) (k : zW g t tgt L r M rv M2) : zW g t pc L (.int x :: r) M rv M2 :=
  zgo (fun p e R s m args below meth c H ls locs cells slots Q hF hL k => by
    refine lv_tableOut hF.1 hF.2.1 hd ?_ ht k
    by_cases h0 : x.toInt < 0
    · exact Or.inl h0
    · right
      refine Int.not_le.mp fun h1 => hx x.toInt.toNat (by omega) ?_
      refine Int32.toInt_inj.mp ?_
      have := nI_toInt (n := x.toInt.toNat) (by omega)
      unfold nI at this
      rw [this]
      omega) k
end ZR
end
section
/-- what is known of a class of the worlds: number, name, fields, their types -/
def zCl (ci : Nat) (C : String) (T : u_T) (N : Nat) (ty : Nat → FieldType) : Prop := vwCl[ci]? = some (C, T, N) ∧ (∀ w ∈ u_ws C T N, w ∈ lw_tbl) ∧ (∀ k, k < N → parseFieldDescriptor (T k).2.2.1 = some (ty k)) ∧ (∀ a, a < N → ∀ b, b < N → a ≠ b → (T a).2.1 ≠ (T b).2.1)
theorem u_good (C : String) (T : u_T) (N : Nat) : ∀ w ∈ u_ws C T N, goodWord w = true := by
  intro w hw
  obtain ⟨k, -, rfl⟩ := List.mem_map.mp hw
  unfold u_lay
  split <;> rfl
/-- a field as a class's method names it by number n: it is field k of class ci -/
def zFl (own : String) (n : Nat) (T : u_T) (k : Nat) : Prop := ∃ ref : String, Cond.fieldLink own n ref (T k).2.1 (T k).2.2.1 ∈ lw_tbl ∧ (ref = (T k).1 ∨ Cond.sameField ref (T k).1 (T k).2.1 (T k).2.2.1 ∈ lw_tbl)
section ZM
variable {g : zG} {t : zM} {pc : Nat} {L r : List Value} {M M1 M2 : zMe} {rv : Option Value}
theorem zF.K (hC : zC g) {p : Program} {R : Room} {s : State} {m : MethodId} {meth : Method} {c : Code} (hF : zF g t p R s m meth c) : va_K g.2.2.2 vwCl [] s := va_K.moved hF.2.2.2.2.2.1.alike hC.2
theorem zF.arr {p : Program} {R : Room} {s : State} {m : MethodId} {meth : Method} {c : Code} (hF : zF g t p R s m meth c) {cA : ClassId} {ty : FieldType} (h : ArrOfT g.2.1 cA ty) : ArrOfT s cA ty := arrOfT_moved hF.2.2.2.2.2.1.alike h
theorem z_getf (hC : zC g) {ci : Nat} {C : String} {T : u_T} {N : Nat} {ty : Nat → FieldType} (hc : zCl ci C T N ty) {a n : Nat} {fs : List Value} {v : Value} (k : Nat) (hk : k < N) (hf : zFl t.1 n T k) (hM : M.1 a = some (.inr (ci, fs))) (hv : fs[k]? = some v) (hd : decode t.2.1 pc = .ok (.getfield n, 3))
    (kk : zW g t (pc + 3) L (v :: r) M rv M2) : zW g t pc L (.ref a :: r) M rv M2 := by
  refine ⟨kk.1, kk.2.1, fun p e R s m args below meth c H ls locs cells slots Q hF hR hL hl hcc hss hQ => ?_⟩
  have K := kk.2.2 p e R s m args below meth c H ls locs cells slots Q hF hR hL hl hcc hss hQ
  obtain ⟨hci, hin, hty, hnm⟩ := hc
  obtain ⟨ref, hw, hsm⟩ := hf
  obtain ⟨-, q0, h1, h2, cell, q1, q2, q3, q4⟩ := hR.2.2.2 a _ hM
  have hr : q0 = (C, T, N) := Option.some.inj (h1.symm.trans hci)
  subst hr
  have hKK := hF.K hC
  obtain ⟨hS, hfc, kC, hkC, hkind⟩ := hKK.1 ci _ hci
  obtain ⟨cf, kf, fi, f, hi, hsl⟩ := hS k hk
  have hts : ∀ w ∈ u_ws C T N, w.before args s = true := fun w h => zw_at hC hF (hin w h) (u_good C T N w h) args
  have hsame : s.fieldFound? ref (T k).2.1 (T k).2.2.1 = some (cf, kf, fi, f) := by
    rcases hsm with h | h
    · rw [h]; exact hi
    · exact u_same (zw_at hC hF h rfl args) _ hi
  refine W.getf hF.1 hF.2.1 hF.2.2.2.1 (zw_at hC hF hw rfl args) hsame (u_facts hfc hkC (u_lays hts (fun _ h => h) hk) hi).1 q1 (by rw [q3]; exact fun h => by cases h) (v := v) ?_ rfl rfl hd K
  rw [hsl, q4 k hk]
  simp [vp_V, hv]
theorem z_putf (hC : zC g) {ci : Nat} {C : String} {T : u_T} {N : Nat} {ty : Nat → FieldType} (hc : zCl ci C T N ty) {a n : Nat} {fs : List Value} {v : Value} (k : Nat) (hk : k < N) (hf : zFl t.1 n T k) (hfin : (T k).2.2.2 = false ∨ (t.2.2.2.2.1 = "<init>" ∧ (T k).2.2.2 = true ∧ (T k).1 = t.1)) (hM : M.1 a = some (.inr (ci, fs))) (hn : narrow (ty k) v = v) (hft : fits (ty k) v = true) (hd : decode t.2.1 pc = .ok (.putfield n, 3))
    (kk : zW g t (pc + 3) L r (zSet M a (.inr (ci, fs.set k v))) rv M2) : zW g t pc L (v :: .ref a :: r) M rv M2 := by
  refine ⟨kk.1, kk.2.1, fun p e R s m args below meth c H ls locs cells slots Q hF hR hL hl hcc hss hQ => ?_⟩
  obtain ⟨hci, hin, hty, hnm⟩ := hc
  obtain ⟨ref, hw, hsm⟩ := hf
  obtain ⟨hba, q0, h1, h2, cell, q1, q2, q3, q4⟩ := hR.2.2.2 a _ hM
  have hr : q0 = (C, T, N) := Option.some.inj (h1.symm.trans hci)
  subst hr
  have hKK := hF.K hC
  have hts : ∀ w ∈ u_ws C T N, w.before args s = true := fun w h => zw_at hC hF (hin w h) (u_good C T N w h) args
  have hap := va_apart (own := t.1) hts (fun _ h => h) ty hty hnm hKK hci
  obtain ⟨hS, hfc, kC, hkC, hkind⟩ := hKK.1 ci _ hci
  obtain ⟨cf, kf, fi, f, hi, hsl⟩ := hS k hk
  have hsame : s.fieldFound? ref (T k).2.1 (T k).2.2.1 = some (cf, kf, fi, f) := by
    rcases hsm with h | h
    · rw [h]; exact hi
    · exact u_same (zw_at hC hF h rfl args) _ hi
  have hlay := hts _ (u_in_lay hk)
  unfold u_lay at hlay
  have hst := (u_facts hfc hkC (u_lays hts (fun _ h => h) hk) hi).1
  have hkl : k < fs.length := by rw [← h2]; exact hk
  have done : ∀ H1 : Heap, H1[a]? = some (cell.setSlot f.slot v) → H1.size = H.size → (∀ q, q ≠ a → H1[q]? = H[q]?) → W p g.1 e R s m args below meth c H1 (locs ++ [⟨a, f.slot⟩]) cells slots Q (F0 m (pc + 3) ls r) := by
    intro H1 e1 e2 e3
    rw [hsl] at e1
    refine kk.2.2 p e R s m args below meth c H1 ls _ cells slots Q hF (hR.set hM e2 e3 ⟨_, hci, by rw [List.length_set]; exact h2, ?_⟩) hL ?_ hcc hss hQ
    · exact t_OB.to (V := updV (vp_V fs) k v) ⟨_, e1, q2, q3, t_set q4 hap hk v⟩ (fun j _ => vp_updV_set hkl v j)
    · intro q hq
      rcases List.mem_append.mp hq with h | h
      · exact hl q h
      · rw [List.mem_singleton.mp h]; exact hba
  rcases hfin with hfin | ⟨hinit, hfin, hdecl⟩
  · rw [if_neg (by rw [hfin]; decide)] at hlay
    have h6 := u_store hfc hkC hkind hlay hi (hty k hk) hn hft
    exact W.putK hF.1 hF.2.1 (f := f) ⟨hF.2.2.2.1, zw_at hC hF hw rfl args, ⟨_, _, _, hsame⟩, hst⟩ (by rw [q2]; exact h6) q1 q3 (by rw [hsl]; exact k2_hasslot (q4 k hk)) rfl rfl hd done
  · rw [if_pos hfin] at hlay
    have hcf : m.cls = cf := by
      obtain ⟨_, _, c', _, _, _, -, -, hf', -, -, -, hown2, -⟩ := Cond.laysFinal_spec hlay
      have e1 : c' = cf := by have := hi.symm.trans hf'; simp at this; exact this.1.symm
      rw [hdecl] at hown2
      rw [← e1]; exact Option.some.inj (hF.2.2.2.1.symm.trans hown2)
    have h6 := u_fits hfc hkC hkind (Or.inr hlay) hi (hty k hk) hn hft
    exact W.putFinK hF.1 hF.2.1 hF.2.2.2.1 (zw_at hC hF hw rfl args) hsame hst hcf (by rw [hF.2.2.2.2.1]; exact hinit) (by rw [q2]; exact h6) q1 q3 (by rw [hsl]; exact k2_hasslot (q4 k hk)) rfl rfl hd done
theorem z_new (hC : zC g) {ci : Nat} {C : String} {T : u_T} {N : Nat} {ty : Nat → FieldType} (hc : zCl ci C T N ty) {n : Nat} {fs : List Value} (hw : Cond.classLink t.1 n C ∈ lw_tbl) (hw1 : Cond.instantiable C N ∈ lw_tbl) (hw2 : Cond.initialized C ∈ lw_tbl) (hlen : N = fs.length) (hfs : ∀ j, j < N → defaultValue (ty j) = vp_V fs j) (hd : decode t.2.1 pc = .ok (.new n, 3))
    (kk : zW g t (pc + 3) L (.ref M.2.1 :: r) (zAdd M (.inr (ci, fs)) N) rv M2) : zW g t pc L r M rv M2 := by
  have hn1 : M.2.1 + 1 ≤ M2.2.1 := kk.1
  have hn2 : M.2.2 + N ≤ M2.2.2 := kk.2.1
  refine ⟨by omega, by omega, fun p e R s m args below meth c H ls locs cells slots Q hF hR hL hl hcc hss hQ => ?_⟩
  obtain ⟨hci, hin, hty, hnm⟩ := hc
  have hKn := (hF.K hC).1 ci _ hci
  have hts : ∀ w ∈ u_ws C T N, w.before args s = true := fun w h => zw_at hC hF (hin w h) (u_good C T N w h) args
  refine W.newcK hF.1 hF.2.1 hF.2.2.2.1 (zw_at hC hF hw rfl args) (zw_at hC hF hw1 rfl args) (zw_at hC hF hw2 rfl args) rfl hd (by omega) (by omega) hKn.2.1 hR.1 fun H1 kC hkC e1 z1 o1 => ?_
  refine kk.2.2 p e R s m args below meth c H1 ls locs (cells + 1) (slots + N) Q hF (hR.add z1 o1 ⟨_, hci, hlen, ?_⟩) hL hl ?_ ?_ hQ
  · exact (u_born ty hts (fun _ h => h) hKn hkC e1 hty).to hfs
  · show cells + 1 + (M2.2.1 - (M.2.1 + 1)) ≤ R.cells
    omega
  · show slots + N + (M2.2.2 - (M.2.2 + N)) ≤ R.slots
    omega
theorem z_newa (hC : zC g) {at0 : ArrayType} {ty : FieldType} (hty : newarray.typeOf at0 = ty) (hw : Cond.arrayClass ty ∈ lw_tbl) {x : Int32} {a0 : vp_A} (ha : ∀ cA : ClassId, vp_cell cA a0 = arrV cA a0.1 (fun _ => defaultValue ty)) (hx : ¬ x < 0) (hN : x.toNatClampNeg = a0.1) (hb : a0.1 * componentBytes ty ≤ 536870912) (hd : decode t.2.1 pc = .ok (.newarray at0, 2))
    (kk : zW g t (pc + 2) L (.ref M.2.1 :: r) (zAdd M (.inl (ty, a0)) a0.1) rv M2) : zW g t pc L (.int x :: r) M rv M2 := by
  subst hty
  have hn1 : M.2.1 + 1 ≤ M2.2.1 := kk.1
  have hn2 : M.2.2 + a0.1 ≤ M2.2.2 := kk.2.1
  refine ⟨by omega, by omega, fun p e R s m args below meth c H ls locs cells slots Q hF hR hL hl hcc hss hQ => ?_⟩
  refine va_newaK hF.1 hF.2.1 (zw_at hC hF hw rfl args) rfl hd rfl hx hN hb (by omega) (by omega) hR.1 fun H1 cA e1 z1 o1 hAr hNm => ?_
  have hal := hF.2.2.2.2.2.1.alike
  refine kk.2.2 p e R s m args below meth c H1 ls locs (cells + 1) (slots + a0.1) Q hF (hR.add z1 o1 ⟨cA, by rw [ha]; exact e1, arrOfT_moved hal.symm hAr, ?_⟩) hL hl ?_ ?_ hQ
  · refine va_RA.moved (u := s) hal.symm ?_
    cases at0 <;> exact hNm
  · show cells + 1 + (M2.2.1 - (M.2.1 + 1)) ≤ R.cells
    omega
  · show slots + a0.1 + (M2.2.2 - (M.2.2 + a0.1)) ≤ R.slots
    omega
theorem z_newq (hC : zC g) {C : String} {n : Nat} (hw : Cond.classLink t.1 n C ∈ lw_tbl) (hw1 : Cond.arrayOver (.object C) ∈ lw_tbl) {x : Int32} {N : Nat} (hx : ¬ x < 0) (hN : x.toNatClampNeg = N) (hb : N * 4 ≤ 536870912) (hd : decode t.2.1 pc = .ok (.anewarray n, 3))
    (kk : zW g t (pc + 3) L (.ref M.2.1 :: r) (zAdd M (.inl (.object C, N, .inr (.inr (.inr (.inr (fun _ => none)))))) N) rv M2) : zW g t pc L (.int x :: r) M rv M2 := by
  subst hN
  have hn1 : M.2.1 + 1 ≤ M2.2.1 := kk.1
  have hn2 : M.2.2 + x.toNatClampNeg ≤ M2.2.2 := kk.2.1
  refine ⟨by omega, by omega, fun p e R s m args below meth c H ls locs cells slots Q hF hR hL hl hcc hss hQ => ?_⟩
  have hal := hF.2.2.2.2.2.1.alike
  have hov : va_AO C s := va_AO.moved hal (va_AO.of (hC.1 _ hw1))
  refine W.anew hF.1 hF.2.1 hF.2.2.2.1 (zw_at hC hF hw rfl args) (va_AO.use hov) rfl hd rfl hx hb (by omega) (by omega) fun cA kA comp f1 f2 f3 f4 => ?_
  generalize hH1 : H.push ({ cls := cA, slots := Array.replicate x.toNatClampNeg .null, vm := .none } : Cell) = H1
  have z1 : H1.size = M.2.1 + 1 := by rw [← hH1, Array.size_push, hR.1]
  have e1 : H1[M.2.1]? = some (arrV cA x.toNatClampNeg (fun _ => .null)) := by rw [← hH1, ← hR.1, Array.getElem?_push_size, ← arrV_new]
  have o1 : ∀ q : Nat, q < M.2.1 → H1[q]? = H[q]? := fun q hq => by rw [← hH1, Array.getElem?_push, if_neg (by rw [hR.1]; omega)]
  have hAr : ArrOfT s cA (.object C) := fun N z => ⟨(fun k h => by cases h), kA, f2, comp, f3⟩
  have hRA : va_RA s cA (.object C) := ⟨kA, comp, f2, f3, f4, f1⟩
  have K := kk.2.2 p e R s m args below meth c H1 ls locs (cells + 1) (slots + x.toNatClampNeg) Q hF (hR.add z1 o1 ⟨cA, by rw [vp_cell_q]; exact e1, arrOfT_moved hal.symm hAr, hRA.moved hal.symm⟩) hL hl (by show cells + 1 + (M2.2.1 - (M.2.1 + 1)) ≤ R.cells; omega) (by show slots + _ + (M2.2.2 - (M.2.2 + _)) ≤ R.slots; omega) hQ
  rw [← hR.1] at K
  exact K
theorem z_alen {a : Nat} {ty : FieldType} {A : vp_A} (hM : M.1 a = some (.inl (ty, A))) (hd : decode t.2.1 pc = .ok (.arraylength, 1)) (kk : zW g t (pc + 1) L (.int (Int32.ofNat A.1) :: r) M rv M2) : zW g t pc L (.ref a :: r) M rv M2 := by
  refine ⟨kk.1, kk.2.1, fun p e R s m args below meth c H ls locs cells slots Q hF hR hL hl hcc hss hQ => ?_⟩
  obtain ⟨hba, cA, h1, h2, h3⟩ := hR.2.2.2 a _ hM
  have K := kk.2.2 p e R s m args below meth c H ls locs cells slots Q hF hR hL hl hcc hss hQ
  have h4 : ∃ z : Nat → Value, vp_cell cA A = arrV cA A.1 z := by
    obtain ⟨n, x⟩ := A
    rcases x with f | f | f | f | f
    · exact ⟨_, vp_cell_i cA n f⟩
    · exact ⟨_, vp_cell_l cA n f⟩
    · exact ⟨_, vp_cell_f cA n f⟩
    · exact ⟨_, vp_cell_d cA n f⟩
    · exact ⟨_, vp_cell_q cA n f⟩
  obtain ⟨z, hz⟩ := h4
  exact W.alen (ty := ty) hF.1 hF.2.1 h1 (by rw [hz]; exact hF.arr h2 _ _) (by rw [hz, arrV_size]) rfl rfl hd K

theorem z_iald {a n : Nat} {f : Nat → Int32} {i : Int32} (hM : M.1 a = some (.inl (.int, n, .inl f))) (hin : vp_in i n) (hd : decode t.2.1 pc = .ok (.iaload, 1)) (kk : zW g t (pc + 1) L (.int (f i.toNatClampNeg) :: r) M rv M2) : zW g t pc L (.int i :: .ref a :: r) M rv M2 := by
  refine ⟨kk.1, kk.2.1, fun p e R s m args below meth c H ls locs cells slots Q hF hR hL hl hcc hss hQ => ?_⟩
  obtain ⟨hba, cA, h1, h2, h3⟩ := hR.2.2.2 a _ hM
  have K := kk.2.2 p e R s m args below meth c H ls locs cells slots Q hF hR hL hl hcc hss hQ
  have hlt : i.toNatClampNeg < n := Nat.not_le.mp fun q => hin (Or.inr q)
  exact W.iald (v := .int (f i.toNatClampNeg)) hF.1 hF.2.1 h1 (hF.arr h2 n (fun j => .int (f j))) (fun q => by cases q) (by show ¬ (i < 0 ∨ (arrV _ _ _).slots.size ≤ _); rw [arrV_size]; exact hin) (by show (arrV _ _ _).slots[_]? = _; rw [arrV_read _ _ hlt]) rfl rfl hd K
theorem z_bald {a n : Nat} {f : Nat → Int32} {i : Int32} (hM : M.1 a = some (.inl (.byte, n, .inl f))) (hin : vp_in i n) (hd : decode t.2.1 pc = .ok (.baload, 1)) (kk : zW g t (pc + 1) L (.int (f i.toNatClampNeg) :: r) M rv M2) : zW g t pc L (.int i :: .ref a :: r) M rv M2 := by
  refine ⟨kk.1, kk.2.1, fun p e R s m args below meth c H ls locs cells slots Q hF hR hL hl hcc hss hQ => ?_⟩
  obtain ⟨hba, cA, h1, h2, h3⟩ := hR.2.2.2 a _ hM
  have K := kk.2.2 p e R s m args below meth c H ls locs cells slots Q hF hR hL hl hcc hss hQ
  have hlt : i.toNatClampNeg < n := Nat.not_le.mp fun q => hin (Or.inr q)
  exact W.bald (v := .int (f i.toNatClampNeg)) hF.1 hF.2.1 h1 (hF.arr h2 n (fun j => .int (f j))) (fun q => by cases q) (by show ¬ (i < 0 ∨ (arrV _ _ _).slots.size ≤ _); rw [arrV_size]; exact hin) (by show (arrV _ _ _).slots[_]? = _; rw [arrV_read _ _ hlt]) rfl rfl hd K
theorem z_zald {a n : Nat} {f : Nat → Int32} {i : Int32} (hM : M.1 a = some (.inl (.boolean, n, .inl f))) (hin : vp_in i n) (hd : decode t.2.1 pc = .ok (.baload, 1)) (kk : zW g t (pc + 1) L (.int (f i.toNatClampNeg) :: r) M rv M2) : zW g t pc L (.int i :: .ref a :: r) M rv M2 := by
  refine ⟨kk.1, kk.2.1, fun p e R s m args below meth c H ls locs cells slots Q hF hR hL hl hcc hss hQ => ?_⟩
  obtain ⟨hba, cA, h1, h2, h3⟩ := hR.2.2.2 a _ hM
  have K := kk.2.2 p e R s m args below meth c H ls locs cells slots Q hF hR hL hl hcc hss hQ
  have hlt : i.toNatClampNeg < n := Nat.not_le.mp fun q => hin (Or.inr q)
  exact W.zald (v := .int (f i.toNatClampNeg)) hF.1 hF.2.1 h1 (hF.arr h2 n (fun j => .int (f j))) (fun q => by cases q) (by show ¬ (i < 0 ∨ (arrV _ _ _).slots.size ≤ _); rw [arrV_size]; exact hin) (by show (arrV _ _ _).slots[_]? = _; rw [arrV_read _ _ hlt]) rfl rfl hd K
theorem z_lald {a n : Nat} {f : Nat → Int64} {i : Int32} (hM : M.1 a = some (.inl (.long, n, .inr (.inl f)))) (hin : vp_in i n) (hd : decode t.2.1 pc = .ok (.laload, 1)) (kk : zW g t (pc + 1) L (.long (f i.toNatClampNeg) :: r) M rv M2) : zW g t pc L (.int i :: .ref a :: r) M rv M2 := by
  refine ⟨kk.1, kk.2.1, fun p e R s m args below meth c H ls locs cells slots Q hF hR hL hl hcc hss hQ => ?_⟩
  obtain ⟨hba, cA, h1, h2, h3⟩ := hR.2.2.2 a _ hM
  have K := kk.2.2 p e R s m args below meth c H ls locs cells slots Q hF hR hL hl hcc hss hQ
  have hlt : i.toNatClampNeg < n := Nat.not_le.mp fun q => hin (Or.inr q)
  exact W.lald (v := .long (f i.toNatClampNeg)) hF.1 hF.2.1 h1 (hF.arr h2 n (fun j => .long (f j))) (fun q => by cases q) (by show ¬ (i < 0 ∨ (arrV _ _ _).slots.size ≤ _); rw [arrV_size]; exact hin) (by show (arrV _ _ _).slots[_]? = _; rw [arrV_read _ _ hlt]) rfl rfl hd K
theorem z_aald {a n : Nat} {C : String} {f : Nat → Option Nat} {i : Int32} (hM : M.1 a = some (.inl (.object C, n, .inr (.inr (.inr (.inr f)))))) (hin : vp_in i n) (hd : decode t.2.1 pc = .ok (.aaload, 1)) (kk : zW g t (pc + 1) L (va_rf (f i.toNatClampNeg) :: r) M rv M2) : zW g t pc L (.int i :: .ref a :: r) M rv M2 := by
  refine ⟨kk.1, kk.2.1, fun p e R s m args below meth c H ls locs cells slots Q hF hR hL hl hcc hss hQ => ?_⟩
  obtain ⟨hba, cA, h1, h2, h3⟩ := hR.2.2.2 a _ hM
  have K := kk.2.2 p e R s m args below meth c H ls locs cells slots Q hF hR hL hl hcc hss hQ
  have hlt : i.toNatClampNeg < n := Nat.not_le.mp fun q => hin (Or.inr q)
  exact W.aald (v := va_rf (f i.toNatClampNeg)) hF.1 hF.2.1 h1 (hF.arr h2 n (fun j => va_rf (f j))) rfl (fun q => by cases q) (by show ¬ (i < 0 ∨ (arrV _ _ _).slots.size ≤ _); rw [arrV_size]; exact hin) (by show (arrV _ _ _).slots[_]? = _; rw [arrV_read _ _ hlt]) rfl rfl hd K
theorem z_iast {a n : Nat} {f : Nat → Int32} {i : Int32} {x : Int32} (hM : M.1 a = some (.inl (.int, n, .inl f))) (hin : vp_in i n) (hd : decode t.2.1 pc = .ok (.iastore, 1)) (kk : zW g t (pc + 1) L r (zSet M a (.inl (.int, n, .inl (upd f i.toNatClampNeg x)))) rv M2) : zW g t pc L (.int x :: .int i :: .ref a :: r) M rv M2 := by
  refine ⟨kk.1, kk.2.1, fun p e R s m args below meth c H ls locs cells slots Q hF hR hL hl hcc hss hQ => ?_⟩
  obtain ⟨hba, cA, h1, h2, h3⟩ := hR.2.2.2 a _ hM
  refine W.iast hF.1 hF.2.1 h1 (hF.arr h2 n (fun j => .int (f j))) (fun q => by cases q) (by show ¬ (i < 0 ∨ (arrV _ _ _).slots.size ≤ _); rw [arrV_size]; exact hin) rfl rfl hd fun H1 e1 z oq => ?_
  refine kk.2.2 p e R s m args below meth c H1 ls _ cells slots Q hF (hR.set hM z oq ⟨cA, ?_, h2, h3⟩) hL ?_ hcc hss hQ
  · rw [e1, vp_cell_i, vp_cell_i, arrV_store]
    congr 2
    funext q
    by_cases hq : q = i.toNatClampNeg
    · subst hq
      simp [updV, upd]
      try rfl
    · simp [updV, upd, hq]
  · intro q hq
    rcases List.mem_append.mp hq with h | h
    · exact hl q h
    · rw [List.mem_singleton.mp h]; exact hba
theorem z_bast {a n : Nat} {f : Nat → Int32} {i : Int32} {x : Int32} (hM : M.1 a = some (.inl (.byte, n, .inl f))) (hin : vp_in i n) (hd : decode t.2.1 pc = .ok (.bastore, 1)) (kk : zW g t (pc + 1) L r (zSet M a (.inl (.byte, n, .inl (upd f i.toNatClampNeg (vp_nar .byte x))))) rv M2) : zW g t pc L (.int x :: .int i :: .ref a :: r) M rv M2 := by
  refine ⟨kk.1, kk.2.1, fun p e R s m args below meth c H ls locs cells slots Q hF hR hL hl hcc hss hQ => ?_⟩
  obtain ⟨hba, cA, h1, h2, h3⟩ := hR.2.2.2 a _ hM
  refine W.bast hF.1 hF.2.1 h1 (hF.arr h2 n (fun j => .int (f j))) (fun q => by cases q) (by show ¬ (i < 0 ∨ (arrV _ _ _).slots.size ≤ _); rw [arrV_size]; exact hin) rfl rfl hd fun H1 e1 z oq => ?_
  refine kk.2.2 p e R s m args below meth c H1 ls _ cells slots Q hF (hR.set hM z oq ⟨cA, ?_, h2, h3⟩) hL ?_ hcc hss hQ
  · rw [e1, vp_cell_i, vp_cell_i, arrV_store]
    congr 2
    funext q
    by_cases hq : q = i.toNatClampNeg
    · subst hq
      simp [updV, upd, vp_nar]
      try rfl
    · simp [updV, upd, vp_nar, hq]
  · intro q hq
    rcases List.mem_append.mp hq with h | h
    · exact hl q h
    · rw [List.mem_singleton.mp h]; exact hba
theorem z_zast {a n : Nat} {f : Nat → Int32} {i : Int32} {x : Int32} (hM : M.1 a = some (.inl (.boolean, n, .inl f))) (hin : vp_in i n) (hd : decode t.2.1 pc = .ok (.bastore, 1)) (kk : zW g t (pc + 1) L r (zSet M a (.inl (.boolean, n, .inl (upd f i.toNatClampNeg (vp_nar .boolean x))))) rv M2) : zW g t pc L (.int x :: .int i :: .ref a :: r) M rv M2 := by
  refine ⟨kk.1, kk.2.1, fun p e R s m args below meth c H ls locs cells slots Q hF hR hL hl hcc hss hQ => ?_⟩
  obtain ⟨hba, cA, h1, h2, h3⟩ := hR.2.2.2 a _ hM
  refine W.zast hF.1 hF.2.1 h1 (hF.arr h2 n (fun j => .int (f j))) (fun q => by cases q) (by show ¬ (i < 0 ∨ (arrV _ _ _).slots.size ≤ _); rw [arrV_size]; exact hin) rfl rfl hd fun H1 e1 z oq => ?_
  refine kk.2.2 p e R s m args below meth c H1 ls _ cells slots Q hF (hR.set hM z oq ⟨cA, ?_, h2, h3⟩) hL ?_ hcc hss hQ
  · rw [e1, vp_cell_i, vp_cell_i, arrV_store]
    congr 2
    funext q
    by_cases hq : q = i.toNatClampNeg
    · subst hq
      simp [updV, upd, vp_nar]
      try rfl
    · simp [updV, upd, vp_nar, hq]
  · intro q hq
    rcases List.mem_append.mp hq with h | h
    · exact hl q h
    · rw [List.mem_singleton.mp h]; exact hba
theorem z_last {a n : Nat} {f : Nat → Int64} {i : Int32} {x : Int64} (hM : M.1 a = some (.inl (.long, n, .inr (.inl f)))) (hin : vp_in i n) (hd : decode t.2.1 pc = .ok (.lastore, 1)) (kk : zW g t (pc + 1) L r (zSet M a (.inl (.long, n, .inr (.inl (vp_updL f i.toNatClampNeg x))))) rv M2) : zW g t pc L (.long x :: .int i :: .ref a :: r) M rv M2 := by
  refine ⟨kk.1, kk.2.1, fun p e R s m args below meth c H ls locs cells slots Q hF hR hL hl hcc hss hQ => ?_⟩
  obtain ⟨hba, cA, h1, h2, h3⟩ := hR.2.2.2 a _ hM
  refine W.last hF.1 hF.2.1 h1 (hF.arr h2 n (fun j => .long (f j))) (fun q => by cases q) (by show ¬ (i < 0 ∨ (arrV _ _ _).slots.size ≤ _); rw [arrV_size]; exact hin) rfl rfl hd fun H1 e1 z oq => ?_
  refine kk.2.2 p e R s m args below meth c H1 ls _ cells slots Q hF (hR.set hM z oq ⟨cA, ?_, h2, h3⟩) hL ?_ hcc hss hQ
  · rw [e1, vp_cell_l, vp_cell_l, arrV_store]
    congr 2
    funext q
    by_cases hq : q = i.toNatClampNeg
    · subst hq
      simp [updV, vp_updL]
      try rfl
    · simp [updV, vp_updL, hq]
  · intro q hq
    rcases List.mem_append.mp hq with h | h
    · exact hl q h
    · rw [List.mem_singleton.mp h]; exact hba
theorem z_aast (hC : zC g) {a n v : Nat} {E C : String} {ci N : Nat} {T : u_T} {ty : Nat → FieldType} {vs : List Value} {f : Nat → Option Nat} {i : Int32} (hc : zCl ci C T N ty) (hcast : C = E ∨ Cond.castable C E ∈ lw_tbl) (hM : M.1 a = some (.inl (.object E, n, .inr (.inr (.inr (.inr f)))))) (hv : M.1 v = some (.inr (ci, vs))) (hin : vp_in i n) (hd : decode t.2.1 pc = .ok (.aastore, 1))
    (kk : zW g t (pc + 1) L r (zSet M a (.inl (.object E, n, .inr (.inr (.inr (.inr (va_up f i.toNatClampNeg (some v)))))))) rv M2) : zW g t pc L (.ref v :: .int i :: .ref a :: r) M rv M2 := by
  refine ⟨kk.1, kk.2.1, fun p e R s m args below meth c H ls locs cells slots Q hF hR hL hl hcc hss hQ => ?_⟩
  obtain ⟨hba, cA, h1, h2, h3⟩ := hR.2.2.2 a _ hM
  obtain ⟨-, q0, g0, g00, cellV, g1, g2, g3, -⟩ := hR.2.2.2 v _ hv
  have hlt : i.toNatClampNeg < n := Nat.not_le.mp fun q => hin (Or.inr q)
  have h0 : ¬ i < 0 := fun q => hin (Or.inl q)
  have hal := hF.2.2.2.2.2.1.alike
  have hcls := ((hF.K hC).1 ci _ hc.1).2
  obtain ⟨kA, comp, k1, k2, k3, -⟩ := h3.moved hal
  obtain ⟨kE, hkE, -⟩ := Vm.findClass_spec k3
  obtain ⟨kC, hkC, -⟩ := hcls.2
  have hass : s.vm.assignable (g.2.2.2.1 ci) comp = true := by
    rcases hcast with rfl | hw
    · have e1 : g.2.2.2.1 ci = comp := Option.some.inj (hcls.1.symm.trans k3)
      rw [e1]
      first | exact Vm.assignable_refl _ _ | exact Vm.assignable_self _ _ | simp [Vm.assignable]
    · have hz : va_Nw (.castable C E) s := va_Nw.warmC hF.2.2.2.2.2.1 (va_Nw.of rfl (hC.1 _ hw))
      obtain ⟨c0, t1, f1, f2, f3⟩ := Cond.castable_spec (va_Nw.use (A := args) rfl hz)
      cases hcls.1.symm.trans f1
      cases k3.symm.trans f2
      exact f3
  refine W.aast hF.1 hF.2.1 h1 (fun q h => by cases h) (fun h => by cases h) k1 k2 rfl hkE ⟨h0, by show _ < (arrV _ _ _).slots.size; rw [arrV_size]; exact hlt⟩ g1 (fun q h => by rw [g3] at h; cases h) (by rw [g2]; exact hkC) (by rw [g2]; exact hass) rfl rfl hd fun H1 e1 z oq => ?_
  refine kk.2.2 p e R s m args below meth c H1 ls _ cells slots Q hF (hR.set hM z oq ⟨cA, ?_, h2, h3⟩) hL ?_ hcc hss hQ
  · rw [e1, vp_cell_q, vp_cell_q, arrV_store]
    congr 2
    funext q
    by_cases hq : q = i.toNatClampNeg
    · subst hq
      simp [updV, va_up, va_rf]
    · simp [updV, va_up, hq]
  · intro q hq
    rcases List.mem_append.mp hq with h | h
    · exact hl q h
    · rw [List.mem_singleton.mp h]; exact hba
end ZM
end
section
/-! calls: a method's contract over the one memory, and the rows that use it -/
def zRoom (t : zM) (M M2 : zMe) : Room := { frames := t.2.2.2.2.2.1, cells := M2.2.1 - M.2.1, slots := M2.2.2 - M.2.2, locals := t.2.2.2.2.2.2 }
def zPc (g : zG) (av : List Value) (M : zMe) : Array Value → State → Prop := fun v U => v = av.toArray ∧ zR g M U.heap ∧ g.2.1.WarmedH U.vm
def zQc (g : zG) (rv : Option Value) (M2 : zMe) : Array Value → State → Outcome → State → Prop := fun _ _ o T => o = .returned rv ∧ zR g M2 T.heap
def zMet (g : zG) (y : MethodName) (t : zM) (av : List Value) (M : zMe) (rv : Option Value) (M2 : zMe) : Prop := M.2.1 ≤ M2.2.1 ∧ M.2.2 ≤ M2.2.2 ∧ Met g.1 y [.code y t.2.1 t.2.2.1 t.2.2.2.1] (zRoom t M M2) (zPc g av M) (zQc g rv M2) (M2.2.1 - M.2.1) (M2.2.2 - M.2.2) (fun q => g.2.1.heap.size ≤ q)
theorem z_entry {g : zG} {y : MethodName} {t : zM} {av : List Value} {M : zMe} {rv : Option Value} {M2 : zMe} (hy : plainName y.cls = true) (hown : t.1 = y.cls) (hnm : t.2.2.2.2.1 = y.name) (hn : (zE av).length ≤ t.2.2.1) (h : zW g t 0 (zEn0 t.2.2.1 av) [] M rv M2) : zMet g y t av M rv M2 := by
  refine ⟨h.1, h.2.1, ?_⟩
  refine Met.ofW (cc := t.2.1) (maxL := t.2.2.1) (ret := t.2.2.2.1) hy rfl ?_
  intro p e s m args below meth c s₁ B hml hv
  obtain ⟨rfl, hR, hW⟩ := hv
  have hlocks := B.notSynchronized
  have hret := B.returns
  rw [lg_entry_eq]
  refine h.2.2 p e _ s m _ below meth c s.heap _ [] 0 0 _ ⟨B.exec, B.bytes, hml, by rw [hown]; exact findClass_of_methodNamed B.named, by rw [hnm]; exact (name_of_methodNamed B.named B.method).1, hW, Nat.le_refl _, Nat.le_refl _⟩ hR (zL.entry hn) (fun q h => by cases h) (by show 0 + (M2.2.1 - M.2.1) ≤ M2.2.1 - M.2.1; omega) (by show 0 + (M2.2.2 - M.2.2) ≤ M2.2.2 - M.2.2; omega) ?_
  intro pc1 ls1 H1 locs1 cells1 slots1 hR1 hl1 hc1 hs1 hz hr
  refine W.widen (k := M2.2.1 - M.2.1) (n := M2.2.2 - M.2.2) hc1 hs1 ?_
  cases rv with
  | none => exact W.vret B.exec B.bytes (by rw [hret]; exact hr) (fun T ht hW2 => ⟨rfl, by rw [ht]; exact hR1⟩) hl1 hz
  | some v =>
    cases v with
    | int x =>
      obtain ⟨a, ha, hna⟩ := hr
      exact W.zret B.exec B.bytes (by rw [hret]; exact ha) hna (fun T ht hW2 => ⟨rfl, by rw [ht]; exact hR1⟩) hl1 hz
    | long x => exact W.lret B.exec B.bytes (by rw [hret]; exact hr) (fun T ht hW2 => ⟨rfl, by rw [ht]; exact hR1⟩) hl1 hz
    | ref x =>
      obtain ⟨a, ha, hna⟩ := hr
      exact W.aret B.exec B.bytes (by rw [hret]; exact ha) hna (Or.inr ⟨x, rfl⟩) (fun T ht hW2 => ⟨rfl, by rw [ht]; exact hR1⟩) hl1 hz
    | null =>
      obtain ⟨a, ha, hna⟩ := hr
      exact W.aret B.exec B.bytes (by rw [hret]; exact ha) hna (Or.inl rfl) (fun T ht hW2 => ⟨rfl, by rw [ht]; exact hR1⟩) hl1 hz
    | float x => exact hr.elim
    | double x => exact hr.elim
    | retAddr x => exact hr.elim
section ZC
variable {g : zG} {t t2 : zM} {pc n : Nat} {L rest av : List Value} {M M1 M2 : zMe} {rv r1 : Option Value} {y x : MethodName}
theorem zblind (g : zG) (av : List Value) (M : zMe) : FrameBlind (zPc g av M) := fun a U f mk q => ⟨q.1, q.2.1, q.2.2⟩
/-- what a call asks of the tables beside its link: code, class ready, number of arguments -/
def zCd (y : MethodName) (t : zM) (n : Nat) : Prop := Cond.code y t.2.1 t.2.2.1 t.2.2.2.1 ∈ lw_tbl ∧ Cond.initialized y.cls ∈ lw_tbl ∧ (y.cls ≠ "java/lang/invoke/MethodHandle" ∧ y.cls ≠ "java/lang/invoke/VarHandle") ∧ (parseMethodDescriptor y.desc).map (fun d => d.parameters.length) = some n
/-- rooms: frames and locals of the callee in the caller's; what stays on the stack -/
def zFit (t t2 : zM) (rest : List Value) : Prop := t2.2.2.2.2.2.1 + 1 ≤ t.2.2.2.2.2.1 ∧ 8 + (t2.2.2.1 + 11) + t2.2.2.2.2.2.2 ≤ t.2.2.2.2.2.2 ∧ (rest.map fun v => v.category).sum ≤ 8
theorem zcallW {p : Program} {l : Launch} {e : Env} {R : Room} {s : State} {m : MethodId} {args : Array Value} {below : List Frame} {meth : Method} {c : Code} {H : Heap} {locs : List Loc} {cells slots mc ms : Nat} {Q : State → Prop} {g0 : JFrame} {Qa : State → Outcome → State → Prop} {free : Addr → Prop}
    (hr : CallRun p l e R s m args below meth c H locs cells slots mc ms g0 rest Qa free) (kk : ∀ (v : Option Value) (st0 T1 : State) (L1 : List Loc), (∀ q ∈ L1, free q.base) → Qa st0 (.returned v) T1 → W p l e R s m args below meth c T1.heap (locs ++ L1) (cells + mc) (slots + ms) Q { g0 with pc := g0.pc + 3, stack := v.toList ++ rest }) : W p l e R s m args below meth c H locs cells slots Q g0 := by
  intro T hT X
  obtain ⟨v, st0, T1, T2, L1, h0, X1, hL, e1, hq, st⟩ := hr T hT X
  obtain ⟨t2, a1, b1⟩ := kk v st0 T1 L1 hL hq T2 e1 X1
  exact ⟨t2, st t2 a1, b1⟩
theorem zB_of {p : Program} {R : Room} {s : State} {m : MethodId} {meth : Method} {c : Code} (hC : zC g) (hF : zF g t p R s m meth c) (args : Array Value) {k : Nat} (hcd : zCd y t2 k) (hfit : zFit t t2 rest) (hl : Cond.methodLink t.1 n y ∈ lw_tbl) : CallB R s args t.1 n y t2.2.1 t2.2.2.1 t2.2.2.2.1 [.code y t2.2.1 t2.2.2.1 t2.2.2.2.1] (zRoom t2 M M1) (M1.2.1 - M.2.1) (M1.2.2 - M.2.2) k := by
  obtain ⟨h1, h2, h3, h4⟩ := hcd
  refine ⟨rfl, rfl, Nat.le_trans hfit.1 hF.2.2.2.2.2.2.1, Nat.le_trans hfit.2.1 hF.2.2.2.2.2.2.2, fun w hw a' U hW => ?_, List.mem_singleton.mpr rfl, zw_at hC hF h1 rfl args, zw_at hC hF h2 rfl args, h3, fun sig h => ?_, zw_at hC hF hl rfl args⟩
  · rw [List.mem_singleton.mp hw]
    exact word_at hW (Or.inl rfl) (zw_at hC hF h1 rfl args)
  · rw [h] at h4
    exact (Option.some.inj h4).symm
theorem zN_of {p : Program} {R : Room} {s : State} {m : MethodId} {meth : Method} {c : Code} (hC : zC g) (hF : zF g t p R s m meth c) (args : Array Value) {k : Nat} {host : String} (hcd : zCd y t2 k) (hfit : zFit t t2 rest) (hl : Cond.methodLinkNest t.1 n y host ∈ lw_tbl) : va_CN R s args t.1 n y host t2.2.1 t2.2.2.1 t2.2.2.2.1 [.code y t2.2.1 t2.2.2.1 t2.2.2.2.1] (zRoom t2 M M1) (M1.2.1 - M.2.1) (M1.2.2 - M.2.2) k := by
  obtain ⟨h1, h2, h3, h4⟩ := hcd
  refine ⟨⟨rfl, rfl, Nat.le_trans hfit.1 hF.2.2.2.2.2.2.1, Nat.le_trans hfit.2.1 hF.2.2.2.2.2.2.2, fun w hw a' U hW => ?_, List.mem_singleton.mpr rfl⟩, zw_at hC hF h1 rfl args, zw_at hC hF h2 rfl args, h3, fun sig h => ?_, va_Nw.use rfl (va_Nw.warmM hF.2.2.2.2.2.1 (va_Nw.of rfl (hC.1 _ hl)))⟩
  · rw [List.mem_singleton.mp hw]
    exact word_at hW (Or.inl rfl) (zw_at hC hF h1 rfl args)
  · rw [h] at h4
    exact (Option.some.inj h4).symm
theorem zS_of {p : Program} {R : Room} {s : State} {m : MethodId} {meth : Method} {c : Code} {H : Heap} (hF : zF g t p R s m meth c) (hR : zR g M H) : PreS s H (zPc g av M) av := ⟨zblind g av M, fun U hU hW => ⟨rfl, by rw [hU]; exact hR, State.WarmedH.trans hF.2.2.2.2.2.1 hW⟩⟩
theorem zV_of {p : Program} {R : Room} {s : State} {m : MethodId} {meth : Method} {c : Code} {H : Heap} (hC : zC g) (hF : zF g t p R s m meth c) (hR : zR g M H) {b ci N : Nat} {C : String} {T : u_T} {ty : Nat → FieldType} {fs : List Value} (hc : zCl ci C T N ty) (hM : M.1 b = some (.inr (ci, fs))) : PreV s H C b (zPc g (.ref b :: av) M) av := by
  refine ⟨zblind g _ M, ?_, fun U hU hW => ⟨rfl, by rw [hU]; exact hR, State.WarmedH.trans hF.2.2.2.2.2.1 hW⟩⟩
  obtain ⟨-, q0, g0, g00, cellV, g1, g2, g3, -⟩ := hR.2.2.2 b _ hM
  exact ⟨cellV, g1, by rw [g3]; rfl, by rw [g2]; exact ((hF.K hC).1 ci _ hc.1).2.1⟩
/-- behind any call -/
theorem zback {stk : List Value} (hM : zMet g y t2 av M r1 M1) (kk : zW g t (pc + 3) L (r1.toList ++ rest) M1 rv M2)
    (hrun : ∀ (p : Program) (e : Env) (R : Room) (s : State) (m : MethodId) (args : Array Value) (below : List Frame) (meth : Method) (c : Code) (H : Heap) (ls : Array Slot) (locs : List Loc) (cells slots : Nat), zF g t p R s m meth c → zR g M H → zL t.2.2.1 L ls → cells + (M1.2.1 - M.2.1) ≤ R.cells → slots + (M1.2.2 - M.2.2) ≤ R.slots → CallRun p g.1 e R s m args below meth c H locs cells slots (M1.2.1 - M.2.1) (M1.2.2 - M.2.2) (F0 m pc ls stk) rest (zQc g r1 M1 av.toArray) (fun q => g.2.1.heap.size ≤ q)) : zW g t pc L stk M rv M2 := by
  have h1 := hM.1
  have h2 := hM.2.1
  have h3 := kk.1
  have h4 := kk.2.1
  refine ⟨Nat.le_trans h1 h3, Nat.le_trans h2 h4, fun p e R s m args below meth c H ls locs cells slots Q hF hR hL hl hcc hss hQ => ?_⟩
  refine zcallW (hrun p e R s m args below meth c H ls locs cells slots hF hR hL (by omega) (by omega)) (fun v st0 T1 L1 hL1 hq => ?_)
  obtain ⟨hv, hR1⟩ := hq
  cases hv
  refine kk.2.2 p e R s m args below meth c T1.heap ls (locs ++ L1) _ _ Q hF hR1 hL (fun q hq => ?_) (by omega) (by omega) hQ
  rcases List.mem_append.mp hq with h | h
  · exact hl q h
  · exact hL1 q h
theorem z_callS (hC : zC g) (hM : zMet g y t2 av M r1 M1) (hl : Cond.methodLink t.1 n y ∈ lw_tbl) (hs : Cond.static y ∈ lw_tbl) (hcd : zCd y t2 av.length) (hfit : zFit t t2 rest) (hd : decode t.2.1 pc = .ok (.invokestatic n, 3)) (kk : zW g t (pc + 3) L (r1.toList ++ rest) M1 rv M2) : zW g t pc L (av.reverse ++ rest) M rv M2 :=
  zback hM kk (fun p e R s m args below meth c H ls locs cells slots hF hR hL hc1 hc2 => W.runS (Ts := []) ⟨hF.1, hF.2.1, hF.2.2.1, hF.2.2.2.1, fun _ h => by cases h⟩ hM.2.2 ⟨zB_of (rest := rest) hC hF args hcd hfit hl, zw_at hC hF hs rfl args⟩ (zS_of hF hR) rfl rfl hL.1 rfl (lv_room hfit.2.2) hd ⟨hc1, hc2⟩)
theorem z_callSN (hC : zC g) {host : String} (hM : zMet g y t2 av M r1 M1) (hl : Cond.methodLinkNest t.1 n y host ∈ lw_tbl) (hs : Cond.static y ∈ lw_tbl) (hcd : zCd y t2 av.length) (hfit : zFit t t2 rest) (hd : decode t.2.1 pc = .ok (.invokestatic n, 3)) (kk : zW g t (pc + 3) L (r1.toList ++ rest) M1 rv M2) : zW g t pc L (av.reverse ++ rest) M rv M2 :=
  zback hM kk (fun p e R s m args below meth c H ls locs cells slots hF hR hL hc1 hc2 => (va_runSN (Ts := []) ⟨hF.1, hF.2.1, hF.2.2.1, hF.2.2.2.1, fun _ h => by cases h⟩ hM.2.2 ⟨zN_of (rest := rest) hC hF args hcd hfit hl, zw_at hC hF hs rfl args, trivial⟩ (zS_of hF hR) rfl rfl hL.1 rfl (lv_room hfit.2.2) hd ⟨hc1, hc2⟩).run)
theorem z_callI (hC : zC g) {b : Nat} (hM : zMet g y t2 (.ref b :: av) M r1 M1) (hl : Cond.methodLink t.1 n y ∈ lw_tbl) (hi : Cond.instanceMethod y ∈ lw_tbl) (hy : y.name = "<init>") (hret : t2.2.2.2.1 = none) (hcd : zCd y t2 av.length) (hfit : zFit t t2 rest) (hd : decode t.2.1 pc = .ok (.invokespecial n, 3)) (kk : zW g t (pc + 3) L (r1.toList ++ rest) M1 rv M2) : zW g t pc L (av.reverse ++ .ref b :: rest) M rv M2 :=
  zback hM kk (fun p e R s m args below meth c H ls locs cells slots hF hR hL hc1 hc2 => by
    have hMM := hM.2.2
    have hB := zB_of (M := M) (M1 := M1) (rest := rest) hC hF args hcd hfit hl
    rw [hret] at hMM hB
    exact W.runI (Ts := []) ⟨hF.1, hF.2.1, hF.2.2.1, hF.2.2.2.1, fun _ h => by cases h⟩ hMM ⟨hB, hy, zw_at hC hF hi rfl args⟩ (zS_of hF hR) rfl rfl hL.1 rfl (lv_room hfit.2.2) hd ⟨hc1, hc2⟩)
theorem z_callIN (hC : zC g) {b : Nat} {host : String} (hM : zMet g y t2 (.ref b :: av) M r1 M1) (hl : Cond.methodLinkNest t.1 n y host ∈ lw_tbl) (hi : Cond.instanceMethod y ∈ lw_tbl) (hy : y.name = "<init>") (hret : t2.2.2.2.1 = none) (hcd : zCd y t2 av.length) (hfit : zFit t t2 rest) (hd : decode t.2.1 pc = .ok (.invokespecial n, 3)) (kk : zW g t (pc + 3) L (r1.toList ++ rest) M1 rv M2) : zW g t pc L (av.reverse ++ .ref b :: rest) M rv M2 :=
  zback hM kk (fun p e R s m args below meth c H ls locs cells slots hF hR hL hc1 hc2 => by
    have hMM := hM.2.2
    have hB := zN_of (M := M) (M1 := M1) (rest := rest) hC hF args hcd hfit hl
    rw [hret] at hMM hB
    exact (va_runIN (Ts := []) ⟨hF.1, hF.2.1, hF.2.2.1, hF.2.2.2.1, fun _ h => by cases h⟩ hMM ⟨hB, hy, zw_at hC hF hi rfl args⟩ (zS_of hF hR) rfl rfl hL.1 rfl (lv_room hfit.2.2) hd ⟨hc1, hc2⟩).run)
theorem z_callV (hC : zC g) {b ci N : Nat} {C : String} {T : u_T} {ty : Nat → FieldType} {fs : List Value} (hc : zCl ci C T N ty) (hb : M.1 b = some (.inr (ci, fs))) (hM : zMet g y t2 (.ref b :: av) M r1 M1) (hl : Cond.methodLink t.1 n y ∈ lw_tbl) (hi : Cond.instanceMethod y ∈ lw_tbl) (hsel : Cond.selects C y y ∈ lw_tbl) (hcd : zCd y t2 av.length) (hfit : zFit t t2 rest) (hd : decode t.2.1 pc = .ok (.invokevirtual n, 3)) (kk : zW g t (pc + 3) L (r1.toList ++ rest) M1 rv M2) : zW g t pc L (av.reverse ++ .ref b :: rest) M rv M2 :=
  zback hM kk (fun p e R s m args below meth c H ls locs cells slots hF hR hL hc1 hc2 => W.runV (Ts := []) ⟨hF.1, hF.2.1, hF.2.2.1, hF.2.2.2.1, fun _ h => by cases h⟩ hM.2.2 ⟨zB_of (rest := rest) hC hF args hcd hfit hl, zw_at hC hF hi rfl args, zw_at hC hF hsel rfl args⟩ (zV_of hC hF hR hc hb) rfl rfl hL.1 rfl (lv_room hfit.2.2) hd ⟨hc1, hc2⟩)
theorem z_callVN (hC : zC g) {b ci N : Nat} {C host : String} {T : u_T} {ty : Nat → FieldType} {fs : List Value} (hc : zCl ci C T N ty) (hb : M.1 b = some (.inr (ci, fs))) (hM : zMet g y t2 (.ref b :: av) M r1 M1) (hl : Cond.methodLinkNest t.1 n y host ∈ lw_tbl) (hi : Cond.instanceMethod y ∈ lw_tbl) (hsel : Cond.selects C y y ∈ lw_tbl) (hcd : zCd y t2 av.length) (hfit : zFit t t2 rest) (hd : decode t.2.1 pc = .ok (.invokevirtual n, 3)) (kk : zW g t (pc + 3) L (r1.toList ++ rest) M1 rv M2) : zW g t pc L (av.reverse ++ .ref b :: rest) M rv M2 :=
  zback hM kk (fun p e R s m args below meth c H ls locs cells slots hF hR hL hc1 hc2 => (va_runVN (Ts := []) ⟨hF.1, hF.2.1, hF.2.2.1, hF.2.2.2.1, fun _ h => by cases h⟩ hM.2.2 ⟨zN_of (rest := rest) hC hF args hcd hfit hl, zw_at hC hF hi rfl args, zw_at hC hF hsel rfl args⟩ (zV_of hC hF hR hc hb) rfl rfl hL.1 rfl (lv_room hfit.2.2) hd ⟨hc1, hc2⟩).run)
/-- the method that the reference names (x, declared in owner) and the one that the receiver's class selects (y) -/
def zUp (own : String) (n : Nat) (C owner : String) (x y : MethodName) : Prop := Cond.methodLink own n x ∈ lw_tbl ∧ Cond.sameMethod x.cls owner x.name x.desc ∈ lw_tbl ∧ (Cond.declares ⟨owner, x.name, x.desc⟩ ∈ lw_tbl ∨ (Cond.instanceMethod ⟨owner, x.name, x.desc⟩ ∈ lw_tbl ∧ ∃ b0 m0 r0, Cond.code ⟨owner, x.name, x.desc⟩ b0 m0 r0 ∈ lw_tbl)) ∧ Cond.selects C x y ∈ lw_tbl ∧ Cond.instanceMethod y ∈ lw_tbl ∧ (owner ≠ "java/lang/invoke/MethodHandle" ∧ owner ≠ "java/lang/invoke/VarHandle") ∧ x.desc = y.desc
theorem z_callU (hC : zC g) {b ci N : Nat} {C owner : String} {T : u_T} {ty : Nat → FieldType} {fs : List Value} (hc : zCl ci C T N ty) (hb : M.1 b = some (.inr (ci, fs))) (hM : zMet g y t2 (.ref b :: av) M r1 M1) (hu : zUp t.1 n C owner x y) (hcd : zCd y t2 av.length) (hfit : zFit t t2 rest) (hd : decode t.2.1 pc = .ok (.invokevirtual n, 3)) (kk : zW g t (pc + 3) L (r1.toList ++ rest) M1 rv M2) : zW g t pc L (av.reverse ++ .ref b :: rest) M rv M2 :=
  zback hM kk (fun p e R s m args below meth c H ls locs cells slots hF hR hL hc1 hc2 => by
    obtain ⟨u1, u2, u3, u4, u5, u6, u7⟩ := hu
    obtain ⟨h1, h2, h3, h4⟩ := hcd
    have hdec : va_Decl s ⟨owner, x.name, x.desc⟩ := by
      rcases u3 with h | ⟨h, b0, m0, r0, h'⟩
      · exact va_Decl.abs (va_Nw.warmD hF.2.2.2.2.2.1 (va_Nw.of rfl (hC.1 _ h)))
      · exact va_Decl.of (zw_at hC hF h rfl args) (zw_at hC hF h' rfl args)
    refine (va_runU (Ts := []) (C := C) (owner := owner) (x := x) (n := av.length) (bytes := t2.2.1) (maxL := t2.2.2.1) (ret := t2.2.2.2.1) ⟨hF.1, hF.2.1, hF.2.2.1, hF.2.2.2.1, fun _ h => by cases h⟩ hM.2.2 ⟨⟨rfl, rfl, Nat.le_trans hfit.1 hF.2.2.2.2.2.2.1, Nat.le_trans hfit.2.1 hF.2.2.2.2.2.2.2, fun w hw a' U hW => ?_, List.mem_singleton.mpr rfl⟩, zw_at hC hF h1 rfl args, zw_at hC hF h2 rfl args, u6, fun sig h => ?_, zw_at hC hF u1 rfl args, zw_at hC hF u2 rfl args, hdec, zw_at hC hF u4 rfl args, zw_at hC hF u5 rfl args⟩ (zV_of hC hF hR hc hb) rfl rfl hL.1 rfl (lv_room hfit.2.2) hd ⟨hc1, hc2⟩).run
    · rw [List.mem_singleton.mp hw]
      exact word_at hW (Or.inl rfl) (zw_at hC hF h1 rfl args)
    · rw [u7] at h
      rw [h] at h4
      exact (Option.some.inj h4).symm)
end ZC
end
section
theorem znn {z : Int32} (hz : ¬ z < 0) : z.toInt = (z.toNatClampNeg : Int) := by
  have h0 : (0 : Int) ≤ z.toInt := by simpa using Int32.le_iff_toInt_le.mp (Int32.not_lt.mp hz)
  show z.toInt = ((z.toInt.toNat : Nat) : Int)
  omega
/-- arraycopy between long arrays: the destination's cell alone changes -/
theorem zcopyl {p : Program} {l : Launch} {e : Env} {R : Room} {s : State} {m : MethodId} {args : Array Value} {below : List Frame} {meth : Method} {c : Code} {H : Heap} {locs : List Loc} {cells slots : Nat} {Q : State → Prop} {cc : ByteArray} {pc : Nat} {ls : Array Slot} {rest : List Value} {a : Nat} (hexec : p.tables.exec = Jvm.exec) (hb : c.code = cc) (hml : c.maxLocals = ls.size) {own : String} {index : Nat} (hown : s.vm.findClass own = some m.cls) (hlink : (Cond.methodLink own index arraycopyName).before args s = true) (hnat : (Cond.native arraycopyName).before args s = true) (hstat : (Cond.static arraycopyName).before args s = true) (hini : (Cond.initialized "java/lang/System").before args s = true)
    {a0 : Nat} {c0 c1 : ClassId} {n0 n1 : Nat} {f g : Nat → Int64} (hc0 : H[a0]? = some (vp_cell c0 (n0, .inr (.inl f)))) (hc1 : H[a]? = some (vp_cell c1 (n1, .inr (.inl g)))) (hA0 : ArrOfT s c0 .long) (hA1 : ArrOfT s c1 .long)
    {sp dp n : Int32} (h1 : ¬ sp < 0) (h2 : ¬ dp < 0) (h3 : ¬ n < 0) (h4 : sp.toNatClampNeg + n.toNatClampNeg ≤ n0) (h5 : dp.toNatClampNeg + n.toNatClampNeg ≤ n1)
    (hfr : 1 ≤ R.frames) (hlo : (rest.map fun v => v.category).sum + (nativeFrameWords "java/lang/System" "arraycopy" 5 + 11) ≤ R.locals) (hdg : decode cc pc = .ok (.invokestatic index, 3))
    (kk : ∀ (H1 : Heap) (L1 : List Loc), H1[a]? = some (vp_cell c1 (n1, .inr (.inl (va_cpy f g sp.toNatClampNeg dp.toNatClampNeg n.toNatClampNeg)))) → H1.size = H.size → (∀ q, q ≠ a → H1[q]? = H[q]?) → (∀ q ∈ L1, q.base = a) → W p l e R s m args below meth c H1 (locs ++ L1) cells slots Q (F0 m (pc + 3) ls rest)) : W p l e R s m args below meth c H locs cells slots Q (F0 m pc ls (.int n :: .int dp :: .ref a :: .int sp :: .ref a0 :: rest)) := by
  intro T hT X
  subst hT
  subst hb
  have s0 : (vp_cell c0 (n0, .inr (.inl f))).slots.size = n0 := arrV_size c0 n0 _
  have s1 : (vp_cell c1 (n1, .inr (.inl g))).slots.size = n1 := arrV_size c1 n1 _
  obtain ⟨-, k0, hk0, d0, hd0⟩ := hA0 n0 (fun j => .long (f j))
  obtain ⟨-, k1, hk1, d1, hd1⟩ := hA1 n1 (fun j => .long (g j))
  have hlo2 : 2 * (F0 m pc ls (.int n :: .int dp :: .ref a :: .int sp :: .ref a0 :: rest)).monitorRoom + (rest.map fun v => v.category).sum + (nativeFrameWords "java/lang/System" "arraycopy" 5 + 11) ≤ R.locals := by
    rw [show (F0 m pc ls (.int n :: .int dp :: .ref a :: .int sp :: .ref a0 :: rest)).monitorRoom = 0 from rfl]
    omega
  obtain ⟨vm2, X2, step⟩ := X.arraycopy hexec hown hlink hnat hstat hini (srcPos := sp) (destPos := dp) (n := n) hc0 hc1 (fun _ z => by cases z) (fun _ z => by cases z) (fun z => by cases z) (fun z => by cases z) hk0 hk1 hd0 hd1 rfl h1 h2 h3
    (by rw [znn h1, znn h3, s0]; omega) (by rw [znn h2, znn h3, s1]; omega)
    (fun vm1 _ i hi => by
      have ev : (vp_cell c0 (n0, .inr (.inl f))).slots.getD (sp.toNatClampNeg + i) .null = .long (f (sp.toNatClampNeg + i)) := by
        rw [Array.getD_eq_getD_getElem?, vp_cell_l, arrV_read c0 (fun j => .long (f j)) (show sp.toNatClampNeg + i < n0 by omega)]
        rfl
      rw [ev]
      exact ⟨rfl, trivial⟩)
    (g := F0 m pc ls (.int n :: .int dp :: .ref a :: .int sp :: .ref a0 :: rest)) rfl hml.symm (rest := rest) rfl hdg hfr hlo2
  have ec : copied (vp_cell c0 (n0, .inr (.inl f))) (vp_cell c1 (n1, .inr (.inl g))) sp dp n = vp_cell c1 (n1, .inr (.inl (va_cpy f g sp.toNatClampNeg dp.toNatClampNeg n.toNatClampNeg))) := va_copied (fun z => .long z) c0 c1 f g h4
  rw [ec] at X2 step
  have hlt : a < T.heap.size := (Array.getElem?_eq_some_iff.mp hc1).1
  obtain ⟨t2, a1, b1⟩ := kk (T.heap.setIfInBounds a (vp_cell c1 (n1, .inr (.inl (va_cpy f g sp.toNatClampNeg dp.toNatClampNeg n.toNatClampNeg))))) _ (by simp [Array.getElem?_setIfInBounds, hlt]) (by simp) (fun q hq => by simp [Array.getElem?_setIfInBounds, Ne.symm hq]) (fun q hq => by
    obtain ⟨z, -, hz⟩ := List.mem_map.mp hq
    rw [← hz]) _ rfl X2
  exact ⟨t2, step t2 a1, b1⟩
/-! functions over the memory, as the bytecode does it: none where the machine would not go on as we walk it -/
def zlet {α β : Type} (x : α) (f : α → β) : β := f x
theorem zlet_use {α β : Type} {x y : α} {f : α → Option β} {q : β} (h : zlet x f = some q) (e : y = x) : f y = some q := by subst e; exact h
theorem zbind {α β : Type} {x : Option α} {f : α → Option β} {q : β} (h : x.bind f = some q) : ∃ y, x = some y ∧ f y = some q := Option.bind_eq_some_iff.mp h
theorem zift {α : Type} {c : Prop} [Decidable c] {a b : Option α} {q : α} (h : (if c then a else b) = some q) (hc : c) : a = some q := by rw [if_pos hc] at h; exact h
theorem zife {α : Type} {c : Prop} [Decidable c] {a b : Option α} {q : α} (h : (if c then a else b) = some q) (hc : ¬ c) : b = some q := by rw [if_neg hc] at h; exact h
theorem zifs {α : Type} {c : Prop} [Decidable c] {a : Option α} {q : α} (h : (if c then a else none) = some q) : c ∧ a = some q := by
  by_cases hc : c
  · exact ⟨hc, zift h hc⟩
  · rw [if_neg hc] at h; cases h
def zcase {β : Type} (x : Option Nat) (A : β) (f : Nat → β) : β := match x with
  | none => A
  | some a => f a
theorem zcaseN {β : Type} {x : Option Nat} {A : Option β} {f : Nat → Option β} {q : β} (h : zcase x A f = some q) (e : x = none) : A = some q := by subst e; exact h
theorem zcaseS {β : Type} {x : Option Nat} {A : Option β} {f : Nat → Option β} {q : β} {a : Nat} (h : zcase x A f = some q) (e : x = some a) : f a = some q := by subst e; exact h
theorem zon (x : Option Nat) : x = none ∨ ∃ a, x = some a := by cases x with | none => exact Or.inl rfl | some a => exact Or.inr ⟨a, rfl⟩
theorem zopt {β : Type} {x : Option Nat} {f : Nat → Option β} {q : β} (h : zcase x none f = some q) : ∃ a, x = some a ∧ f a = some q := by
  cases x with
  | none => cases h
  | some a => exact ⟨a, rfl, h⟩
def zfu : Nat := 1000000
def zFs (own : String) (n : Nat) (cs : List Nat) (k : Nat) : Prop := ∀ ci ∈ cs, ∃ C T N ty, zCl ci C T N ty ∧ k < N ∧ zFl own n T k
def zFp (own : String) (n : Nat) (cs : List Nat) (k : Nat) (ft : FieldType) (nm : String) : Prop := ∀ ci ∈ cs, ∃ C T N ty, zCl ci C T N ty ∧ k < N ∧ zFl own n T k ∧ ty k = ft ∧ ((T k).2.2.2 = false ∨ (nm = "<init>" ∧ (T k).2.2.2 = true ∧ (T k).1 = own))
/-- field k of the object at a, whose class is one of cs -/
def zg (M : zMe) (a : Nat) (cs : List Nat) (k : Nat) : Option Value := match M.1 a with
  | some (.inr (ci, fs)) => if ci ∈ cs then fs[k]? else none
  | _ => none
def zgI (M : zMe) (a : Nat) (cs : List Nat) (k : Nat) : Option Int32 := match zg M a cs k with
  | some (.int x) => some x
  | _ => none
def zgL (M : zMe) (a : Nat) (cs : List Nat) (k : Nat) : Option Int64 := match zg M a cs k with
  | some (.long x) => some x
  | _ => none
def zgN (M : zMe) (a : Nat) (cs : List Nat) (k : Nat) : Option Nat := match zg M a cs k with
  | some (.ref x) => some x
  | _ => none
theorem zg_some {M : zMe} {a : Nat} {cs : List Nat} {k : Nat} {v : Value} (h : zg M a cs k = some v) : ∃ ci fs, ci ∈ cs ∧ M.1 a = some (.inr (ci, fs)) ∧ fs[k]? = some v := by
  unfold zg at h
  split at h
  next ci fs e =>
    obtain ⟨h1, h2⟩ := zifs h
    exact ⟨ci, fs, h1, e, h2⟩
  next => cases h
theorem zgI_some {M : zMe} {a : Nat} {cs : List Nat} {k : Nat} {x : Int32} (h : zgI M a cs k = some x) : zg M a cs k = some (.int x) := by
  unfold zgI at h
  split at h
  next y e => cases h; exact e
  next => cases h
theorem zgL_some {M : zMe} {a : Nat} {cs : List Nat} {k : Nat} {x : Int64} (h : zgL M a cs k = some x) : zg M a cs k = some (.long x) := by
  unfold zgL at h
  split at h
  next y e => cases h; exact e
  next => cases h
theorem zgN_some {M : zMe} {a : Nat} {cs : List Nat} {k : Nat} {x : Nat} (h : zgN M a cs k = some x) : zg M a cs k = some (.ref x) := by
  unfold zgN at h
  split at h
  next y e => cases h; exact e
  next => cases h
def zp (M : zMe) (a : Nat) (cs : List Nat) (k : Nat) (v : Value) : Option zMe := match M.1 a with
  | some (.inr (ci, fs)) => if ci ∈ cs then some (zSet M a (.inr (ci, fs.set k v))) else none
  | _ => none
theorem zp_some {M M1 : zMe} {a : Nat} {cs : List Nat} {k : Nat} {v : Value} (h : zp M a cs k v = some M1) : ∃ ci fs, ci ∈ cs ∧ M.1 a = some (.inr (ci, fs)) ∧ M1 = zSet M a (.inr (ci, fs.set k v)) := by
  unfold zp at h
  split at h
  next ci fs e =>
    obtain ⟨h1, h2⟩ := zifs h
    exact ⟨ci, fs, h1, e, (Option.some.inj h2).symm⟩
  next => cases h
def zpI (M : zMe) (a : Nat) (cs : List Nat) (k : Nat) (x : Int32) : Option zMe := zp M a cs k (.int x)
def zpZ (M : zMe) (a : Nat) (cs : List Nat) (k : Nat) (x : Int32) : Option zMe := if x = 0 ∨ x = 1 then zp M a cs k (.int x) else none
def zpL (M : zMe) (a : Nat) (cs : List Nat) (k : Nat) (x : Int64) : Option zMe := zp M a cs k (.long x)
def zpR (M : zMe) (a : Nat) (cs : List Nat) (k : Nat) (x : Option Nat) : Option zMe := zp M a cs k (va_rf x)
theorem zbo {x : Int32} (h : x = 0 ∨ x = 1) : narrow .boolean (.int x) = .int x := by rcases h with rfl | rfl <;> rfl
theorem zbf {x : Int32} (h : x = 0 ∨ x = 1) : fits .boolean (.int x) = true := by rcases h with rfl | rfl <;> rfl
section ZP
variable {g : zG} {t : zM} {pc n : Nat} {L r : List Value} {M M1 M2 : zMe} {rv : Option Value} {a k : Nat} {cs : List Nat}
theorem z_g (hC : zC g) (hf : zFs t.1 n cs k) {v : Value} (h : zg M a cs k = some v) (hd : decode t.2.1 pc = .ok (.getfield n, 3)) (kk : zW g t (pc + 3) L (v :: r) M rv M2) : zW g t pc L (.ref a :: r) M rv M2 := by
  obtain ⟨ci, fs, h1, h2, h3⟩ := zg_some h
  obtain ⟨C, T, N, ty, f1, f2, f3⟩ := hf ci h1
  exact z_getf hC f1 k f2 f3 h2 h3 hd kk
theorem z_gI (hC : zC g) (hf : zFs t.1 n cs k) {x : Int32} (h : zgI M a cs k = some x) (hd : decode t.2.1 pc = .ok (.getfield n, 3)) (kk : zW g t (pc + 3) L (.int x :: r) M rv M2) : zW g t pc L (.ref a :: r) M rv M2 := z_g hC hf (zgI_some h) hd kk
theorem z_gL (hC : zC g) (hf : zFs t.1 n cs k) {x : Int64} (h : zgL M a cs k = some x) (hd : decode t.2.1 pc = .ok (.getfield n, 3)) (kk : zW g t (pc + 3) L (.long x :: r) M rv M2) : zW g t pc L (.ref a :: r) M rv M2 := z_g hC hf (zgL_some h) hd kk
theorem z_gN (hC : zC g) (hf : zFs t.1 n cs k) {x : Nat} (h : zgN M a cs k = some x) (hd : decode t.2.1 pc = .ok (.getfield n, 3)) (kk : zW g t (pc + 3) L (.ref x :: r) M rv M2) : zW g t pc L (.ref a :: r) M rv M2 := z_g hC hf (zgN_some h) hd kk
theorem z_p (hC : zC g) {ft : FieldType} (hf : zFp t.1 n cs k ft t.2.2.2.2.1) {v : Value} (hn : narrow ft v = v) (hft : fits ft v = true) (h : zp M a cs k v = some M1) (hd : decode t.2.1 pc = .ok (.putfield n, 3)) (kk : zW g t (pc + 3) L r M1 rv M2) : zW g t pc L (v :: .ref a :: r) M rv M2 := by
  obtain ⟨ci, fs, h1, h2, h3⟩ := zp_some h
  obtain ⟨C, T, N, ty, f1, f2, f3, f4, f5⟩ := hf ci h1
  subst h3
  exact z_putf hC f1 k f2 f3 f5 h2 (by rw [f4]; exact hn) (by rw [f4]; exact hft) hd kk
theorem z_pI (hC : zC g) (hf : zFp t.1 n cs k .int t.2.2.2.2.1) {x : Int32} (h : zpI M a cs k x = some M1) (hd : decode t.2.1 pc = .ok (.putfield n, 3)) (kk : zW g t (pc + 3) L r M1 rv M2) : zW g t pc L (.int x :: .ref a :: r) M rv M2 := z_p hC hf rfl rfl h hd kk
theorem z_pL (hC : zC g) (hf : zFp t.1 n cs k .long t.2.2.2.2.1) {x : Int64} (h : zpL M a cs k x = some M1) (hd : decode t.2.1 pc = .ok (.putfield n, 3)) (kk : zW g t (pc + 3) L r M1 rv M2) : zW g t pc L (.long x :: .ref a :: r) M rv M2 := z_p hC hf rfl rfl h hd kk
theorem z_pZ (hC : zC g) (hf : zFp t.1 n cs k .boolean t.2.2.2.2.1) {x : Int32} (h : zpZ M a cs k x = some M1) (hd : decode t.2.1 pc = .ok (.putfield n, 3)) (kk : zW g t (pc + 3) L r M1 rv M2) : zW g t pc L (.int x :: .ref a :: r) M rv M2 := by
  obtain ⟨h1, h2⟩ := zifs h
  exact z_p hC hf (zbo h1) (zbf h1) h2 hd kk
theorem z_pRo (hC : zC g) {C : String} (hf : zFp t.1 n cs k (.object C) t.2.2.2.2.1) {x : Option Nat} (h : zpR M a cs k x = some M1) (hd : decode t.2.1 pc = .ok (.putfield n, 3)) (kk : zW g t (pc + 3) L r M1 rv M2) : zW g t pc L (va_rf x :: .ref a :: r) M rv M2 := z_p hC hf (by cases x <;> rfl) (by cases x <;> rfl) h hd kk
theorem z_pRa (hC : zC g) {u : FieldType} (hf : zFp t.1 n cs k (.array u) t.2.2.2.2.1) {x : Option Nat} (h : zpR M a cs k x = some M1) (hd : decode t.2.1 pc = .ok (.putfield n, 3)) (kk : zW g t (pc + 3) L r M1 rv M2) : zW g t pc L (va_rf x :: .ref a :: r) M rv M2 := z_p hC hf (by cases x <;> rfl) (by cases x <;> rfl) h hd kk
end ZP
def zrI (M : zMe) (a : Nat) (i : Int32) : Option Int32 := match M.1 a with
  | some (.inl (.int, n, .inl f)) => if i < 0 ∨ n ≤ i.toNatClampNeg then none else some (f i.toNatClampNeg)
  | _ => none
theorem zrI_some {M : zMe} {a : Nat} {i : Int32} {x : Int32} (h : zrI M a i = some x) : ∃ n f, M.1 a = some (.inl (.int, n, .inl f)) ∧ vp_in i n ∧ x = f i.toNatClampNeg := by
  unfold zrI at h
  split at h
  next n f e =>
    by_cases hc : i < 0 ∨ n ≤ i.toNatClampNeg
    · rw [if_pos hc] at h; cases h
    · rw [if_neg hc] at h; cases h; exact ⟨n, f, e, hc, rfl⟩
  next => cases h
theorem z_rI {g : zG} {t : zM} {pc : Nat} {L r : List Value} {M M2 : zMe} {rv : Option Value} {a : Nat} {i : Int32} {x : Int32} (h : zrI M a i = some x) (hd : decode t.2.1 pc = .ok (.iaload, 1)) (kk : zW g t (pc + 1) L (.int x :: r) M rv M2) : zW g t pc L (.int i :: .ref a :: r) M rv M2 := by
  obtain ⟨n, f, h1, h2, h3⟩ := zrI_some h
  subst h3
  exact z_iald h1 h2 hd kk
def zwI (M : zMe) (a : Nat) (i : Int32) (x : Int32) : Option zMe := match M.1 a with
  | some (.inl (.int, n, .inl f)) => if i < 0 ∨ n ≤ i.toNatClampNeg then none else some (zSet M a (.inl (.int, n, .inl (upd f i.toNatClampNeg x))))
  | _ => none
theorem z_wI {g : zG} {t : zM} {pc : Nat} {L r : List Value} {M M1 M2 : zMe} {rv : Option Value} {a : Nat} {i : Int32} {x : Int32} (h : zwI M a i x = some M1) (hd : decode t.2.1 pc = .ok (.iastore, 1)) (kk : zW g t (pc + 1) L r M1 rv M2) : zW g t pc L (.int x :: .int i :: .ref a :: r) M rv M2 := by
  unfold zwI at h
  split at h
  next n f e =>
    by_cases hc : i < 0 ∨ n ≤ i.toNatClampNeg
    · rw [if_pos hc] at h; cases h
    · rw [if_neg hc] at h; cases h; exact z_iast e hc hd kk
  next => cases h
def zrB (M : zMe) (a : Nat) (i : Int32) : Option Int32 := match M.1 a with
  | some (.inl (.byte, n, .inl f)) => if i < 0 ∨ n ≤ i.toNatClampNeg then none else some (f i.toNatClampNeg)
  | _ => none
theorem zrB_some {M : zMe} {a : Nat} {i : Int32} {x : Int32} (h : zrB M a i = some x) : ∃ n f, M.1 a = some (.inl (.byte, n, .inl f)) ∧ vp_in i n ∧ x = f i.toNatClampNeg := by
  unfold zrB at h
  split at h
  next n f e =>
    by_cases hc : i < 0 ∨ n ≤ i.toNatClampNeg
    · rw [if_pos hc] at h; cases h
    · rw [if_neg hc] at h; cases h; exact ⟨n, f, e, hc, rfl⟩
  next => cases h
theorem z_rB {g : zG} {t : zM} {pc : Nat} {L r : List Value} {M M2 : zMe} {rv : Option Value} {a : Nat} {i : Int32} {x : Int32} (h : zrB M a i = some x) (hd : decode t.2.1 pc = .ok (.baload, 1)) (kk : zW g t (pc + 1) L (.int x :: r) M rv M2) : zW g t pc L (.int i :: .ref a :: r) M rv M2 := by
  obtain ⟨n, f, h1, h2, h3⟩ := zrB_some h
  subst h3
  exact z_bald h1 h2 hd kk
def zwB (M : zMe) (a : Nat) (i : Int32) (x : Int32) : Option zMe := match M.1 a with
  | some (.inl (.byte, n, .inl f)) => if i < 0 ∨ n ≤ i.toNatClampNeg then none else some (zSet M a (.inl (.byte, n, .inl (upd f i.toNatClampNeg (vp_nar .byte x)))))
  | _ => none
theorem z_wB {g : zG} {t : zM} {pc : Nat} {L r : List Value} {M M1 M2 : zMe} {rv : Option Value} {a : Nat} {i : Int32} {x : Int32} (h : zwB M a i x = some M1) (hd : decode t.2.1 pc = .ok (.bastore, 1)) (kk : zW g t (pc + 1) L r M1 rv M2) : zW g t pc L (.int x :: .int i :: .ref a :: r) M rv M2 := by
  unfold zwB at h
  split at h
  next n f e =>
    by_cases hc : i < 0 ∨ n ≤ i.toNatClampNeg
    · rw [if_pos hc] at h; cases h
    · rw [if_neg hc] at h; cases h; exact z_bast e hc hd kk
  next => cases h
def zrZ (M : zMe) (a : Nat) (i : Int32) : Option Int32 := match M.1 a with
  | some (.inl (.boolean, n, .inl f)) => if i < 0 ∨ n ≤ i.toNatClampNeg then none else some (f i.toNatClampNeg)
  | _ => none
theorem zrZ_some {M : zMe} {a : Nat} {i : Int32} {x : Int32} (h : zrZ M a i = some x) : ∃ n f, M.1 a = some (.inl (.boolean, n, .inl f)) ∧ vp_in i n ∧ x = f i.toNatClampNeg := by
  unfold zrZ at h
  split at h
  next n f e =>
    by_cases hc : i < 0 ∨ n ≤ i.toNatClampNeg
    · rw [if_pos hc] at h; cases h
    · rw [if_neg hc] at h; cases h; exact ⟨n, f, e, hc, rfl⟩
  next => cases h
theorem z_rZ {g : zG} {t : zM} {pc : Nat} {L r : List Value} {M M2 : zMe} {rv : Option Value} {a : Nat} {i : Int32} {x : Int32} (h : zrZ M a i = some x) (hd : decode t.2.1 pc = .ok (.baload, 1)) (kk : zW g t (pc + 1) L (.int x :: r) M rv M2) : zW g t pc L (.int i :: .ref a :: r) M rv M2 := by
  obtain ⟨n, f, h1, h2, h3⟩ := zrZ_some h
  subst h3
  exact z_zald h1 h2 hd kk
def zwZ (M : zMe) (a : Nat) (i : Int32) (x : Int32) : Option zMe := match M.1 a with
  | some (.inl (.boolean, n, .inl f)) => if i < 0 ∨ n ≤ i.toNatClampNeg then none else some (zSet M a (.inl (.boolean, n, .inl (upd f i.toNatClampNeg (vp_nar .boolean x)))))
  | _ => none
theorem z_wZ {g : zG} {t : zM} {pc : Nat} {L r : List Value} {M M1 M2 : zMe} {rv : Option Value} {a : Nat} {i : Int32} {x : Int32} (h : zwZ M a i x = some M1) (hd : decode t.2.1 pc = .ok (.bastore, 1)) (kk : zW g t (pc + 1) L r M1 rv M2) : zW g t pc L (.int x :: .int i :: .ref a :: r) M rv M2 := by
  unfold zwZ at h
  split at h
  next n f e =>
    by_cases hc : i < 0 ∨ n ≤ i.toNatClampNeg
    · rw [if_pos hc] at h; cases h
    · rw [if_neg hc] at h; cases h; exact z_zast e hc hd kk
  next => cases h
def zrL (M : zMe) (a : Nat) (i : Int32) : Option Int64 := match M.1 a with
  | some (.inl (.long, n, .inr (.inl f))) => if i < 0 ∨ n ≤ i.toNatClampNeg then none else some (f i.toNatClampNeg)
  | _ => none
theorem zrL_some {M : zMe} {a : Nat} {i : Int32} {x : Int64} (h : zrL M a i = some x) : ∃ n f, M.1 a = some (.inl (.long, n, .inr (.inl f))) ∧ vp_in i n ∧ x = f i.toNatClampNeg := by
  unfold zrL at h
  split at h
  next n f e =>
    by_cases hc : i < 0 ∨ n ≤ i.toNatClampNeg
    · rw [if_pos hc] at h; cases h
    · rw [if_neg hc] at h; cases h; exact ⟨n, f, e, hc, rfl⟩
  next => cases h
theorem z_rL {g : zG} {t : zM} {pc : Nat} {L r : List Value} {M M2 : zMe} {rv : Option Value} {a : Nat} {i : Int32} {x : Int64} (h : zrL M a i = some x) (hd : decode t.2.1 pc = .ok (.laload, 1)) (kk : zW g t (pc + 1) L (.long x :: r) M rv M2) : zW g t pc L (.int i :: .ref a :: r) M rv M2 := by
  obtain ⟨n, f, h1, h2, h3⟩ := zrL_some h
  subst h3
  exact z_lald h1 h2 hd kk
def zwL (M : zMe) (a : Nat) (i : Int32) (x : Int64) : Option zMe := match M.1 a with
  | some (.inl (.long, n, .inr (.inl f))) => if i < 0 ∨ n ≤ i.toNatClampNeg then none else some (zSet M a (.inl (.long, n, .inr (.inl (vp_updL f i.toNatClampNeg x)))))
  | _ => none
theorem z_wL {g : zG} {t : zM} {pc : Nat} {L r : List Value} {M M1 M2 : zMe} {rv : Option Value} {a : Nat} {i : Int32} {x : Int64} (h : zwL M a i x = some M1) (hd : decode t.2.1 pc = .ok (.lastore, 1)) (kk : zW g t (pc + 1) L r M1 rv M2) : zW g t pc L (.long x :: .int i :: .ref a :: r) M rv M2 := by
  unfold zwL at h
  split at h
  next n f e =>
    by_cases hc : i < 0 ∨ n ≤ i.toNatClampNeg
    · rw [if_pos hc] at h; cases h
    · rw [if_neg hc] at h; cases h; exact z_last e hc hd kk
  next => cases h
def zrR (M : zMe) (a : Nat) (i : Int32) : Option (Option Nat) := match M.1 a with
  | some (.inl (.object _, n, .inr (.inr (.inr (.inr f))))) => if i < 0 ∨ n ≤ i.toNatClampNeg then none else some (f i.toNatClampNeg)
  | _ => none
theorem z_rR {g : zG} {t : zM} {pc : Nat} {L r : List Value} {M M2 : zMe} {rv : Option Value} {a : Nat} {i : Int32} {x : Option Nat} (h : zrR M a i = some x) (hd : decode t.2.1 pc = .ok (.aaload, 1)) (kk : zW g t (pc + 1) L (va_rf x :: r) M rv M2) : zW g t pc L (.int i :: .ref a :: r) M rv M2 := by
  unfold zrR at h
  split at h
  next C n f e =>
    by_cases hc : i < 0 ∨ n ≤ i.toNatClampNeg
    · rw [if_pos hc] at h; cases h
    · rw [if_neg hc] at h; cases h; exact z_aald e hc hd kk
  next => cases h
/-- a reference stored into an array of E: null, or an object of a class of cs -/
def zwR (M : zMe) (a : Nat) (i : Int32) (x : Option Nat) (E : String) (cs : List Nat) : Option zMe := match M.1 a with
  | some (.inl (.object E2, n, .inr (.inr (.inr (.inr f))))) => if i < 0 ∨ n ≤ i.toNatClampNeg then none else if E2 = E then (match x with
    | none => some (zSet M a (.inl (.object E, n, .inr (.inr (.inr (.inr (va_up f i.toNatClampNeg none)))))))
    | some v => match M.1 v with
      | some (.inr (ci, _)) => if ci ∈ cs then some (zSet M a (.inl (.object E, n, .inr (.inr (.inr (.inr (va_up f i.toNatClampNeg (some v)))))))) else none
      | _ => none) else none
  | _ => none
def zCa (E : String) (cs : List Nat) : Prop := ∀ ci ∈ cs, ∃ C T N ty, zCl ci C T N ty ∧ (C = E ∨ Cond.castable C E ∈ lw_tbl)
theorem z_aastN {g : zG} {t : zM} {pc : Nat} {L r : List Value} {M M2 : zMe} {rv : Option Value} {a n : Nat} {E : String} {f : Nat → Option Nat} {i : Int32} (hM : M.1 a = some (.inl (.object E, n, .inr (.inr (.inr (.inr f)))))) (hin : vp_in i n) (hd : decode t.2.1 pc = .ok (.aastore, 1))
    (kk : zW g t (pc + 1) L r (zSet M a (.inl (.object E, n, .inr (.inr (.inr (.inr (va_up f i.toNatClampNeg none))))))) rv M2) : zW g t pc L (.null :: .int i :: .ref a :: r) M rv M2 := by
  refine ⟨kk.1, kk.2.1, fun p e R s m args below meth c H ls locs cells slots Q hF hR hL hl hcc hss hQ => ?_⟩
  obtain ⟨hba, cA, h1, h2, h3⟩ := hR.2.2.2 a _ hM
  have hlt : i.toNatClampNeg < n := Nat.not_le.mp fun q => hin (Or.inr q)
  have h0 : ¬ i < 0 := fun q => hin (Or.inl q)
  have hal := hF.2.2.2.2.2.1.alike
  obtain ⟨kA, comp, k1, k2, k3, -⟩ := h3.moved hal
  refine va_WaastN hF.1 hF.2.1 h1 (hF.arr h2 n (fun j => va_rf (f j))) (fun h => by cases h) (by show ¬ (i < 0 ∨ (arrV _ _ _).slots.size ≤ _); rw [arrV_size]; exact hin) rfl rfl hd fun H1 e1 z oq => ?_
  refine kk.2.2 p e R s m args below meth c H1 ls _ cells slots Q hF (hR.set hM z oq ⟨cA, ?_, h2, h3⟩) hL ?_ hcc hss hQ
  · rw [e1, vp_cell_q, vp_cell_q, arrV_store]
    congr 2
    funext q
    by_cases hq : q = i.toNatClampNeg
    · subst hq
      simp [updV, va_up, va_rf]
    · simp [updV, va_up, hq]
  · intro q hq
    rcases List.mem_append.mp hq with h | h
    · exact hl q h
    · rw [List.mem_singleton.mp h]; exact hba
theorem z_wR {g : zG} {t : zM} {pc : Nat} {L r : List Value} {M M1 M2 : zMe} {rv : Option Value} {a : Nat} {i : Int32} {x : Option Nat} {E : String} {cs : List Nat} (hC : zC g) (hcs : zCa E cs) (h : zwR M a i x E cs = some M1) (hd : decode t.2.1 pc = .ok (.aastore, 1)) (kk : zW g t (pc + 1) L r M1 rv M2) : zW g t pc L (va_rf x :: .int i :: .ref a :: r) M rv M2 := by
  unfold zwR at h
  split at h
  next E2 n f e =>
    by_cases hc : i < 0 ∨ n ≤ i.toNatClampNeg
    · rw [if_pos hc] at h; cases h
    · rw [if_neg hc] at h
      obtain ⟨hE, h⟩ := zifs h
      subst hE
      cases x with
      | none => cases h; exact z_aastN e hc hd kk
      | some v =>
        simp only at h
        split at h
        next ci fs e2 =>
          obtain ⟨h1, h⟩ := zifs h
          cases h
          obtain ⟨C, T, N, ty, f1, f2⟩ := hcs ci h1
          exact z_aast hC f1 f2 e e2 hc hd kk
        next => cases h
  next => cases h
def zln (M : zMe) (a : Nat) : Option Int32 := match M.1 a with
  | some (.inl (_, A)) => some (Int32.ofNat A.1)
  | _ => none
theorem z_ln {g : zG} {t : zM} {pc : Nat} {L r : List Value} {M M2 : zMe} {rv : Option Value} {a : Nat} {x : Int32} (h : zln M a = some x) (hd : decode t.2.1 pc = .ok (.arraylength, 1)) (kk : zW g t (pc + 1) L (.int x :: r) M rv M2) : zW g t pc L (.ref a :: r) M rv M2 := by
  unfold zln at h
  split at h
  next ty A e => cases h; exact z_alen e hd kk
  next => cases h
def znI (M : zMe) (ty : FieldType) (x : Int32) : Option zMe := if x < 0 ∨ 16777216 < x.toNatClampNeg then none else some (zAdd M (.inl (ty, x.toNatClampNeg, .inl (fun _ => 0))) x.toNatClampNeg)
def znL (M : zMe) (x : Int32) : Option zMe := if x < 0 ∨ 16777216 < x.toNatClampNeg then none else some (zAdd M (.inl (.long, x.toNatClampNeg, .inr (.inl (fun _ => 0)))) x.toNatClampNeg)
def znR (M : zMe) (E : String) (x : Int32) : Option zMe := if x < 0 ∨ 16777216 < x.toNatClampNeg then none else some (zAdd M (.inl (.object E, x.toNatClampNeg, .inr (.inr (.inr (.inr (fun _ => none)))))) x.toNatClampNeg)
theorem zsz {x : Int32} {α : Type} {A : Option α} {q : α} (h : (if x < 0 ∨ 16777216 < x.toNatClampNeg then none else A) = some q) : ¬ x < 0 ∧ x.toNatClampNeg ≤ 16777216 ∧ A = some q := by
  by_cases hc : x < 0 ∨ 16777216 < x.toNatClampNeg
  · rw [if_pos hc] at h; cases h
  · rw [if_neg hc] at h; exact ⟨fun a => hc (Or.inl a), by have : ¬ 16777216 < x.toNatClampNeg := fun a => hc (Or.inr a); omega, h⟩
section ZN
variable {g : zG} {t : zM} {pc n : Nat} {L r : List Value} {M M1 M2 : zMe} {rv : Option Value} {x : Int32}
theorem z_nI (hC : zC g) {at0 : ArrayType} {ty : FieldType} (hty : newarray.typeOf at0 = ty) (hdv : defaultValue ty = .int 0) (hb : componentBytes ty ≤ 8) (hw : Cond.arrayClass ty ∈ lw_tbl) (h : znI M ty x = some M1) (hd : decode t.2.1 pc = .ok (.newarray at0, 2)) (kk : zW g t (pc + 2) L (.ref M.2.1 :: r) M1 rv M2) : zW g t pc L (.int x :: r) M rv M2 := by
  obtain ⟨h1, h2, h3⟩ := zsz h
  cases h3
  exact z_newa hC hty hw (a0 := (x.toNatClampNeg, .inl (fun _ => 0))) (fun cA => by rw [hdv]; rfl) h1 rfl (by show x.toNatClampNeg * componentBytes ty ≤ 536870912; have := Nat.mul_le_mul h2 hb; omega) hd kk
theorem z_nL (hC : zC g) (hw : Cond.arrayClass .long ∈ lw_tbl) (h : znL M x = some M1) (hd : decode t.2.1 pc = .ok (.newarray .long, 2)) (kk : zW g t (pc + 2) L (.ref M.2.1 :: r) M1 rv M2) : zW g t pc L (.int x :: r) M rv M2 := by
  obtain ⟨h1, h2, h3⟩ := zsz h
  cases h3
  exact z_newa hC (ty := .long) rfl hw (a0 := (x.toNatClampNeg, .inr (.inl (fun _ => 0)))) (fun cA => rfl) h1 rfl (by show x.toNatClampNeg * 8 ≤ 536870912; omega) hd kk
theorem z_nR (hC : zC g) {E : String} (hw : Cond.classLink t.1 n E ∈ lw_tbl) (hw1 : Cond.arrayOver (.object E) ∈ lw_tbl) (h : znR M E x = some M1) (hd : decode t.2.1 pc = .ok (.anewarray n, 3)) (kk : zW g t (pc + 3) L (.ref M.2.1 :: r) M1 rv M2) : zW g t pc L (.int x :: r) M rv M2 := by
  obtain ⟨h1, h2, h3⟩ := zsz h
  cases h3
  exact z_newq hC hw hw1 h1 rfl (by omega) hd kk
theorem z_nO (hC : zC g) {ci : Nat} {C : String} {T : u_T} {N : Nat} {ty : Nat → FieldType} (hc : zCl ci C T N ty) {fs : List Value} (hw : Cond.classLink t.1 n C ∈ lw_tbl) (hw1 : Cond.instantiable C N ∈ lw_tbl) (hw2 : Cond.initialized C ∈ lw_tbl) (hlen : N = fs.length) (hfs : ∀ j, j < N → defaultValue (ty j) = vp_V fs j) (h : M1 = zAdd M (.inr (ci, fs)) N) (hd : decode t.2.1 pc = .ok (.new n, 3))
    (kk : zW g t (pc + 3) L (.ref M.2.1 :: r) M1 rv M2) : zW g t pc L r M rv M2 := by
  subst h
  exact z_new hC hc hw hw1 hw2 hlen hfs hd kk
/-- System.arraycopy of longs -/
def zcp (M : zMe) (a0 : Nat) (sp : Int32) (a : Nat) (dp : Int32) (x : Int32) : Option zMe := match M.1 a0, M.1 a with
  | some (.inl (.long, n0, .inr (.inl f))), some (.inl (.long, n1, .inr (.inl h))) => if sp < 0 ∨ dp < 0 ∨ x < 0 ∨ n0 < sp.toNatClampNeg + x.toNatClampNeg ∨ n1 < dp.toNatClampNeg + x.toNatClampNeg then none else some (zSet M a (.inl (.long, n1, .inr (.inl (va_cpy f h sp.toNatClampNeg dp.toNatClampNeg x.toNatClampNeg)))))
  | _, _ => none
theorem z_cp (hC : zC g) {a0 a : Nat} {sp dp : Int32} (hw : Cond.methodLink t.1 n arraycopyName ∈ lw_tbl) (hw1 : Cond.native arraycopyName ∈ lw_tbl) (hw2 : Cond.static arraycopyName ∈ lw_tbl) (hw3 : Cond.initialized "java/lang/System" ∈ lw_tbl) (hfr : 1 ≤ t.2.2.2.2.2.1) (hlo : (r.map fun v => v.category).sum + (nativeFrameWords "java/lang/System" "arraycopy" 5 + 11) ≤ t.2.2.2.2.2.2) (h : zcp M a0 sp a dp x = some M1) (hd : decode t.2.1 pc = .ok (.invokestatic n, 3)) (kk : zW g t (pc + 3) L r M1 rv M2) : zW g t pc L (.int x :: .int dp :: .ref a :: .int sp :: .ref a0 :: r) M rv M2 := by
  unfold zcp at h
  split at h
  next n0 f n1 h1 e0 e1 =>
    by_cases hc : sp < 0 ∨ dp < 0 ∨ x < 0 ∨ n0 < sp.toNatClampNeg + x.toNatClampNeg ∨ n1 < dp.toNatClampNeg + x.toNatClampNeg
    · rw [if_pos hc] at h; cases h
    · rw [if_neg hc] at h
      cases h
      refine ⟨kk.1, kk.2.1, fun p e R s m args below meth c H ls locs cells slots Q hF hR hL hl hcc hss hQ => ?_⟩
      obtain ⟨-, c0, q1, q2, q3⟩ := hR.2.2.2 a0 _ e0
      obtain ⟨hba, c1, r1, r2, r3⟩ := hR.2.2.2 a _ e1
      refine zcopyl hF.1 hF.2.1 (by rw [hF.2.2.1]; exact hL.1.symm) hF.2.2.2.1 (zw_at hC hF hw rfl args) (zw_at hC hF hw1 rfl args) (zw_at hC hF hw2 rfl args) (zw_at hC hF hw3 rfl args) q1 r1 (hF.arr q2) (hF.arr r2) (fun z => hc (Or.inl z)) (fun z => hc (Or.inr (Or.inl z))) (fun z => hc (Or.inr (Or.inr (Or.inl z)))) (by have : ¬ n0 < sp.toNatClampNeg + x.toNatClampNeg := fun z => hc (Or.inr (Or.inr (Or.inr (Or.inl z)))); omega) (by have : ¬ n1 < dp.toNatClampNeg + x.toNatClampNeg := fun z => hc (Or.inr (Or.inr (Or.inr (Or.inr z)))); omega) (Nat.le_trans hfr hF.2.2.2.2.2.2.1) (Nat.le_trans hlo hF.2.2.2.2.2.2.2) hd fun H1 L1 z1 z2 z3 z4 => ?_
      refine kk.2.2 p e R s m args below meth c H1 ls _ cells slots Q hF (hR.set e1 z2 z3 ⟨c1, z1, r2, r3⟩) hL ?_ hcc hss hQ
      intro q hq
      rcases List.mem_append.mp hq with h | h
      · exact hl q h
      · rw [z4 q h]; exact hba
  next => cases h
end ZN
end
