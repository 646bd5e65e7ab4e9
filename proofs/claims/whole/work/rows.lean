section
-- ===== PART A: goes FIRST, ahead of the names: the tables' words, and 'selects' of the private methods out of them =====
/-- a private method of a class that the tables say can be made, by its rows of tables_1 -/
def lw_okq (q : MethodName × Nat) : Prop := (q.1.cls ≠ "java/lang/invoke/MethodHandle" ∧ q.1.cls ≠ "java/lang/invoke/VarHandle") ∧ Cond.instantiable q.1.cls q.2 ∈ tables_1 ∧ Cond.privateMethod q.1 ∈ tables_1 ∧ Cond.instanceMethod q.1 ∈ tables_1
theorem lw_p0 : lw_okq (⟨"OneWhistle", "refusedBad", "(I)I"⟩, 14) := ⟨⟨by decide +kernel, by decide +kernel⟩, List.mem_of_getElem? (i := 23) (by decide +kernel), List.mem_of_getElem? (i := 222) (by decide +kernel), List.mem_of_getElem? (i := 223) (by decide +kernel)⟩
theorem lw_p1 : lw_okq (⟨"OneWhistle", "refusedFull", "()I"⟩, 14) := ⟨⟨by decide +kernel, by decide +kernel⟩, List.mem_of_getElem? (i := 23) (by decide +kernel), List.mem_of_getElem? (i := 245) (by decide +kernel), List.mem_of_getElem? (i := 246) (by decide +kernel)⟩
theorem lw_p2 : lw_okq (⟨"OneWhistle", "refusedNo", "()I"⟩, 14) := ⟨⟨by decide +kernel, by decide +kernel⟩, List.mem_of_getElem? (i := 23) (by decide +kernel), List.mem_of_getElem? (i := 351) (by decide +kernel), List.mem_of_getElem? (i := 352) (by decide +kernel)⟩
theorem lw_p3 : lw_okq (⟨"OneWhistle", "canPut", "(II)Z"⟩, 14) := ⟨⟨by decide +kernel, by decide +kernel⟩, List.mem_of_getElem? (i := 23) (by decide +kernel), List.mem_of_getElem? (i := 359) (by decide +kernel), List.mem_of_getElem? (i := 360) (by decide +kernel)⟩
theorem lw_p4 : lw_okq (⟨"OneWhistle$Reader", "advance", "()V"⟩, 7) := ⟨⟨by decide +kernel, by decide +kernel⟩, List.mem_of_getElem? (i := 379) (by decide +kernel), List.mem_of_getElem? (i := 415) (by decide +kernel), List.mem_of_getElem? (i := 416) (by decide +kernel)⟩
theorem lw_p5 : lw_okq (⟨"OneWhistle$Reader", "byteAt", "(I)I"⟩, 7) := ⟨⟨by decide +kernel, by decide +kernel⟩, List.mem_of_getElem? (i := 379) (by decide +kernel), List.mem_of_getElem? (i := 419) (by decide +kernel), List.mem_of_getElem? (i := 420) (by decide +kernel)⟩
theorem lw_p6 : lw_okq (⟨"OneWhistle$Reader", "isWord", "(Ljava/lang/String;)Z"⟩, 7) := ⟨⟨by decide +kernel, by decide +kernel⟩, List.mem_of_getElem? (i := 379) (by decide +kernel), List.mem_of_getElem? (i := 427) (by decide +kernel), List.mem_of_getElem? (i := 428) (by decide +kernel)⟩
theorem lw_p7 : lw_okq (⟨"OneWhistle$Reader", "fail", "()V"⟩, 7) := ⟨⟨by decide +kernel, by decide +kernel⟩, List.mem_of_getElem? (i := 379) (by decide +kernel), List.mem_of_getElem? (i := 479) (by decide +kernel), List.mem_of_getElem? (i := 480) (by decide +kernel)⟩
theorem lw_p8 : lw_okq (⟨"OneWhistle$Reader", "takeNumber", "(II)I"⟩, 7) := ⟨⟨by decide +kernel, by decide +kernel⟩, List.mem_of_getElem? (i := 379) (by decide +kernel), List.mem_of_getElem? (i := 483) (by decide +kernel), List.mem_of_getElem? (i := 484) (by decide +kernel)⟩
theorem lw_p9 : lw_okq (⟨"OneWhistle$Reader", "takeMark", "()V"⟩, 7) := ⟨⟨by decide +kernel, by decide +kernel⟩, List.mem_of_getElem? (i := 379) (by decide +kernel), List.mem_of_getElem? (i := 487) (by decide +kernel), List.mem_of_getElem? (i := 488) (by decide +kernel)⟩
theorem lw_p10 : lw_okq (⟨"OneWhistle$Reader", "readItem", "()V"⟩, 7) := ⟨⟨by decide +kernel, by decide +kernel⟩, List.mem_of_getElem? (i := 379) (by decide +kernel), List.mem_of_getElem? (i := 492) (by decide +kernel), List.mem_of_getElem? (i := 493) (by decide +kernel)⟩
theorem lw_p11 : lw_okq (⟨"OneWhistle$Reader", "takePlaceBit", "()I"⟩, 7) := ⟨⟨by decide +kernel, by decide +kernel⟩, List.mem_of_getElem? (i := 379) (by decide +kernel), List.mem_of_getElem? (i := 497) (by decide +kernel), List.mem_of_getElem? (i := 498) (by decide +kernel)⟩
theorem lw_p12 : lw_okq (⟨"OneWhistle$Reader", "readBreath", "()V"⟩, 7) := ⟨⟨by decide +kernel, by decide +kernel⟩, List.mem_of_getElem? (i := 379) (by decide +kernel), List.mem_of_getElem? (i := 504) (by decide +kernel), List.mem_of_getElem? (i := 505) (by decide +kernel)⟩
theorem lw_p13 : lw_okq (⟨"OneWhistle$Reader", "readDog", "()V"⟩, 7) := ⟨⟨by decide +kernel, by decide +kernel⟩, List.mem_of_getElem? (i := 379) (by decide +kernel), List.mem_of_getElem? (i := 510) (by decide +kernel), List.mem_of_getElem? (i := 511) (by decide +kernel)⟩
theorem lw_p14 : lw_okq (⟨"OneWhistle$Reader", "takeRow", "()I"⟩, 7) := ⟨⟨by decide +kernel, by decide +kernel⟩, List.mem_of_getElem? (i := 379) (by decide +kernel), List.mem_of_getElem? (i := 514) (by decide +kernel), List.mem_of_getElem? (i := 515) (by decide +kernel)⟩
theorem lw_p15 : lw_okq (⟨"OneWhistle$Lane", "joinSets", "(I)V"⟩, 4) := ⟨⟨by decide +kernel, by decide +kernel⟩, List.mem_of_getElem? (i := 87) (by decide +kernel), List.mem_of_getElem? (i := 627) (by decide +kernel), List.mem_of_getElem? (i := 628) (by decide +kernel)⟩
def lw_privs_1 : List (MethodName × Nat) := [(⟨"OneWhistle", "refusedBad", "(I)I"⟩, 14), (⟨"OneWhistle", "refusedFull", "()I"⟩, 14), (⟨"OneWhistle", "refusedNo", "()I"⟩, 14), (⟨"OneWhistle", "canPut", "(II)Z"⟩, 14), (⟨"OneWhistle$Reader", "advance", "()V"⟩, 7), (⟨"OneWhistle$Reader", "byteAt", "(I)I"⟩, 7), (⟨"OneWhistle$Reader", "isWord", "(Ljava/lang/String;)Z"⟩, 7), (⟨"OneWhistle$Reader", "fail", "()V"⟩, 7), (⟨"OneWhistle$Reader", "takeNumber", "(II)I"⟩, 7), (⟨"OneWhistle$Reader", "takeMark", "()V"⟩, 7), (⟨"OneWhistle$Reader", "readItem", "()V"⟩, 7), (⟨"OneWhistle$Reader", "takePlaceBit", "()I"⟩, 7), (⟨"OneWhistle$Reader", "readBreath", "()V"⟩, 7), (⟨"OneWhistle$Reader", "readDog", "()V"⟩, 7), (⟨"OneWhistle$Reader", "takeRow", "()I"⟩, 7), (⟨"OneWhistle$Lane", "joinSets", "(I)V"⟩, 4)]
theorem lw_r1 : ∀ q ∈ lw_privs_1, lw_okq q := List.forall_mem_cons.mpr ⟨lw_p0, List.forall_mem_cons.mpr ⟨lw_p1, List.forall_mem_cons.mpr ⟨lw_p2, List.forall_mem_cons.mpr ⟨lw_p3, List.forall_mem_cons.mpr ⟨lw_p4, List.forall_mem_cons.mpr ⟨lw_p5, List.forall_mem_cons.mpr ⟨lw_p6, List.forall_mem_cons.mpr ⟨lw_p7, List.forall_mem_cons.mpr ⟨lw_p8, List.forall_mem_cons.mpr ⟨lw_p9, List.forall_mem_cons.mpr ⟨lw_p10, List.forall_mem_cons.mpr ⟨lw_p11, List.forall_mem_cons.mpr ⟨lw_p12, List.forall_mem_cons.mpr ⟨lw_p13, List.forall_mem_cons.mpr ⟨lw_p14, List.forall_mem_cons.mpr ⟨lw_p15, fun _ h => absurd h List.not_mem_nil⟩⟩⟩⟩⟩⟩⟩⟩⟩⟩⟩⟩⟩⟩⟩⟩
theorem lw_p16 : lw_okq (⟨"OneWhistle$Chase", "offer", "(IIII)V"⟩, 11) := ⟨⟨by decide +kernel, by decide +kernel⟩, List.mem_of_getElem? (i := 80) (by decide +kernel), List.mem_of_getElem? (i := 659) (by decide +kernel), List.mem_of_getElem? (i := 660) (by decide +kernel)⟩
theorem lw_p17 : lw_okq (⟨"OneWhistle$Chase", "keyOf", "(II)I"⟩, 11) := ⟨⟨by decide +kernel, by decide +kernel⟩, List.mem_of_getElem? (i := 80) (by decide +kernel), List.mem_of_getElem? (i := 676) (by decide +kernel), List.mem_of_getElem? (i := 677) (by decide +kernel)⟩
theorem lw_p18 : lw_okq (⟨"OneWhistle$Seen", "slotFor", "(I)I"⟩, 3) := ⟨⟨by decide +kernel, by decide +kernel⟩, List.mem_of_getElem? (i := 108) (by decide +kernel), List.mem_of_getElem? (i := 684) (by decide +kernel), List.mem_of_getElem? (i := 685) (by decide +kernel)⟩
theorem lw_p19 : lw_okq (⟨"OneWhistle$Seen", "isOurs", "(J)Z"⟩, 3) := ⟨⟨by decide +kernel, by decide +kernel⟩, List.mem_of_getElem? (i := 108) (by decide +kernel), List.mem_of_getElem? (i := 689) (by decide +kernel), List.mem_of_getElem? (i := 690) (by decide +kernel)⟩
theorem lw_p20 : lw_okq (⟨"OneWhistle$Seen", "grow", "()V"⟩, 3) := ⟨⟨by decide +kernel, by decide +kernel⟩, List.mem_of_getElem? (i := 108) (by decide +kernel), List.mem_of_getElem? (i := 700) (by decide +kernel), List.mem_of_getElem? (i := 701) (by decide +kernel)⟩
theorem lw_p21 : lw_okq (⟨"OneWhistle$Chase", "keep", "(III)V"⟩, 11) := ⟨⟨by decide +kernel, by decide +kernel⟩, List.mem_of_getElem? (i := 80) (by decide +kernel), List.mem_of_getElem? (i := 705) (by decide +kernel), List.mem_of_getElem? (i := 706) (by decide +kernel)⟩
theorem lw_p22 : lw_okq (⟨"OneWhistle$Chase", "takeLater", "(I)I"⟩, 11) := ⟨⟨by decide +kernel, by decide +kernel⟩, List.mem_of_getElem? (i := 80) (by decide +kernel), List.mem_of_getElem? (i := 724) (by decide +kernel), List.mem_of_getElem? (i := 725) (by decide +kernel)⟩
theorem lw_p23 : lw_okq (⟨"OneWhistle$Chase", "whistleOn", "(IJII)V"⟩, 11) := ⟨⟨by decide +kernel, by decide +kernel⟩, List.mem_of_getElem? (i := 80) (by decide +kernel), List.mem_of_getElem? (i := 739) (by decide +kernel), List.mem_of_getElem? (i := 740) (by decide +kernel)⟩
theorem lw_p24 : lw_okq (⟨"OneWhistle$Chase", "packBehind", "(III)I"⟩, 11) := ⟨⟨by decide +kernel, by decide +kernel⟩, List.mem_of_getElem? (i := 80) (by decide +kernel), List.mem_of_getElem? (i := 747) (by decide +kernel), List.mem_of_getElem? (i := 748) (by decide +kernel)⟩
theorem lw_p25 : lw_okq (⟨"OneWhistle$Lane", "growMeetings", "()Z"⟩, 4) := ⟨⟨by decide +kernel, by decide +kernel⟩, List.mem_of_getElem? (i := 87) (by decide +kernel), List.mem_of_getElem? (i := 780) (by decide +kernel), List.mem_of_getElem? (i := 781) (by decide +kernel)⟩
theorem lw_p26 : lw_okq (⟨"OneWhistle$Teller", "neededBy", "(LOneWhistle$Lane;III)I"⟩, 2) := ⟨⟨by decide +kernel, by decide +kernel⟩, List.mem_of_getElem? (i := 162) (by decide +kernel), List.mem_of_getElem? (i := 808) (by decide +kernel), List.mem_of_getElem? (i := 809) (by decide +kernel)⟩
theorem lw_p27 : lw_okq (⟨"OneWhistle", "origins", "(LOneWhistle$Plain;III)I"⟩, 14) := ⟨⟨by decide +kernel, by decide +kernel⟩, List.mem_of_getElem? (i := 23) (by decide +kernel), List.mem_of_getElem? (i := 834) (by decide +kernel), List.mem_of_getElem? (i := 835) (by decide +kernel)⟩
theorem lw_p28 : lw_okq (⟨"OneWhistle", "soundsSo", "(LOneWhistle$Plain;IIII)Z"⟩, 14) := ⟨⟨by decide +kernel, by decide +kernel⟩, List.mem_of_getElem? (i := 23) (by decide +kernel), List.mem_of_getElem? (i := 838) (by decide +kernel), List.mem_of_getElem? (i := 839) (by decide +kernel)⟩
theorem lw_p29 : lw_okq (⟨"OneWhistle", "drawOne", "(LOneWhistle$Plain;II)V"⟩, 14) := ⟨⟨by decide +kernel, by decide +kernel⟩, List.mem_of_getElem? (i := 23) (by decide +kernel), List.mem_of_getElem? (i := 853) (by decide +kernel), List.mem_of_getElem? (i := 854) (by decide +kernel)⟩
theorem lw_p30 : lw_okq (⟨"OneWhistle", "keepFraction", "(JJ)V"⟩, 14) := ⟨⟨by decide +kernel, by decide +kernel⟩, List.mem_of_getElem? (i := 23) (by decide +kernel), List.mem_of_getElem? (i := 859) (by decide +kernel), List.mem_of_getElem? (i := 860) (by decide +kernel)⟩
theorem lw_p31 : lw_okq (⟨"OneWhistleModel", "bad", "()I"⟩, 21) := ⟨⟨by decide +kernel, by decide +kernel⟩, List.mem_of_getElem? (i := 923) (by decide +kernel), List.mem_of_getElem? (i := 1002) (by decide +kernel), List.mem_of_getElem? (i := 1003) (by decide +kernel)⟩
def lw_privs_2 : List (MethodName × Nat) := [(⟨"OneWhistle$Chase", "offer", "(IIII)V"⟩, 11), (⟨"OneWhistle$Chase", "keyOf", "(II)I"⟩, 11), (⟨"OneWhistle$Seen", "slotFor", "(I)I"⟩, 3), (⟨"OneWhistle$Seen", "isOurs", "(J)Z"⟩, 3), (⟨"OneWhistle$Seen", "grow", "()V"⟩, 3), (⟨"OneWhistle$Chase", "keep", "(III)V"⟩, 11), (⟨"OneWhistle$Chase", "takeLater", "(I)I"⟩, 11), (⟨"OneWhistle$Chase", "whistleOn", "(IJII)V"⟩, 11), (⟨"OneWhistle$Chase", "packBehind", "(III)I"⟩, 11), (⟨"OneWhistle$Lane", "growMeetings", "()Z"⟩, 4), (⟨"OneWhistle$Teller", "neededBy", "(LOneWhistle$Lane;III)I"⟩, 2), (⟨"OneWhistle", "origins", "(LOneWhistle$Plain;III)I"⟩, 14), (⟨"OneWhistle", "soundsSo", "(LOneWhistle$Plain;IIII)Z"⟩, 14), (⟨"OneWhistle", "drawOne", "(LOneWhistle$Plain;II)V"⟩, 14), (⟨"OneWhistle", "keepFraction", "(JJ)V"⟩, 14), (⟨"OneWhistleModel", "bad", "()I"⟩, 21)]
theorem lw_r2 : ∀ q ∈ lw_privs_2, lw_okq q := List.forall_mem_cons.mpr ⟨lw_p16, List.forall_mem_cons.mpr ⟨lw_p17, List.forall_mem_cons.mpr ⟨lw_p18, List.forall_mem_cons.mpr ⟨lw_p19, List.forall_mem_cons.mpr ⟨lw_p20, List.forall_mem_cons.mpr ⟨lw_p21, List.forall_mem_cons.mpr ⟨lw_p22, List.forall_mem_cons.mpr ⟨lw_p23, List.forall_mem_cons.mpr ⟨lw_p24, List.forall_mem_cons.mpr ⟨lw_p25, List.forall_mem_cons.mpr ⟨lw_p26, List.forall_mem_cons.mpr ⟨lw_p27, List.forall_mem_cons.mpr ⟨lw_p28, List.forall_mem_cons.mpr ⟨lw_p29, List.forall_mem_cons.mpr ⟨lw_p30, List.forall_mem_cons.mpr ⟨lw_p31, fun _ h => absurd h List.not_mem_nil⟩⟩⟩⟩⟩⟩⟩⟩⟩⟩⟩⟩⟩⟩⟩⟩
theorem lw_p32 : lw_okq (⟨"OneWhistleModel", "refuses", "(II)I"⟩, 21) := ⟨⟨by decide +kernel, by decide +kernel⟩, List.mem_of_getElem? (i := 923) (by decide +kernel), List.mem_of_getElem? (i := 1006) (by decide +kernel), List.mem_of_getElem? (i := 1007) (by decide +kernel)⟩
theorem lw_p33 : lw_okq (⟨"OneWhistleModel", "isRow", "(I)Z"⟩, 21) := ⟨⟨by decide +kernel, by decide +kernel⟩, List.mem_of_getElem? (i := 923) (by decide +kernel), List.mem_of_getElem? (i := 1014) (by decide +kernel), List.mem_of_getElem? (i := 1015) (by decide +kernel)⟩
theorem lw_p34 : lw_okq (⟨"OneWhistleModel", "comes", "(IIIIII)I"⟩, 21) := ⟨⟨by decide +kernel, by decide +kernel⟩, List.mem_of_getElem? (i := 923) (by decide +kernel), List.mem_of_getElem? (i := 1018) (by decide +kernel), List.mem_of_getElem? (i := 1019) (by decide +kernel)⟩
theorem lw_p35 : lw_okq (⟨"OneWhistleModel", "isPlace", "(I)Z"⟩, 21) := ⟨⟨by decide +kernel, by decide +kernel⟩, List.mem_of_getElem? (i := 923) (by decide +kernel), List.mem_of_getElem? (i := 1030) (by decide +kernel), List.mem_of_getElem? (i := 1031) (by decide +kernel)⟩
theorem lw_p36 : lw_okq (⟨"OneWhistleModel", "reads", "()Z"⟩, 21) := ⟨⟨by decide +kernel, by decide +kernel⟩, List.mem_of_getElem? (i := 923) (by decide +kernel), List.mem_of_getElem? (i := 1051) (by decide +kernel), List.mem_of_getElem? (i := 1052) (by decide +kernel)⟩
theorem lw_p37 : lw_okq (⟨"OneWhistleModel", "token", "()V"⟩, 21) := ⟨⟨by decide +kernel, by decide +kernel⟩, List.mem_of_getElem? (i := 923) (by decide +kernel), List.mem_of_getElem? (i := 1055) (by decide +kernel), List.mem_of_getElem? (i := 1056) (by decide +kernel)⟩
theorem lw_p38 : lw_okq (⟨"OneWhistleModel", "byteAt", "(I)I"⟩, 21) := ⟨⟨by decide +kernel, by decide +kernel⟩, List.mem_of_getElem? (i := 923) (by decide +kernel), List.mem_of_getElem? (i := 1059) (by decide +kernel), List.mem_of_getElem? (i := 1060) (by decide +kernel)⟩
theorem lw_p39 : lw_okq (⟨"OneWhistleModel", "verb", "()I"⟩, 21) := ⟨⟨by decide +kernel, by decide +kernel⟩, List.mem_of_getElem? (i := 923) (by decide +kernel), List.mem_of_getElem? (i := 1066) (by decide +kernel), List.mem_of_getElem? (i := 1067) (by decide +kernel)⟩
theorem lw_p40 : lw_okq (⟨"OneWhistleModel", "readsItem", "(I)Z"⟩, 21) := ⟨⟨by decide +kernel, by decide +kernel⟩, List.mem_of_getElem? (i := 923) (by decide +kernel), List.mem_of_getElem? (i := 1077) (by decide +kernel), List.mem_of_getElem? (i := 1078) (by decide +kernel)⟩
theorem lw_p41 : lw_okq (⟨"OneWhistleModel", "readsDog", "()Z"⟩, 21) := ⟨⟨by decide +kernel, by decide +kernel⟩, List.mem_of_getElem? (i := 923) (by decide +kernel), List.mem_of_getElem? (i := 1081) (by decide +kernel), List.mem_of_getElem? (i := 1082) (by decide +kernel)⟩
theorem lw_p42 : lw_okq (⟨"OneWhistleModel", "figure", "(II)I"⟩, 21) := ⟨⟨by decide +kernel, by decide +kernel⟩, List.mem_of_getElem? (i := 923) (by decide +kernel), List.mem_of_getElem? (i := 1085) (by decide +kernel), List.mem_of_getElem? (i := 1086) (by decide +kernel)⟩
theorem lw_p43 : lw_okq (⟨"OneWhistleModel", "row", "()I"⟩, 21) := ⟨⟨by decide +kernel, by decide +kernel⟩, List.mem_of_getElem? (i := 923) (by decide +kernel), List.mem_of_getElem? (i := 1089) (by decide +kernel), List.mem_of_getElem? (i := 1090) (by decide +kernel)⟩
theorem lw_p44 : lw_okq (⟨"OneWhistleModel", "isDog", "(I)Z"⟩, 21) := ⟨⟨by decide +kernel, by decide +kernel⟩, List.mem_of_getElem? (i := 923) (by decide +kernel), List.mem_of_getElem? (i := 1097) (by decide +kernel), List.mem_of_getElem? (i := 1098) (by decide +kernel)⟩
theorem lw_p45 : lw_okq (⟨"OneWhistleModel", "go", "(IIII)I"⟩, 21) := ⟨⟨by decide +kernel, by decide +kernel⟩, List.mem_of_getElem? (i := 923) (by decide +kernel), List.mem_of_getElem? (i := 1101) (by decide +kernel), List.mem_of_getElem? (i := 1102) (by decide +kernel)⟩
theorem lw_p46 : lw_okq (⟨"OneWhistleModel", "step", "(II)I"⟩, 21) := ⟨⟨by decide +kernel, by decide +kernel⟩, List.mem_of_getElem? (i := 923) (by decide +kernel), List.mem_of_getElem? (i := 1105) (by decide +kernel), List.mem_of_getElem? (i := 1106) (by decide +kernel)⟩
theorem lw_p47 : lw_okq (⟨"OneWhistleModel", "isTune", "(II)Z"⟩, 21) := ⟨⟨by decide +kernel, by decide +kernel⟩, List.mem_of_getElem? (i := 923) (by decide +kernel), List.mem_of_getElem? (i := 1113) (by decide +kernel), List.mem_of_getElem? (i := 1114) (by decide +kernel)⟩
def lw_privs_3 : List (MethodName × Nat) := [(⟨"OneWhistleModel", "refuses", "(II)I"⟩, 21), (⟨"OneWhistleModel", "isRow", "(I)Z"⟩, 21), (⟨"OneWhistleModel", "comes", "(IIIIII)I"⟩, 21), (⟨"OneWhistleModel", "isPlace", "(I)Z"⟩, 21), (⟨"OneWhistleModel", "reads", "()Z"⟩, 21), (⟨"OneWhistleModel", "token", "()V"⟩, 21), (⟨"OneWhistleModel", "byteAt", "(I)I"⟩, 21), (⟨"OneWhistleModel", "verb", "()I"⟩, 21), (⟨"OneWhistleModel", "readsItem", "(I)Z"⟩, 21), (⟨"OneWhistleModel", "readsDog", "()Z"⟩, 21), (⟨"OneWhistleModel", "figure", "(II)I"⟩, 21), (⟨"OneWhistleModel", "row", "()I"⟩, 21), (⟨"OneWhistleModel", "isDog", "(I)Z"⟩, 21), (⟨"OneWhistleModel", "go", "(IIII)I"⟩, 21), (⟨"OneWhistleModel", "step", "(II)I"⟩, 21), (⟨"OneWhistleModel", "isTune", "(II)Z"⟩, 21)]
theorem lw_r3 : ∀ q ∈ lw_privs_3, lw_okq q := List.forall_mem_cons.mpr ⟨lw_p32, List.forall_mem_cons.mpr ⟨lw_p33, List.forall_mem_cons.mpr ⟨lw_p34, List.forall_mem_cons.mpr ⟨lw_p35, List.forall_mem_cons.mpr ⟨lw_p36, List.forall_mem_cons.mpr ⟨lw_p37, List.forall_mem_cons.mpr ⟨lw_p38, List.forall_mem_cons.mpr ⟨lw_p39, List.forall_mem_cons.mpr ⟨lw_p40, List.forall_mem_cons.mpr ⟨lw_p41, List.forall_mem_cons.mpr ⟨lw_p42, List.forall_mem_cons.mpr ⟨lw_p43, List.forall_mem_cons.mpr ⟨lw_p44, List.forall_mem_cons.mpr ⟨lw_p45, List.forall_mem_cons.mpr ⟨lw_p46, List.forall_mem_cons.mpr ⟨lw_p47, fun _ h => absurd h List.not_mem_nil⟩⟩⟩⟩⟩⟩⟩⟩⟩⟩⟩⟩⟩⟩⟩⟩
theorem lw_p48 : lw_okq (⟨"OneWhistleModel", "ran", "(IIII)I"⟩, 21) := ⟨⟨by decide +kernel, by decide +kernel⟩, List.mem_of_getElem? (i := 923) (by decide +kernel), List.mem_of_getElem? (i := 1117) (by decide +kernel), List.mem_of_getElem? (i := 1118) (by decide +kernel)⟩
theorem lw_p49 : lw_okq (⟨"OneWhistleModel", "isSet", "(I)Z"⟩, 21) := ⟨⟨by decide +kernel, by decide +kernel⟩, List.mem_of_getElem? (i := 923) (by decide +kernel), List.mem_of_getElem? (i := 1129) (by decide +kernel), List.mem_of_getElem? (i := 1130) (by decide +kernel)⟩
theorem lw_p50 : lw_okq (⟨"OneWhistleModel", "tames", "(IZ)Z"⟩, 21) := ⟨⟨by decide +kernel, by decide +kernel⟩, List.mem_of_getElem? (i := 923) (by decide +kernel), List.mem_of_getElem? (i := 1133) (by decide +kernel), List.mem_of_getElem? (i := 1134) (by decide +kernel)⟩
theorem lw_p51 : lw_okq (⟨"OneWhistleModel", "all", "(II)I"⟩, 21) := ⟨⟨by decide +kernel, by decide +kernel⟩, List.mem_of_getElem? (i := 923) (by decide +kernel), List.mem_of_getElem? (i := 1137) (by decide +kernel), List.mem_of_getElem? (i := 1138) (by decide +kernel)⟩
theorem lw_p52 : lw_okq (⟨"OneWhistleModel", "leads", "(IIZ)Z"⟩, 21) := ⟨⟨by decide +kernel, by decide +kernel⟩, List.mem_of_getElem? (i := 923) (by decide +kernel), List.mem_of_getElem? (i := 1141) (by decide +kernel), List.mem_of_getElem? (i := 1142) (by decide +kernel)⟩
theorem lw_p53 : lw_okq (⟨"OneWhistleModel", "comesTo", "(III)V"⟩, 21) := ⟨⟨by decide +kernel, by decide +kernel⟩, List.mem_of_getElem? (i := 923) (by decide +kernel), List.mem_of_getElem? (i := 1145) (by decide +kernel), List.mem_of_getElem? (i := 1146) (by decide +kernel)⟩
theorem lw_p54 : lw_okq (⟨"OneWhistleModel", "layer", "(IZ)V"⟩, 21) := ⟨⟨by decide +kernel, by decide +kernel⟩, List.mem_of_getElem? (i := 923) (by decide +kernel), List.mem_of_getElem? (i := 1150) (by decide +kernel), List.mem_of_getElem? (i := 1151) (by decide +kernel)⟩
theorem lw_p55 : lw_okq (⟨"OneWhistleModel", "after", "(III)I"⟩, 21) := ⟨⟨by decide +kernel, by decide +kernel⟩, List.mem_of_getElem? (i := 923) (by decide +kernel), List.mem_of_getElem? (i := 1154) (by decide +kernel), List.mem_of_getElem? (i := 1155) (by decide +kernel)⟩
theorem lw_p56 : lw_okq (⟨"OneWhistleModel", "empties", "()V"⟩, 21) := ⟨⟨by decide +kernel, by decide +kernel⟩, List.mem_of_getElem? (i := 923) (by decide +kernel), List.mem_of_getElem? (i := 1158) (by decide +kernel), List.mem_of_getElem? (i := 1159) (by decide +kernel)⟩
theorem lw_p57 : lw_okq (⟨"OneWhistleModel", "tune", "()I"⟩, 21) := ⟨⟨by decide +kernel, by decide +kernel⟩, List.mem_of_getElem? (i := 923) (by decide +kernel), List.mem_of_getElem? (i := 1162) (by decide +kernel), List.mem_of_getElem? (i := 1163) (by decide +kernel)⟩
theorem lw_p58 : lw_okq (⟨"OneWhistleModel", "allTakes", "(I)V"⟩, 21) := ⟨⟨by decide +kernel, by decide +kernel⟩, List.mem_of_getElem? (i := 923) (by decide +kernel), List.mem_of_getElem? (i := 1189) (by decide +kernel), List.mem_of_getElem? (i := 1190) (by decide +kernel)⟩
theorem lw_p59 : lw_okq (⟨"OneWhistleModel", "takesBy", "(IIII)I"⟩, 21) := ⟨⟨by decide +kernel, by decide +kernel⟩, List.mem_of_getElem? (i := 923) (by decide +kernel), List.mem_of_getElem? (i := 1193) (by decide +kernel), List.mem_of_getElem? (i := 1194) (by decide +kernel)⟩
theorem lw_p60 : lw_okq (⟨"OneWhistleModel", "begins", "(IIII)I"⟩, 21) := ⟨⟨by decide +kernel, by decide +kernel⟩, List.mem_of_getElem? (i := 923) (by decide +kernel), List.mem_of_getElem? (i := 1201) (by decide +kernel), List.mem_of_getElem? (i := 1202) (by decide +kernel)⟩
theorem lw_p61 : lw_okq (⟨"OneWhistleModel", "heard", "(IIIII)Z"⟩, 21) := ⟨⟨by decide +kernel, by decide +kernel⟩, List.mem_of_getElem? (i := 923) (by decide +kernel), List.mem_of_getElem? (i := 1205) (by decide +kernel), List.mem_of_getElem? (i := 1206) (by decide +kernel)⟩
theorem lw_p62 : lw_okq (⟨"OneWhistleModel", "counted", "(I)I"⟩, 21) := ⟨⟨by decide +kernel, by decide +kernel⟩, List.mem_of_getElem? (i := 923) (by decide +kernel), List.mem_of_getElem? (i := 1238) (by decide +kernel), List.mem_of_getElem? (i := 1239) (by decide +kernel)⟩
def lw_privs_4 : List (MethodName × Nat) := [(⟨"OneWhistleModel", "ran", "(IIII)I"⟩, 21), (⟨"OneWhistleModel", "isSet", "(I)Z"⟩, 21), (⟨"OneWhistleModel", "tames", "(IZ)Z"⟩, 21), (⟨"OneWhistleModel", "all", "(II)I"⟩, 21), (⟨"OneWhistleModel", "leads", "(IIZ)Z"⟩, 21), (⟨"OneWhistleModel", "comesTo", "(III)V"⟩, 21), (⟨"OneWhistleModel", "layer", "(IZ)V"⟩, 21), (⟨"OneWhistleModel", "after", "(III)I"⟩, 21), (⟨"OneWhistleModel", "empties", "()V"⟩, 21), (⟨"OneWhistleModel", "tune", "()I"⟩, 21), (⟨"OneWhistleModel", "allTakes", "(I)V"⟩, 21), (⟨"OneWhistleModel", "takesBy", "(IIII)I"⟩, 21), (⟨"OneWhistleModel", "begins", "(IIII)I"⟩, 21), (⟨"OneWhistleModel", "heard", "(IIIII)Z"⟩, 21), (⟨"OneWhistleModel", "counted", "(I)I"⟩, 21)]
theorem lw_r4 : ∀ q ∈ lw_privs_4, lw_okq q := List.forall_mem_cons.mpr ⟨lw_p48, List.forall_mem_cons.mpr ⟨lw_p49, List.forall_mem_cons.mpr ⟨lw_p50, List.forall_mem_cons.mpr ⟨lw_p51, List.forall_mem_cons.mpr ⟨lw_p52, List.forall_mem_cons.mpr ⟨lw_p53, List.forall_mem_cons.mpr ⟨lw_p54, List.forall_mem_cons.mpr ⟨lw_p55, List.forall_mem_cons.mpr ⟨lw_p56, List.forall_mem_cons.mpr ⟨lw_p57, List.forall_mem_cons.mpr ⟨lw_p58, List.forall_mem_cons.mpr ⟨lw_p59, List.forall_mem_cons.mpr ⟨lw_p60, List.forall_mem_cons.mpr ⟨lw_p61, List.forall_mem_cons.mpr ⟨lw_p62, fun _ h => absurd h List.not_mem_nil⟩⟩⟩⟩⟩⟩⟩⟩⟩⟩⟩⟩⟩⟩⟩
def lw_privs : List (MethodName × Nat) := lw_privs_1 ++ (lw_privs_2 ++ (lw_privs_3 ++ (lw_privs_4)))
def lw_tbl : List Cond := k2_sels lw_privs ++ tables_1
theorem lw_privs_ok : ∀ q ∈ lw_privs, lw_okq q := by
  show ∀ q ∈ lw_privs_1 ++ (lw_privs_2 ++ (lw_privs_3 ++ (lw_privs_4))), lw_okq q
  exact List.forall_mem_append.mpr ⟨lw_r1, List.forall_mem_append.mpr ⟨lw_r2, List.forall_mem_append.mpr ⟨lw_r3, lw_r4⟩⟩⟩
end
section
def RX0 : String := "OneWhistle$Chase"
def TX0 : u_T := fun k => match k with
  | 0 => ("OneWhistle$Chase", "lanes", "[LOneWhistle$Lane;", true)
  | 1 => ("OneWhistle$Chase", "seen", "LOneWhistle$Seen;", true)
  | 2 => ("OneWhistle$Chase", "laneCount", "I", false)
  | 3 => ("OneWhistle$Chase", "startPack", "I", false)
  | 4 => ("OneWhistle$Chase", "heedsOdd", "Z", false)
  | 5 => ("OneWhistle$Chase", "entries", "[J", false)
  | 6 => ("OneWhistle$Chase", "later", "[J", false)
  | 7 => ("OneWhistle$Chase", "laterCount", "I", false)
  | 8 => ("OneWhistle$Chase", "leastBreath", "I", false)
  | 9 => ("OneWhistle$Chase", "foundBreath", "I", false)
  | _ => ("OneWhistle$Chase", "foundTune", "I", false)
def tyX0 : Nat → FieldType := fun k => match k with
  | 0 => .array (.object "OneWhistle$Lane")
  | 1 => .object "OneWhistle$Seen"
  | 2 => .int
  | 3 => .int
  | 4 => .boolean
  | 5 => .array .long
  | 6 => .array .long
  | 7 => .int
  | 8 => .int
  | 9 => .int
  | _ => .int
abbrev wsX00 : List Cond := u_ws RX0 TX0 11
theorem nmX0 : ∀ a, a < 11 → ∀ b, b < 11 → a ≠ b → (TX0 a).2.1 ≠ (TX0 b).2.1 := by decide +kernel
theorem tyX0_ok : ∀ k, k < 11 → parseFieldDescriptor (TX0 k).2.2.1 = some (tyX0 k) := by decide +kernel
abbrev cX0_init : ByteArray := prog_2_method_1_code
def yX0_init : MethodName := ⟨RX0, "<init>", "()V"⟩
abbrev cX0_follow : ByteArray := prog_2_method_2_code
def yX0_follow : MethodName := ⟨RX0, "follow", "(LOneWhistle$Hill;II)V"⟩
abbrev cX0_addLane : ByteArray := prog_2_method_3_code
def yX0_addLane : MethodName := ⟨RX0, "addLane", "(LOneWhistle$Plain;LOneWhistle$Hill;III)V"⟩
abbrev cX0_seek : ByteArray := prog_2_method_4_code
def yX0_seek : MethodName := ⟨RX0, "seek", "(II)Z"⟩
abbrev cX0_leastBreathFound : ByteArray := prog_2_method_5_code
def yX0_leastBreathFound : MethodName := ⟨RX0, "leastBreathFound", "()I"⟩
abbrev cX0_shortest : ByteArray := prog_2_method_6_code
def yX0_shortest : MethodName := ⟨RX0, "shortest", "(I)I"⟩
abbrev cX0_takeLater : ByteArray := prog_2_method_7_code
def yX0_takeLater : MethodName := ⟨RX0, "takeLater", "(I)I"⟩
abbrev cX0_whistleOn : ByteArray := prog_2_method_8_code
def yX0_whistleOn : MethodName := ⟨RX0, "whistleOn", "(IJII)V"⟩
abbrev cX0_packOf : ByteArray := prog_2_method_9_code
def yX0_packOf : MethodName := ⟨RX0, "packOf", "(J)I"⟩
abbrev cX0_tuneOf : ByteArray := prog_2_method_10_code
def yX0_tuneOf : MethodName := ⟨RX0, "tuneOf", "(J)I"⟩
abbrev cX0_breathOf : ByteArray := prog_2_method_11_code
def yX0_breathOf : MethodName := ⟨RX0, "breathOf", "(J)I"⟩
abbrev cX0_packBehind : ByteArray := prog_2_method_12_code
def yX0_packBehind : MethodName := ⟨RX0, "packBehind", "(III)I"⟩
abbrev cX0_offer : ByteArray := prog_2_method_13_code
def yX0_offer : MethodName := ⟨RX0, "offer", "(IIII)V"⟩
abbrev cX0_keyOf : ByteArray := prog_2_method_14_code
def yX0_keyOf : MethodName := ⟨RX0, "keyOf", "(II)I"⟩
abbrev cX0_keep : ByteArray := prog_2_method_15_code
def yX0_keep : MethodName := ⟨RX0, "keep", "(III)V"⟩
def RX1 : String := "OneWhistle$Deaf"
def TX1 : u_T := fun k => match k with
  | 0 => ("OneWhistle$Plain", "kind", "I", true)
  | 1 => ("OneWhistle$Plain", "row0", "I", true)
  | _ => ("OneWhistle$Plain", "row1", "I", true)
def tyX1 : Nat → FieldType := fun k => match k with
  | 0 => .int
  | 1 => .int
  | _ => .int
abbrev wsX10 : List Cond := u_ws RX1 TX1 3
theorem nmX1 : ∀ a, a < 3 → ∀ b, b < 3 → a ≠ b → (TX1 a).2.1 ≠ (TX1 b).2.1 := by decide +kernel
theorem tyX1_ok : ∀ k, k < 3 → parseFieldDescriptor (TX1 k).2.2.1 = some (tyX1 k) := by decide +kernel
abbrev cX1_init : ByteArray := prog_3_method_1_code
def yX1_init : MethodName := ⟨RX1, "<init>", "(III)V"⟩
abbrev cX1_next : ByteArray := prog_3_method_2_code
def yX1_next : MethodName := ⟨RX1, "next", "(IIII)I"⟩
abbrev cX1_heedsOdd : ByteArray := prog_3_method_3_code
def yX1_heedsOdd : MethodName := ⟨RX1, "heedsOdd", "()Z"⟩
def RX2 : String := "OneWhistle$Hill"
def TX2 : u_T := fun k => match k with
  | 0 => ("OneWhistle$Hill", "placeCount", "I", false)
  | 1 => ("OneWhistle$Hill", "shutBits", "I", false)
  | 2 => ("OneWhistle$Hill", "goal", "I", false)
  | 3 => ("OneWhistle$Hill", "barkBits", "I", false)
  | 4 => ("OneWhistle$Hill", "breath0", "I", false)
  | 5 => ("OneWhistle$Hill", "breath1", "I", false)
  | 6 => ("OneWhistle$Hill", "dogCount", "I", false)
  | _ => ("OneWhistle$Hill", "dogs", "[LOneWhistle$Plain;", true)
def tyX2 : Nat → FieldType := fun k => match k with
  | 0 => .int
  | 1 => .int
  | 2 => .int
  | 3 => .int
  | 4 => .int
  | 5 => .int
  | 6 => .int
  | _ => .array (.object "OneWhistle$Plain")
abbrev wsX20 : List Cond := u_ws RX2 TX2 8
theorem nmX2 : ∀ a, a < 8 → ∀ b, b < 8 → a ≠ b → (TX2 a).2.1 ≠ (TX2 b).2.1 := by decide +kernel
theorem tyX2_ok : ∀ k, k < 8 → parseFieldDescriptor (TX2 k).2.2.1 = some (tyX2 k) := by decide +kernel
abbrev cX2_init : ByteArray := prog_4_method_1_code
def yX2_init : MethodName := ⟨RX2, "<init>", "()V"⟩
abbrev cX2_copy : ByteArray := prog_4_method_2_code
def yX2_copy : MethodName := ⟨RX2, "copy", "()LOneWhistle$Hill;"⟩
abbrev cX2_settle : ByteArray := prog_4_method_3_code
def yX2_settle : MethodName := ⟨RX2, "settle", "(I)V"⟩
abbrev cX2_isPlace : ByteArray := prog_4_method_4_code
def yX2_isPlace : MethodName := ⟨RX2, "isPlace", "(I)Z"⟩
abbrev cX2_allPlaces : ByteArray := prog_4_method_5_code
def yX2_allPlaces : MethodName := ⟨RX2, "allPlaces", "()I"⟩
abbrev cX2_isRow : ByteArray := prog_4_method_6_code
def yX2_isRow : MethodName := ⟨RX2, "isRow", "(I)Z"⟩
abbrev cX2_isFull : ByteArray := prog_4_method_7_code
def yX2_isFull : MethodName := ⟨RX2, "isFull", "()Z"⟩
abbrev cX2_addDog : ByteArray := prog_4_method_8_code
def yX2_addDog : MethodName := ⟨RX2, "addDog", "(LOneWhistle$Plain;)I"⟩
abbrev cX2_dogAt : ByteArray := prog_4_method_9_code
def yX2_dogAt : MethodName := ⟨RX2, "dogAt", "(I)LOneWhistle$Plain;"⟩
abbrev cX2_areDogs : ByteArray := prog_4_method_10_code
def yX2_areDogs : MethodName := ⟨RX2, "areDogs", "(I)Z"⟩
def RX3 : String := "OneWhistle$Keen"
def TX3 : u_T := fun k => match k with
  | 0 => ("OneWhistle$Pup", "then0", "I", true)
  | 1 => ("OneWhistle$Pup", "then1", "I", true)
  | 2 => ("OneWhistle$Pup", "m", "I", true)
  | 3 => ("OneWhistle$Plain", "kind", "I", true)
  | 4 => ("OneWhistle$Plain", "row0", "I", true)
  | _ => ("OneWhistle$Plain", "row1", "I", true)
def tyX3 : Nat → FieldType := fun k => match k with
  | 0 => .int
  | 1 => .int
  | 2 => .int
  | 3 => .int
  | 4 => .int
  | _ => .int
abbrev wsX30 : List Cond := u_ws RX3 TX3 6
theorem nmX3 : ∀ a, a < 6 → ∀ b, b < 6 → a ≠ b → (TX3 a).2.1 ≠ (TX3 b).2.1 := by decide +kernel
theorem tyX3_ok : ∀ k, k < 6 → parseFieldDescriptor (TX3 k).2.2.1 = some (tyX3 k) := by decide +kernel
abbrev cX3_init : ByteArray := prog_5_method_1_code
def yX3_init : MethodName := ⟨RX3, "<init>", "(IIIIII)V"⟩
abbrev cX3_next : ByteArray := prog_5_method_2_code
def yX3_next : MethodName := ⟨RX3, "next", "(IIII)I"⟩
def RX4 : String := "OneWhistle$Lane"
def TX4 : u_T := fun k => match k with
  | 0 => ("OneWhistle$Lane", "steps", "[I", true)
  | 1 => ("OneWhistle$Lane", "ends", "[I", true)
  | 2 => ("OneWhistle$Lane", "meetings", "[I", true)
  | _ => ("OneWhistle$Lane", "setCount", "I", false)
def tyX4 : Nat → FieldType := fun k => match k with
  | 0 => .array .int
  | 1 => .array .int
  | 2 => .array .int
  | _ => .int
abbrev wsX40 : List Cond := u_ws RX4 TX4 4
theorem nmX4 : ∀ a, a < 4 → ∀ b, b < 4 → a ≠ b → (TX4 a).2.1 ≠ (TX4 b).2.1 := by decide +kernel
theorem tyX4_ok : ∀ k, k < 4 → parseFieldDescriptor (TX4 k).2.2.1 = some (tyX4 k) := by decide +kernel
abbrev cX4_init : ByteArray := prog_6_method_1_code
def yX4_init : MethodName := ⟨RX4, "<init>", "()V"⟩
abbrev cX4_learn : ByteArray := prog_6_method_2_code
def yX4_learn : MethodName := ⟨RX4, "learn", "(LOneWhistle$Plain;II)V"⟩
abbrev cX4_joinSets : ByteArray := prog_6_method_3_code
def yX4_joinSets : MethodName := ⟨RX4, "joinSets", "(I)V"⟩
abbrev cX4_rowOf : ByteArray := prog_6_method_4_code
def yX4_rowOf : MethodName := ⟨RX4, "rowOf", "(II)I"⟩
abbrev cX4_behind : ByteArray := prog_6_method_5_code
def yX4_behind : MethodName := ⟨RX4, "behind", "(III)I"⟩
abbrev cX4_findEnds : ByteArray := prog_6_method_6_code
def yX4_findEnds : MethodName := ⟨RX4, "findEnds", "(I)V"⟩
abbrev cX4_endsFrom : ByteArray := prog_6_method_7_code
def yX4_endsFrom : MethodName := ⟨RX4, "endsFrom", "(II)I"⟩
abbrev cX4_findMeetings : ByteArray := prog_6_method_8_code
def yX4_findMeetings : MethodName := ⟨RX4, "findMeetings", "()V"⟩
abbrev cX4_growMeetings : ByteArray := prog_6_method_9_code
def yX4_growMeetings : MethodName := ⟨RX4, "growMeetings", "()Z"⟩
abbrev cX4_canMeet : ByteArray := prog_6_method_10_code
def yX4_canMeet : MethodName := ⟨RX4, "canMeet", "(II)Z"⟩
def RX5 : String := "OneWhistle$Plain"
def TX5 : u_T := fun k => match k with
  | 0 => ("OneWhistle$Plain", "kind", "I", true)
  | 1 => ("OneWhistle$Plain", "row0", "I", true)
  | _ => ("OneWhistle$Plain", "row1", "I", true)
def tyX5 : Nat → FieldType := fun k => match k with
  | 0 => .int
  | 1 => .int
  | _ => .int
abbrev wsX50 : List Cond := u_ws RX5 TX5 3
theorem nmX5 : ∀ a, a < 3 → ∀ b, b < 3 → a ≠ b → (TX5 a).2.1 ≠ (TX5 b).2.1 := by decide +kernel
theorem tyX5_ok : ∀ k, k < 3 → parseFieldDescriptor (TX5 k).2.2.1 = some (tyX5 k) := by decide +kernel
abbrev cX5_init : ByteArray := prog_7_method_1_code
def yX5_init : MethodName := ⟨RX5, "<init>", "(III)V"⟩
abbrev cX5_next : ByteArray := prog_7_method_2_code
def yX5_next : MethodName := ⟨RX5, "next", "(IIII)I"⟩
abbrev cX5_byRows : ByteArray := prog_7_method_3_code
def yX5_byRows : MethodName := ⟨RX5, "byRows", "(IIII)I"⟩
abbrev cX5_rowFor : ByteArray := prog_7_method_4_code
def yX5_rowFor : MethodName := ⟨RX5, "rowFor", "(II)I"⟩
abbrev cX5_heedsOdd : ByteArray := prog_7_method_5_code
def yX5_heedsOdd : MethodName := ⟨RX5, "heedsOdd", "()Z"⟩
abbrev cX5_behind : ByteArray := prog_7_method_6_code
def yX5_behind : MethodName := ⟨RX5, "behind", "(IIII)I"⟩
abbrev cX5_digested : ByteArray := prog_7_method_7_code
def yX5_digested : MethodName := ⟨RX5, "digested", "(J)J"⟩
abbrev cX5_withRows : ByteArray := prog_7_method_8_code
def yX5_withRows : MethodName := ⟨RX5, "withRows", "(J)J"⟩
abbrev cX5_withLearnt : ByteArray := prog_7_method_9_code
def yX5_withLearnt : MethodName := ⟨RX5, "withLearnt", "(JIII)J"⟩
def RX6 : String := "OneWhistle$Pup"
def TX6 : u_T := fun k => match k with
  | 0 => ("OneWhistle$Plain", "kind", "I", true)
  | 1 => ("OneWhistle$Plain", "row0", "I", true)
  | 2 => ("OneWhistle$Plain", "row1", "I", true)
  | 3 => ("OneWhistle$Pup", "then0", "I", true)
  | 4 => ("OneWhistle$Pup", "then1", "I", true)
  | _ => ("OneWhistle$Pup", "m", "I", true)
def tyX6 : Nat → FieldType := fun k => match k with
  | 0 => .int
  | 1 => .int
  | 2 => .int
  | 3 => .int
  | 4 => .int
  | _ => .int
abbrev wsX60 : List Cond := u_ws RX6 TX6 6
theorem nmX6 : ∀ a, a < 6 → ∀ b, b < 6 → a ≠ b → (TX6 a).2.1 ≠ (TX6 b).2.1 := by decide +kernel
theorem tyX6_ok : ∀ k, k < 6 → parseFieldDescriptor (TX6 k).2.2.1 = some (tyX6 k) := by decide +kernel
abbrev cX6_init : ByteArray := prog_8_method_1_code
def yX6_init : MethodName := ⟨RX6, "<init>", "(IIIIII)V"⟩
abbrev cX6_rowFor : ByteArray := prog_8_method_2_code
def yX6_rowFor : MethodName := ⟨RX6, "rowFor", "(II)I"⟩
abbrev cX6_digested : ByteArray := prog_8_method_3_code
def yX6_digested : MethodName := ⟨RX6, "digested", "(J)J"⟩
def RX7 : String := "OneWhistle$Reader"
def TX7 : u_T := fun k => match k with
  | 0 => ("OneWhistle$Reader", "told", "LOneWhistle$Hill;", true)
  | 1 => ("OneWhistle$Reader", "fault", "I", false)
  | 2 => ("OneWhistle$Reader", "text", "[B", true)
  | 3 => ("OneWhistle$Reader", "length", "I", true)
  | 4 => ("OneWhistle$Reader", "kind", "I", false)
  | 5 => ("OneWhistle$Reader", "start", "I", false)
  | _ => ("OneWhistle$Reader", "end", "I", false)
def tyX7 : Nat → FieldType := fun k => match k with
  | 0 => .object "OneWhistle$Hill"
  | 1 => .int
  | 2 => .array .byte
  | 3 => .int
  | 4 => .int
  | 5 => .int
  | _ => .int
abbrev wsX70 : List Cond := u_ws RX7 TX7 7
theorem nmX7 : ∀ a, a < 7 → ∀ b, b < 7 → a ≠ b → (TX7 a).2.1 ≠ (TX7 b).2.1 := by decide +kernel
theorem tyX7_ok : ∀ k, k < 7 → parseFieldDescriptor (TX7 k).2.2.1 = some (tyX7 k) := by decide +kernel
abbrev cX7_init : ByteArray := prog_9_method_1_code
def yX7_init : MethodName := ⟨RX7, "<init>", "([BI)V"⟩
abbrev cX7_readHill : ByteArray := prog_9_method_2_code
def yX7_readHill : MethodName := ⟨RX7, "readHill", "()V"⟩
abbrev cX7_readItem : ByteArray := prog_9_method_3_code
def yX7_readItem : MethodName := ⟨RX7, "readItem", "()V"⟩
abbrev cX7_readBreath : ByteArray := prog_9_method_4_code
def yX7_readBreath : MethodName := ⟨RX7, "readBreath", "()V"⟩
abbrev cX7_readDog : ByteArray := prog_9_method_5_code
def yX7_readDog : MethodName := ⟨RX7, "readDog", "()V"⟩
abbrev cX7_takeNumber : ByteArray := prog_9_method_6_code
def yX7_takeNumber : MethodName := ⟨RX7, "takeNumber", "(II)I"⟩
abbrev cX7_takePlaceBit : ByteArray := prog_9_method_7_code
def yX7_takePlaceBit : MethodName := ⟨RX7, "takePlaceBit", "()I"⟩
abbrev cX7_takeRow : ByteArray := prog_9_method_8_code
def yX7_takeRow : MethodName := ⟨RX7, "takeRow", "()I"⟩
abbrev cX7_takeMark : ByteArray := prog_9_method_9_code
def yX7_takeMark : MethodName := ⟨RX7, "takeMark", "()V"⟩
abbrev cX7_fail : ByteArray := prog_9_method_10_code
def yX7_fail : MethodName := ⟨RX7, "fail", "()V"⟩
abbrev cX7_isWord : ByteArray := prog_9_method_11_code
def yX7_isWord : MethodName := ⟨RX7, "isWord", "(Ljava/lang/String;)Z"⟩
abbrev cX7_advance : ByteArray := prog_9_method_12_code
def yX7_advance : MethodName := ⟨RX7, "advance", "()V"⟩
abbrev cX7_kindOf : ByteArray := prog_9_method_13_code
def yX7_kindOf : MethodName := ⟨RX7, "kindOf", "(I)I"⟩
abbrev cX7_byteAt : ByteArray := prog_9_method_14_code
def yX7_byteAt : MethodName := ⟨RX7, "byteAt", "(I)I"⟩
def RX8 : String := "OneWhistle$Seen"
def TX8 : u_T := fun k => match k with
  | 0 => ("OneWhistle$Seen", "slots", "[J", false)
  | 1 => ("OneWhistle$Seen", "used", "I", false)
  | _ => ("OneWhistle$Seen", "search", "J", false)
def tyX8 : Nat → FieldType := fun k => match k with
  | 0 => .array .long
  | 1 => .int
  | _ => .long
abbrev wsX80 : List Cond := u_ws RX8 TX8 3
theorem nmX8 : ∀ a, a < 3 → ∀ b, b < 3 → a ≠ b → (TX8 a).2.1 ≠ (TX8 b).2.1 := by decide +kernel
theorem tyX8_ok : ∀ k, k < 3 → parseFieldDescriptor (TX8 k).2.2.1 = some (tyX8 k) := by decide +kernel
abbrev cX8_init : ByteArray := prog_10_method_1_code
def yX8_init : MethodName := ⟨RX8, "<init>", "()V"⟩
abbrev cX8_forget : ByteArray := prog_10_method_2_code
def yX8_forget : MethodName := ⟨RX8, "forget", "()V"⟩
abbrev cX8_leastFor : ByteArray := prog_10_method_3_code
def yX8_leastFor : MethodName := ⟨RX8, "leastFor", "(I)I"⟩
abbrev cX8_isLess : ByteArray := prog_10_method_4_code
def yX8_isLess : MethodName := ⟨RX8, "isLess", "(II)Z"⟩
abbrev cX8_isOurs : ByteArray := prog_10_method_5_code
def yX8_isOurs : MethodName := ⟨RX8, "isOurs", "(J)Z"⟩
abbrev cX8_breathOf : ByteArray := prog_10_method_6_code
def yX8_breathOf : MethodName := ⟨RX8, "breathOf", "(J)I"⟩
abbrev cX8_keyOf : ByteArray := prog_10_method_7_code
def yX8_keyOf : MethodName := ⟨RX8, "keyOf", "(J)I"⟩
abbrev cX8_slotFor : ByteArray := prog_10_method_8_code
def yX8_slotFor : MethodName := ⟨RX8, "slotFor", "(I)I"⟩
abbrev cX8_grow : ByteArray := prog_10_method_9_code
def yX8_grow : MethodName := ⟨RX8, "grow", "()V"⟩
def RX9 : String := "OneWhistle$Stubborn"
def TX9 : u_T := fun k => match k with
  | 0 => ("OneWhistle$Plain", "kind", "I", true)
  | 1 => ("OneWhistle$Plain", "row0", "I", true)
  | _ => ("OneWhistle$Plain", "row1", "I", true)
def tyX9 : Nat → FieldType := fun k => match k with
  | 0 => .int
  | 1 => .int
  | _ => .int
abbrev wsX90 : List Cond := u_ws RX9 TX9 3
theorem nmX9 : ∀ a, a < 3 → ∀ b, b < 3 → a ≠ b → (TX9 a).2.1 ≠ (TX9 b).2.1 := by decide +kernel
theorem tyX9_ok : ∀ k, k < 3 → parseFieldDescriptor (TX9 k).2.2.1 = some (tyX9 k) := by decide +kernel
abbrev cX9_init : ByteArray := prog_11_method_1_code
def yX9_init : MethodName := ⟨RX9, "<init>", "(III)V"⟩
abbrev cX9_next : ByteArray := prog_11_method_2_code
def yX9_next : MethodName := ⟨RX9, "next", "(IIII)I"⟩
def RX10 : String := "OneWhistle$Teller"
def TX10 : u_T := fun k => match k with
  | 0 => ("OneWhistle$Teller", "fewest", "[I", true)
  | _ => ("OneWhistle$Teller", "barkBits", "I", false)
def tyX10 : Nat → FieldType := fun k => match k with
  | 0 => .array .int
  | _ => .int
abbrev wsX100 : List Cond := u_ws RX10 TX10 2
theorem nmX10 : ∀ a, a < 2 → ∀ b, b < 2 → a ≠ b → (TX10 a).2.1 ≠ (TX10 b).2.1 := by decide +kernel
theorem tyX10_ok : ∀ k, k < 2 → parseFieldDescriptor (TX10 k).2.2.1 = some (tyX10 k) := by decide +kernel
abbrev cX10_init : ByteArray := prog_12_method_1_code
def yX10_init : MethodName := ⟨RX10, "<init>", "()V"⟩
abbrev cX10_weigh : ByteArray := prog_12_method_2_code
def yX10_weigh : MethodName := ⟨RX10, "weigh", "(LOneWhistle$Lane;II)V"⟩
abbrev cX10_fewestFor : ByteArray := prog_12_method_3_code
def yX10_fewestFor : MethodName := ⟨RX10, "fewestFor", "(II)I"⟩
abbrev cX10_neededBy : ByteArray := prog_12_method_4_code
def yX10_neededBy : MethodName := ⟨RX10, "neededBy", "(LOneWhistle$Lane;III)I"⟩
abbrev cX10_firstWhistle : ByteArray := prog_12_method_5_code
def yX10_firstWhistle : MethodName := ⟨RX10, "firstWhistle", "(LOneWhistle$Lane;I)I"⟩
def RX11 : String := "OneWhistle"
def TX11 : u_T := fun k => match k with
  | 0 => ("OneWhistle", "hill", "LOneWhistle$Hill;", false)
  | 1 => ("OneWhistle", "images", "[LOneWhistle$Hill;", true)
  | 2 => ("OneWhistle", "text", "[B", true)
  | 3 => ("OneWhistle", "textLength", "I", false)
  | 4 => ("OneWhistle", "above", "J", false)
  | 5 => ("OneWhistle", "below", "J", false)
  | 6 => ("OneWhistle", "badCount", "I", false)
  | 7 => ("OneWhistle", "noCount", "I", false)
  | 8 => ("OneWhistle", "fullCount", "I", false)
  | 9 => ("OneWhistle", "chase", "LOneWhistle$Chase;", true)
  | 10 => ("OneWhistle", "lane", "LOneWhistle$Lane;", true)
  | 11 => ("OneWhistle", "teller", "LOneWhistle$Teller;", true)
  | 12 => ("OneWhistle", "weights", "[J", true)
  | _ => ("OneWhistle", "laterWeights", "[J", true)
def tyX11 : Nat → FieldType := fun k => match k with
  | 0 => .object "OneWhistle$Hill"
  | 1 => .array (.object "OneWhistle$Hill")
  | 2 => .array .byte
  | 3 => .int
  | 4 => .long
  | 5 => .long
  | 6 => .int
  | 7 => .int
  | 8 => .int
  | 9 => .object "OneWhistle$Chase"
  | 10 => .object "OneWhistle$Lane"
  | 11 => .object "OneWhistle$Teller"
  | 12 => .array .long
  | _ => .array .long
abbrev wsX110 : List Cond := u_ws RX11 TX11 14
theorem nmX11 : ∀ a, a < 14 → ∀ b, b < 14 → a ≠ b → (TX11 a).2.1 ≠ (TX11 b).2.1 := by decide +kernel
theorem tyX11_ok : ∀ k, k < 14 → parseFieldDescriptor (TX11 k).2.2.1 = some (tyX11 k) := by decide +kernel
abbrev cX11_init : ByteArray := prog_1_method_1_code
def yX11_init : MethodName := ⟨RX11, "<init>", "()V"⟩
abbrev cX11_places : ByteArray := prog_1_method_2_code
def yX11_places : MethodName := ⟨RX11, "places", "(I)I"⟩
abbrev cX11_dog : ByteArray := prog_1_method_3_code
def yX11_dog : MethodName := ⟨RX11, "dog", "(III)I"⟩
abbrev cX11_pup : ByteArray := prog_1_method_4_code
def yX11_pup : MethodName := ⟨RX11, "pup", "(IIIIII)I"⟩
abbrev cX11_shut : ByteArray := prog_1_method_5_code
def yX11_shut : MethodName := ⟨RX11, "shut", "(IZ)I"⟩
abbrev cX11_put : ByteArray := prog_1_method_6_code
def yX11_put : MethodName := ⟨RX11, "put", "(II)I"⟩
abbrev cX11_type : ByteArray := prog_1_method_7_code
def yX11_type : MethodName := ⟨RX11, "type", "(JI)I"⟩
abbrev cX11_clear : ByteArray := prog_1_method_8_code
def yX11_clear : MethodName := ⟨RX11, "clear", "()I"⟩
abbrev cX11_read : ByteArray := prog_1_method_9_code
def yX11_read : MethodName := ⟨RX11, "read", "()I"⟩
abbrev cX11_goes : ByteArray := prog_1_method_10_code
def yX11_goes : MethodName := ⟨RX11, "goes", "(IIII)I"⟩
abbrev cX11_run : ByteArray := prog_1_method_11_code
def yX11_run : MethodName := ⟨RX11, "run", "(IIII)I"⟩
abbrev cX11_meets : ByteArray := prog_1_method_12_code
def yX11_meets : MethodName := ⟨RX11, "meets", "(III)I"⟩
abbrev cX11_tame : ByteArray := prog_1_method_13_code
def yX11_tame : MethodName := ⟨RX11, "tame", "(II)I"⟩
abbrev cX11_quiet : ByteArray := prog_1_method_14_code
def yX11_quiet : MethodName := ⟨RX11, "quiet", "(I)I"⟩
abbrev cX11_apart : ByteArray := prog_1_method_15_code
def yX11_apart : MethodName := ⟨RX11, "apart", "(I)I"⟩
abbrev cX11_shuts : ByteArray := prog_1_method_16_code
def yX11_shuts : MethodName := ⟨RX11, "shuts", "(I)I"⟩
abbrev cX11_neighbour : ByteArray := prog_1_method_17_code
def yX11_neighbour : MethodName := ⟨RX11, "neighbour", "(IIII)I"⟩
abbrev cX11_tells : ByteArray := prog_1_method_18_code
def yX11_tells : MethodName := ⟨RX11, "tells", "(III)I"⟩
abbrev cX11_which : ByteArray := prog_1_method_19_code
def yX11_which : MethodName := ⟨RX11, "which", "(III)I"⟩
abbrev cX11_starts : ByteArray := prog_1_method_20_code
def yX11_starts : MethodName := ⟨RX11, "starts", "(IIII)I"⟩
abbrev cX11_drawn : ByteArray := prog_1_method_21_code
def yX11_drawn : MethodName := ⟨RX11, "drawn", "(III)I"⟩
abbrev cX11_part : ByteArray := prog_1_method_22_code
def yX11_part : MethodName := ⟨RX11, "part", "(I)J"⟩
abbrev cX11_image : ByteArray := prog_1_method_23_code
def yX11_image : MethodName := ⟨RX11, "image", "(I)I"⟩
abbrev cX11_from : ByteArray := prog_1_method_24_code
def yX11_from : MethodName := ⟨RX11, "from", "(I)I"⟩
abbrev cX11_status : ByteArray := prog_1_method_25_code
def yX11_status : MethodName := ⟨RX11, "status", "(I)I"⟩
abbrev cX11_count : ByteArray := prog_1_method_26_code
def yX11_count : MethodName := ⟨RX11, "count", "(I)I"⟩
abbrev cX11_digest : ByteArray := prog_1_method_27_code
def yX11_digest : MethodName := ⟨RX11, "digest", "()J"⟩
abbrev cX11_refusedBad : ByteArray := prog_1_method_28_code
def yX11_refusedBad : MethodName := ⟨RX11, "refusedBad", "(I)I"⟩
abbrev cX11_refusedNo : ByteArray := prog_1_method_29_code
def yX11_refusedNo : MethodName := ⟨RX11, "refusedNo", "()I"⟩
abbrev cX11_refusedFull : ByteArray := prog_1_method_30_code
def yX11_refusedFull : MethodName := ⟨RX11, "refusedFull", "()I"⟩
abbrev cX11_canPut : ByteArray := prog_1_method_31_code
def yX11_canPut : MethodName := ⟨RX11, "canPut", "(II)Z"⟩
abbrev cX11_isTune : ByteArray := prog_1_method_32_code
def yX11_isTune : MethodName := ⟨RX11, "isTune", "(II)Z"⟩
abbrev cX11_isHeard : ByteArray := prog_1_method_33_code
def yX11_isHeard : MethodName := ⟨RX11, "isHeard", "(III)Z"⟩
abbrev cX11_areBits : ByteArray := prog_1_method_34_code
def yX11_areBits : MethodName := ⟨RX11, "areBits", "(II)Z"⟩
abbrev cX11_holds : ByteArray := prog_1_method_35_code
def yX11_holds : MethodName := ⟨RX11, "holds", "(II)Z"⟩
abbrev cX11_origins : ByteArray := prog_1_method_36_code
def yX11_origins : MethodName := ⟨RX11, "origins", "(LOneWhistle$Plain;III)I"⟩
abbrev cX11_soundsSo : ByteArray := prog_1_method_37_code
def yX11_soundsSo : MethodName := ⟨RX11, "soundsSo", "(LOneWhistle$Plain;IIII)Z"⟩
abbrev cX11_drawOne : ByteArray := prog_1_method_38_code
def yX11_drawOne : MethodName := ⟨RX11, "drawOne", "(LOneWhistle$Plain;II)V"⟩
abbrev cX11_keepFraction : ByteArray := prog_1_method_39_code
def yX11_keepFraction : MethodName := ⟨RX11, "keepFraction", "(JJ)V"⟩
abbrev cX11_commonDivisor : ByteArray := prog_1_method_40_code
def yX11_commonDivisor : MethodName := ⟨RX11, "commonDivisor", "(JJ)J"⟩
abbrev cX11_isRowsKind : ByteArray := prog_1_method_41_code
def yX11_isRowsKind : MethodName := ⟨RX11, "isRowsKind", "(I)Z"⟩
abbrev cX11_isLearningKind : ByteArray := prog_1_method_42_code
def yX11_isLearningKind : MethodName := ⟨RX11, "isLearningKind", "(I)Z"⟩
abbrev cX11_bred : ByteArray := prog_1_method_43_code
def yX11_bred : MethodName := ⟨RX11, "bred", "(III)LOneWhistle$Plain;"⟩
abbrev cX11_bredLearning : ByteArray := prog_1_method_44_code
def yX11_bredLearning : MethodName := ⟨RX11, "bredLearning", "(IIIIII)LOneWhistle$Plain;"⟩
abbrev cX11_phaseOf : ByteArray := prog_1_method_45_code
def yX11_phaseOf : MethodName := ⟨RX11, "phaseOf", "(I)I"⟩
abbrev cX11_lowestBitIndex : ByteArray := prog_1_method_46_code
def yX11_lowestBitIndex : MethodName := ⟨RX11, "lowestBitIndex", "(I)I"⟩
def RX12 : String := "OneWhistleModel"
def TX12 : u_T := fun k => match k with
  | 0 => ("OneWhistleModel", "book", "[I", true)
  | 1 => ("OneWhistleModel", "draft", "[I", true)
  | 2 => ("OneWhistleModel", "images", "[I", true)
  | 3 => ("OneWhistleModel", "kept", "[Z", true)
  | 4 => ("OneWhistleModel", "text", "[I", true)
  | 5 => ("OneWhistleModel", "length", "I", false)
  | 6 => ("OneWhistleModel", "refused", "[I", true)
  | 7 => ("OneWhistleModel", "above", "J", false)
  | 8 => ("OneWhistleModel", "below", "J", false)
  | 9 => ("OneWhistleModel", "at", "I", false)
  | 10 => ("OneWhistleModel", "sort", "I", false)
  | 11 => ("OneWhistleModel", "start", "I", false)
  | 12 => ("OneWhistleModel", "size", "I", false)
  | 13 => ("OneWhistleModel", "best", "[I", true)
  | 14 => ("OneWhistleModel", "waits", "[I", true)
  | 15 => ("OneWhistleModel", "many", "[I", true)
  | 16 => ("OneWhistleModel", "reachedBy", "I", false)
  | 17 => ("OneWhistleModel", "reachedWorth", "I", false)
  | 18 => ("OneWhistleModel", "meet", "[Z", true)
  | 19 => ("OneWhistleModel", "takes", "[I", true)
  | _ => ("OneWhistleModel", "ends", "[J", true)
def tyX12 : Nat → FieldType := fun k => match k with
  | 0 => .array .int
  | 1 => .array .int
  | 2 => .array .int
  | 3 => .array .boolean
  | 4 => .array .int
  | 5 => .int
  | 6 => .array .int
  | 7 => .long
  | 8 => .long
  | 9 => .int
  | 10 => .int
  | 11 => .int
  | 12 => .int
  | 13 => .array .int
  | 14 => .array .int
  | 15 => .array .int
  | 16 => .int
  | 17 => .int
  | 18 => .array .boolean
  | 19 => .array .int
  | _ => .array .long
abbrev wsX120 : List Cond := u_ws RX12 TX12 21
theorem nmX12 : ∀ a, a < 21 → ∀ b, b < 21 → a ≠ b → (TX12 a).2.1 ≠ (TX12 b).2.1 := by decide +kernel
theorem tyX12_ok : ∀ k, k < 21 → parseFieldDescriptor (TX12 k).2.2.1 = some (tyX12 k) := by decide +kernel
abbrev cX12_init : ByteArray := prog_14_method_1_code
def yX12_init : MethodName := ⟨RX12, "<init>", "()V"⟩
abbrev cX12_in : ByteArray := prog_14_method_3_code
def yX12_in : MethodName := ⟨RX12, "in", "(III)Z"⟩
abbrev cX12_refuses : ByteArray := prog_14_method_4_code
def yX12_refuses : MethodName := ⟨RX12, "refuses", "(II)I"⟩
abbrev cX12_bad : ByteArray := prog_14_method_5_code
def yX12_bad : MethodName := ⟨RX12, "bad", "()I"⟩
abbrev cX12_isPlace : ByteArray := prog_14_method_6_code
def yX12_isPlace : MethodName := ⟨RX12, "isPlace", "(I)Z"⟩
abbrev cX12_isDog : ByteArray := prog_14_method_7_code
def yX12_isDog : MethodName := ⟨RX12, "isDog", "(I)Z"⟩
abbrev cX12_isSet : ByteArray := prog_14_method_8_code
def yX12_isSet : MethodName := ⟨RX12, "isSet", "(I)Z"⟩
abbrev cX12_isTune : ByteArray := prog_14_method_9_code
def yX12_isTune : MethodName := ⟨RX12, "isTune", "(II)Z"⟩
abbrev cX12_places : ByteArray := prog_14_method_10_code
def yX12_places : MethodName := ⟨RX12, "places", "(I)I"⟩
abbrev cX12_isRow : ByteArray := prog_14_method_11_code
def yX12_isRow : MethodName := ⟨RX12, "isRow", "(I)Z"⟩
abbrev cX12_comes : ByteArray := prog_14_method_12_code
def yX12_comes : MethodName := ⟨RX12, "comes", "(IIIIII)I"⟩
abbrev cX12_dog : ByteArray := prog_14_method_13_code
def yX12_dog : MethodName := ⟨RX12, "dog", "(III)I"⟩
abbrev cX12_pup : ByteArray := prog_14_method_14_code
def yX12_pup : MethodName := ⟨RX12, "pup", "(IIIIII)I"⟩
abbrev cX12_shut : ByteArray := prog_14_method_15_code
def yX12_shut : MethodName := ⟨RX12, "shut", "(IZ)I"⟩
abbrev cX12_put : ByteArray := prog_14_method_16_code
def yX12_put : MethodName := ⟨RX12, "put", "(II)I"⟩
abbrev cX12_type : ByteArray := prog_14_method_17_code
def yX12_type : MethodName := ⟨RX12, "type", "(JI)I"⟩
abbrev cX12_clear : ByteArray := prog_14_method_18_code
def yX12_clear : MethodName := ⟨RX12, "clear", "()I"⟩
abbrev cX12_byteAt : ByteArray := prog_14_method_19_code
def yX12_byteAt : MethodName := ⟨RX12, "byteAt", "(I)I"⟩
abbrev cX12_sortOf : ByteArray := prog_14_method_20_code
def yX12_sortOf : MethodName := ⟨RX12, "sortOf", "(I)I"⟩
abbrev cX12_token : ByteArray := prog_14_method_21_code
def yX12_token : MethodName := ⟨RX12, "token", "()V"⟩
abbrev cX12_verb : ByteArray := prog_14_method_22_code
def yX12_verb : MethodName := ⟨RX12, "verb", "()I"⟩
abbrev cX12_figure : ByteArray := prog_14_method_23_code
def yX12_figure : MethodName := ⟨RX12, "figure", "(II)I"⟩
abbrev cX12_row : ByteArray := prog_14_method_24_code
def yX12_row : MethodName := ⟨RX12, "row", "()I"⟩
abbrev cX12_readsDog : ByteArray := prog_14_method_25_code
def yX12_readsDog : MethodName := ⟨RX12, "readsDog", "()Z"⟩
abbrev cX12_readsItem : ByteArray := prog_14_method_26_code
def yX12_readsItem : MethodName := ⟨RX12, "readsItem", "(I)Z"⟩
abbrev cX12_reads : ByteArray := prog_14_method_27_code
def yX12_reads : MethodName := ⟨RX12, "reads", "()Z"⟩
abbrev cX12_read : ByteArray := prog_14_method_28_code
def yX12_read : MethodName := ⟨RX12, "read", "()I"⟩
abbrev cX12_step : ByteArray := prog_14_method_29_code
def yX12_step : MethodName := ⟨RX12, "step", "(II)I"⟩
abbrev cX12_go : ByteArray := prog_14_method_30_code
def yX12_go : MethodName := ⟨RX12, "go", "(IIII)I"⟩
abbrev cX12_goes : ByteArray := prog_14_method_31_code
def yX12_goes : MethodName := ⟨RX12, "goes", "(IIII)I"⟩
abbrev cX12_ran : ByteArray := prog_14_method_32_code
def yX12_ran : MethodName := ⟨RX12, "ran", "(IIII)I"⟩
abbrev cX12_run : ByteArray := prog_14_method_33_code
def yX12_run : MethodName := ⟨RX12, "run", "(IIII)I"⟩
abbrev cX12_meets : ByteArray := prog_14_method_34_code
def yX12_meets : MethodName := ⟨RX12, "meets", "(III)I"⟩
abbrev cX12_after : ByteArray := prog_14_method_35_code
def yX12_after : MethodName := ⟨RX12, "after", "(III)I"⟩
abbrev cX12_comesTo : ByteArray := prog_14_method_36_code
def yX12_comesTo : MethodName := ⟨RX12, "comesTo", "(III)V"⟩
abbrev cX12_layer : ByteArray := prog_14_method_37_code
def yX12_layer : MethodName := ⟨RX12, "layer", "(IZ)V"⟩
abbrev cX12_empties : ByteArray := prog_14_method_38_code
def yX12_empties : MethodName := ⟨RX12, "empties", "()V"⟩
abbrev cX12_leads : ByteArray := prog_14_method_39_code
def yX12_leads : MethodName := ⟨RX12, "leads", "(IIZ)Z"⟩
abbrev cX12_all : ByteArray := prog_14_method_40_code
def yX12_all : MethodName := ⟨RX12, "all", "(II)I"⟩
abbrev cX12_tames : ByteArray := prog_14_method_41_code
def yX12_tames : MethodName := ⟨RX12, "tames", "(IZ)Z"⟩
abbrev cX12_tune : ByteArray := prog_14_method_42_code
def yX12_tune : MethodName := ⟨RX12, "tune", "()I"⟩
abbrev cX12_tame : ByteArray := prog_14_method_43_code
def yX12_tame : MethodName := ⟨RX12, "tame", "(II)I"⟩
abbrev cX12_quiet : ByteArray := prog_14_method_44_code
def yX12_quiet : MethodName := ⟨RX12, "quiet", "(I)I"⟩
abbrev cX12_shuts : ByteArray := prog_14_method_45_code
def yX12_shuts : MethodName := ⟨RX12, "shuts", "(I)I"⟩
abbrev cX12_neighbour : ByteArray := prog_14_method_46_code
def yX12_neighbour : MethodName := ⟨RX12, "neighbour", "(IIII)I"⟩
abbrev cX12_bits : ByteArray := prog_14_method_47_code
def yX12_bits : MethodName := ⟨RX12, "bits", "(I)I"⟩
abbrev cX12_apart : ByteArray := prog_14_method_48_code
def yX12_apart : MethodName := ⟨RX12, "apart", "(I)I"⟩
abbrev cX12_takesBy : ByteArray := prog_14_method_49_code
def yX12_takesBy : MethodName := ⟨RX12, "takesBy", "(IIII)I"⟩
abbrev cX12_allTakes : ByteArray := prog_14_method_50_code
def yX12_allTakes : MethodName := ⟨RX12, "allTakes", "(I)V"⟩
abbrev cX12_tells : ByteArray := prog_14_method_51_code
def yX12_tells : MethodName := ⟨RX12, "tells", "(III)I"⟩
abbrev cX12_heard : ByteArray := prog_14_method_52_code
def yX12_heard : MethodName := ⟨RX12, "heard", "(IIIII)Z"⟩
abbrev cX12_begins : ByteArray := prog_14_method_53_code
def yX12_begins : MethodName := ⟨RX12, "begins", "(IIII)I"⟩
abbrev cX12_which : ByteArray := prog_14_method_54_code
def yX12_which : MethodName := ⟨RX12, "which", "(III)I"⟩
abbrev cX12_starts : ByteArray := prog_14_method_55_code
def yX12_starts : MethodName := ⟨RX12, "starts", "(IIII)I"⟩
abbrev cX12_drawn : ByteArray := prog_14_method_56_code
def yX12_drawn : MethodName := ⟨RX12, "drawn", "(III)I"⟩
abbrev cX12_part : ByteArray := prog_14_method_57_code
def yX12_part : MethodName := ⟨RX12, "part", "(I)J"⟩
abbrev cX12_image : ByteArray := prog_14_method_58_code
def yX12_image : MethodName := ⟨RX12, "image", "(I)I"⟩
abbrev cX12_from : ByteArray := prog_14_method_59_code
def yX12_from : MethodName := ⟨RX12, "from", "(I)I"⟩
abbrev cX12_status : ByteArray := prog_14_method_60_code
def yX12_status : MethodName := ⟨RX12, "status", "(I)I"⟩
abbrev cX12_counted : ByteArray := prog_14_method_61_code
def yX12_counted : MethodName := ⟨RX12, "counted", "(I)I"⟩
abbrev cX12_count : ByteArray := prog_14_method_62_code
def yX12_count : MethodName := ⟨RX12, "count", "(I)I"⟩
abbrev cX12_digest : ByteArray := prog_14_method_63_code
def yX12_digest : MethodName := ⟨RX12, "digest", "()J"⟩
def RJx145de : String := "java/io/Serializable"
def TJx145de : u_T := fun k => match k with
  | _ => ("", "", "", false)
def tyJx145de : Nat → FieldType := fun k => match k with
  | _ => .int
theorem nmJx145de : ∀ a, a < 0 → ∀ b, b < 0 → a ≠ b → (TJx145de a).2.1 ≠ (TJx145de b).2.1 := by decide +kernel
theorem tyJx145de_ok : ∀ k, k < 0 → parseFieldDescriptor (TJx145de k).2.2.1 = some (tyJx145de k) := by decide +kernel
def RJx9f9b0 : String := "java/lang/CharSequence"
def TJx9f9b0 : u_T := fun k => match k with
  | _ => ("", "", "", false)
def tyJx9f9b0 : Nat → FieldType := fun k => match k with
  | _ => .int
theorem nmJx9f9b0 : ∀ a, a < 0 → ∀ b, b < 0 → a ≠ b → (TJx9f9b0 a).2.1 ≠ (TJx9f9b0 b).2.1 := by decide +kernel
theorem tyJx9f9b0_ok : ∀ k, k < 0 → parseFieldDescriptor (TJx9f9b0 k).2.2.1 = some (tyJx9f9b0 k) := by decide +kernel
def RJx8e188 : String := "java/lang/Cloneable"
def TJx8e188 : u_T := fun k => match k with
  | _ => ("", "", "", false)
def tyJx8e188 : Nat → FieldType := fun k => match k with
  | _ => .int
theorem nmJx8e188 : ∀ a, a < 0 → ∀ b, b < 0 → a ≠ b → (TJx8e188 a).2.1 ≠ (TJx8e188 b).2.1 := by decide +kernel
theorem tyJx8e188_ok : ∀ k, k < 0 → parseFieldDescriptor (TJx8e188 k).2.2.1 = some (tyJx8e188 k) := by decide +kernel
def RJxb160c : String := "java/lang/Comparable"
def TJxb160c : u_T := fun k => match k with
  | _ => ("", "", "", false)
def tyJxb160c : Nat → FieldType := fun k => match k with
  | _ => .int
theorem nmJxb160c : ∀ a, a < 0 → ∀ b, b < 0 → a ≠ b → (TJxb160c a).2.1 ≠ (TJxb160c b).2.1 := by decide +kernel
theorem tyJxb160c_ok : ∀ k, k < 0 → parseFieldDescriptor (TJxb160c k).2.2.1 = some (tyJxb160c k) := by decide +kernel
def RJ6 : String := "java/lang/Integer"
def TJ6 : u_T := fun k => match k with
  | _ => ("", "", "", false)
def tyJ6 : Nat → FieldType := fun k => match k with
  | _ => .int
theorem nmJ6 : ∀ a, a < 0 → ∀ b, b < 0 → a ≠ b → (TJ6 a).2.1 ≠ (TJ6 b).2.1 := by decide +kernel
theorem tyJ6_ok : ∀ k, k < 0 → parseFieldDescriptor (TJ6 k).2.2.1 = some (tyJ6 k) := by decide +kernel
abbrev cJ6_bitCount_0f7a4 : ByteArray := prog_16_method_49_code
def yJ6_bitCount_0f7a4 : MethodName := ⟨RJ6, "bitCount", "(I)I"⟩
def RJ9 : String := "java/lang/Math"
def TJ9 : u_T := fun k => match k with
  | _ => ("", "", "", false)
def tyJ9 : Nat → FieldType := fun k => match k with
  | _ => .int
theorem nmJ9 : ∀ a, a < 0 → ∀ b, b < 0 → a ≠ b → (TJ9 a).2.1 ≠ (TJ9 b).2.1 := by decide +kernel
theorem tyJ9_ok : ∀ k, k < 0 → parseFieldDescriptor (TJ9 k).2.2.1 = some (tyJ9 k) := by decide +kernel
abbrev cJ9_max_7cf53 : ByteArray := prog_17_method_65_code
def yJ9_max_7cf53 : MethodName := ⟨RJ9, "max", "(II)I"⟩
abbrev cJ9_min_7cf53 : ByteArray := prog_17_method_69_code
def yJ9_min_7cf53 : MethodName := ⟨RJ9, "min", "(II)I"⟩
def RJ0 : String := "java/lang/String"
def TJ0 : u_T := fun k => match k with
  | _ => ("", "", "", false)
def tyJ0 : Nat → FieldType := fun k => match k with
  | _ => .int
theorem nmJ0 : ∀ a, a < 0 → ∀ b, b < 0 → a ≠ b → (TJ0 a).2.1 ≠ (TJ0 b).2.1 := by decide +kernel
theorem tyJ0_ok : ∀ k, k < 0 → parseFieldDescriptor (TJ0 k).2.2.1 = some (tyJ0 k) := by decide +kernel
abbrev cJ0_length_8abf5 : ByteArray := prog_18_method_54_code
def yJ0_length_8abf5 : MethodName := ⟨RJ0, "length", "()I"⟩
abbrev cJ0_charAt_5068e : ByteArray := prog_18_method_56_code
def yJ0_charAt_5068e : MethodName := ⟨RJ0, "charAt", "(I)C"⟩
abbrev cJ0_coder_7d493 : ByteArray := prog_18_method_152_code
def yJ0_coder_7d493 : MethodName := ⟨RJ0, "coder", "()B"⟩
abbrev cJ0_isLatin1_aae02 : ByteArray := prog_18_method_154_code
def yJ0_isLatin1_aae02 : MethodName := ⟨RJ0, "isLatin1", "()Z"⟩
abbrev cJ0_checkIndex_df160 : ByteArray := prog_18_method_155_code
def yJ0_checkIndex_df160 : MethodName := ⟨RJ0, "checkIndex", "(II)V"⟩
def RJ1 : String := "java/lang/StringLatin1"
def TJ1 : u_T := fun k => match k with
  | _ => ("", "", "", false)
def tyJ1 : Nat → FieldType := fun k => match k with
  | _ => .int
theorem nmJ1 : ∀ a, a < 0 → ∀ b, b < 0 → a ≠ b → (TJ1 a).2.1 ≠ (TJ1 b).2.1 := by decide +kernel
theorem tyJ1_ok : ∀ k, k < 0 → parseFieldDescriptor (TJ1 k).2.2.1 = some (tyJ1 k) := by decide +kernel
abbrev cJ1_charAt_3b067 : ByteArray := prog_19_method_2_code
def yJ1_charAt_3b067 : MethodName := ⟨RJ1, "charAt", "([BI)C"⟩
def RJ2 : String := "java/lang/StringUTF16"
def TJ2 : u_T := fun k => match k with
  | _ => ("", "", "", false)
def tyJ2 : Nat → FieldType := fun k => match k with
  | _ => .int
theorem nmJ2 : ∀ a, a < 0 → ∀ b, b < 0 → a ≠ b → (TJ2 a).2.1 ≠ (TJ2 b).2.1 := by decide +kernel
theorem tyJ2_ok : ∀ k, k < 0 → parseFieldDescriptor (TJ2 k).2.2.1 = some (tyJ2 k) := by decide +kernel
abbrev cJ2_getChar_3b067 : ByteArray := prog_20_method_5_code
def yJ2_getChar_3b067 : MethodName := ⟨RJ2, "getChar", "([BI)C"⟩
abbrev cJ2_length_9d52b : ByteArray := prog_20_method_6_code
def yJ2_length_9d52b : MethodName := ⟨RJ2, "length", "([B)I"⟩
abbrev cJ2_charAt_3b067 : ByteArray := prog_20_method_83_code
def yJ2_charAt_3b067 : MethodName := ⟨RJ2, "charAt", "([BI)C"⟩
abbrev cJ2_checkIndex_2214a : ByteArray := prog_20_method_91_code
def yJ2_checkIndex_2214a : MethodName := ⟨RJ2, "checkIndex", "(I[B)V"⟩
def RJ10 : String := "java/lang/System"
def TJ10 : u_T := fun k => match k with
  | _ => ("", "", "", false)
def tyJ10 : Nat → FieldType := fun k => match k with
  | _ => .int
theorem nmJ10 : ∀ a, a < 0 → ∀ b, b < 0 → a ≠ b → (TJ10 a).2.1 ≠ (TJ10 b).2.1 := by decide +kernel
theorem tyJ10_ok : ∀ k, k < 0 → parseFieldDescriptor (TJ10 k).2.2.1 = some (tyJ10 k) := by decide +kernel
def RJxfd54e : String := "java/lang/constant/Constable"
def TJxfd54e : u_T := fun k => match k with
  | _ => ("", "", "", false)
def tyJxfd54e : Nat → FieldType := fun k => match k with
  | _ => .int
theorem nmJxfd54e : ∀ a, a < 0 → ∀ b, b < 0 → a ≠ b → (TJxfd54e a).2.1 ≠ (TJxfd54e b).2.1 := by decide +kernel
theorem tyJxfd54e_ok : ∀ k, k < 0 → parseFieldDescriptor (TJxfd54e k).2.2.1 = some (tyJxfd54e k) := by decide +kernel
def RJx3cf43 : String := "java/lang/constant/ConstantDesc"
def TJx3cf43 : u_T := fun k => match k with
  | _ => ("", "", "", false)
def tyJx3cf43 : Nat → FieldType := fun k => match k with
  | _ => .int
theorem nmJx3cf43 : ∀ a, a < 0 → ∀ b, b < 0 → a ≠ b → (TJx3cf43 a).2.1 ≠ (TJx3cf43 b).2.1 := by decide +kernel
theorem tyJx3cf43_ok : ∀ k, k < 0 → parseFieldDescriptor (TJx3cf43 k).2.2.1 = some (tyJx3cf43 k) := by decide +kernel
def RJ7 : String := "java/util/Arrays"
def TJ7 : u_T := fun k => match k with
  | _ => ("", "", "", false)
def tyJ7 : Nat → FieldType := fun k => match k with
  | _ => .int
theorem nmJ7 : ∀ a, a < 0 → ∀ b, b < 0 → a ≠ b → (TJ7 a).2.1 ≠ (TJ7 b).2.1 := by decide +kernel
theorem tyJ7_ok : ∀ k, k < 0 → parseFieldDescriptor (TJ7 k).2.2.1 = some (tyJ7 k) := by decide +kernel
abbrev cJ7_fill_d0a16 : ByteArray := prog_22_method_101_code
def yJ7_fill_d0a16 : MethodName := ⟨RJ7, "fill", "([JJ)V"⟩
abbrev cJ7_fill_53178 : ByteArray := prog_22_method_103_code
def yJ7_fill_53178 : MethodName := ⟨RJ7, "fill", "([II)V"⟩
abbrev cJ7_copyOf_c38d5 : ByteArray := prog_22_method_124_code
def yJ7_copyOf_c38d5 : MethodName := ⟨RJ7, "copyOf", "([JI)[J"⟩
def RJ3 : String := "jdk/internal/util/Preconditions"
def TJ3 : u_T := fun k => match k with
  | _ => ("", "", "", false)
def tyJ3 : Nat → FieldType := fun k => match k with
  | _ => .int
theorem nmJ3 : ∀ a, a < 0 → ∀ b, b < 0 → a ≠ b → (TJ3 a).2.1 ≠ (TJ3 b).2.1 := by decide +kernel
theorem tyJ3_ok : ∀ k, k < 0 → parseFieldDescriptor (TJ3 k).2.2.1 = some (tyJ3 k) := by decide +kernel
abbrev cJ3_checkIndex_8e157 : ByteArray := prog_23_method_11_code
def yJ3_checkIndex_8e157 : MethodName := ⟨RJ3, "checkIndex", "(IILjava/util/function/BiFunction;)I"⟩
def RL : String := "OneWhistleLaw"
abbrev cL_law : ByteArray := code
def yL_law : MethodName := ⟨RL, "law", "([I)Z"⟩
abbrev vwCl : List vw_C := [(RX0, TX0, 11), (RX1, TX1, 3), (RX2, TX2, 8), (RX3, TX3, 6), (RX4, TX4, 4), (RX5, TX5, 3), (RX6, TX6, 6), (RX7, TX7, 7), (RX8, TX8, 3), (RX9, TX9, 3), (RX10, TX10, 2), (RX11, TX11, 14), (RX12, TX12, 21)]
end
section
/-! ONE MEMORY FOR ALL: the cells that the law's run has made, by address; next address; slots used. A judgement zW: from pc, with locals L, stack stk and memory M, the method returns rv, the memory then M2. -/
abbrev zEn : Type := (FieldType × vp_A) ⊕ (Nat × List Value)
abbrev zMe : Type := (Nat → Option zEn) × Nat × Nat
/-- launch, the law's start, its arguments, class numbers and slots -/
abbrev zG : Type := Launch × State × Array Value × va_G
/-- a method: own class, bytes, size of locals, return type, name, frames, locals' room -/
abbrev zM : Type := String × ByteArray × Nat × Option FieldType × String × Nat × Nat
def zC (g : zG) : Prop := (∀ w ∈ lw_tbl, w.before g.2.2.1 g.2.1 = true) ∧ va_K g.2.2.2 vwCl [] g.2.1
def zAt (g : zG) (q : Nat) (e : zEn) (H : Heap) : Prop := match e with
  | .inl (ty, a) => ∃ cA : ClassId, H[q]? = some (vp_cell cA a) ∧ ArrOfT g.2.1 cA ty ∧ va_RA g.2.1 cA ty
  | .inr (ci, fs) => ∃ r : vw_C, vwCl[ci]? = some r ∧ r.2.2 = fs.length ∧ t_OB q (g.2.2.2.1 ci) r.2.2 (g.2.2.2.2 ci) H (vp_V fs)
def zR (g : zG) (M : zMe) (H : Heap) : Prop := H.size = M.2.1 ∧ g.2.1.heap.size ≤ M.2.1 ∧ (∀ q : Nat, q < g.2.1.heap.size → H[q]? = g.2.1.heap[q]?) ∧ ∀ (q : Nat) (e : zEn), M.1 q = some e → g.2.1.heap.size ≤ q ∧ zAt g q e H
theorem zAt.kept {g : zG} {q : Nat} {e : zEn} {H H1 : Heap} (h : zAt g q e H) (hq : H1[q]? = H[q]?) : zAt g q e H1 := by
  match e, h with
  | .inl (ty, a), ⟨cA, h1, h2⟩ => exact ⟨cA, by rw [hq]; exact h1, h2⟩
  | .inr (ci, fs), ⟨r, h1, h2, h3⟩ => exact ⟨r, h1, h2, h3.kept hq⟩
theorem zAt.lt {g : zG} {q : Nat} {e : zEn} {H : Heap} (h : zAt g q e H) : q < H.size := by
  match e, h with
  | .inl (ty, a), ⟨cA, h1, h2⟩ => exact (Array.getElem?_eq_some_iff.mp h1).1
  | .inr (ci, fs), ⟨r, h1, h2, c0, h3, h4⟩ => exact (Array.getElem?_eq_some_iff.mp h3).1
/-- one cell changed -/
def zSet (M : zMe) (a : Nat) (e : zEn) : zMe := (fun q => if q = a then some e else M.1 q, M.2.1, M.2.2)
/-- one cell more, of n slots -/
def zAdd (M : zMe) (e : zEn) (n : Nat) : zMe := (fun q => if q = M.2.1 then some e else M.1 q, M.2.1 + 1, M.2.2 + n)
theorem zR.set {g : zG} {M : zMe} {H H1 : Heap} {a : Nat} {e e0 : zEn} (h : zR g M H) (h0 : M.1 a = some e0) (hs : H1.size = H.size) (ho : ∀ q : Nat, q ≠ a → H1[q]? = H[q]?) (hn : zAt g a e H1) : zR g (zSet M a e) H1 := by
  obtain ⟨h1, h2, h3, h4⟩ := h
  have hb := (h4 a e0 h0).1
  refine ⟨hs.trans h1, h2, fun q hq => (ho q (by omega)).trans (h3 q hq), fun q e' hq => ?_⟩
  by_cases hqa : q = a
  · subst hqa
    simp only [zSet, if_true] at hq
    cases hq
    exact ⟨hb, hn⟩
  · simp only [zSet, if_neg hqa] at hq
    exact ⟨(h4 q e' hq).1, (h4 q e' hq).2.kept (ho q hqa)⟩
theorem zR.add {g : zG} {M : zMe} {H H1 : Heap} {e : zEn} {n : Nat} (h : zR g M H) (hs : H1.size = M.2.1 + 1) (ho : ∀ q : Nat, q < M.2.1 → H1[q]? = H[q]?) (hn : zAt g M.2.1 e H1) : zR g (zAdd M e n) H1 := by
  obtain ⟨h1, h2, h3, h4⟩ := h
  refine ⟨hs, Nat.le_succ_of_le h2, fun q hq => (ho q (by omega)).trans (h3 q hq), fun q e' hq => ?_⟩
  by_cases hqa : q = M.2.1
  · subst hqa
    simp only [zAdd, if_true] at hq
    cases hq
    exact ⟨h2, hn⟩
  · simp only [zAdd, if_neg hqa] at hq
    exact ⟨(h4 q e' hq).1, (h4 q e' hq).2.kept (ho q (by have := (h4 q e' hq).2.lt; omega))⟩
/-! locals by place; what isn't known (or a long's second half) is .retAddr 0 -/
def zJ : Value → Bool
  | .retAddr _ => true
  | _ => false
def zL (n : Nat) (L : List Value) (ls : Array Slot) : Prop := ls.size = n ∧ L.length = n ∧ lv_wf ls ∧ ∀ (i : Nat) (v : Value), L[i]? = some v → zJ v = false → ls[i]? = some (.val v)
/-- a long ahead of place i is lost when i is written -/
def zk1 : Value → Value
  | .long _ => .retAddr 0
  | .double _ => .retAddr 0
  | w => w
def zK : List Value → Nat → List Value
  | [], _ => []
  | v :: L, 0 => v :: L
  | v :: L, 1 => zk1 v :: L
  | v :: L, i + 2 => v :: zK L (i + 1)
def zS1 (L : List Value) (i : Nat) (v : Value) : List Value := (zK L i).set i v
def zS2 (L : List Value) (i : Nat) (v : Value) : List Value := ((zK L i).set i v).set (i + 1) (.retAddr 0)
theorem zK_len : ∀ (L : List Value) (i : Nat), (zK L i).length = L.length := by
  intro L
  induction L with
  | nil => intro i; cases i <;> rfl
  | cons v L ih =>
    intro i
    match i with
    | 0 => rfl
    | 1 => rfl
    | i + 2 => simp [zK, ih]
theorem zK_at : ∀ (L : List Value) (i j : Nat) (w : Value), (zK L i)[j]? = some w → zJ w = false → L[j]? = some w ∧ (j + 1 = i → w.category ≠ 2) := by
  intro L
  induction L with
  | nil => intro i j w h; cases i <;> simp [zK] at h
  | cons v L ih =>
    intro i j w h hw
    match i with
    | 0 => exact ⟨h, fun e => by omega⟩
    | 1 =>
      match j with
      | 0 =>
        have h : zk1 v = w := by
          have h : (zk1 v :: L)[0]? = some w := h
          simpa using h
        subst h
        cases v <;> first | (simp [zk1, zJ] at hw; done) | (refine ⟨rfl, fun _ => ?_⟩; simp [zk1, Value.category])
      | j + 1 =>
        have h : (zk1 v :: L)[j + 1]? = some w := h
        exact ⟨by simpa using h, fun e => by omega⟩
    | i + 2 =>
      match j with
      | 0 => exact ⟨by simpa [zK] using h, fun e => by omega⟩
      | j + 1 =>
        obtain ⟨a, b⟩ := ih (i + 1) j w (by simpa [zK] using h) hw
        exact ⟨by simpa using a, fun e => b (by omega)⟩
theorem zL.at {n : Nat} {L : List Value} {ls : Array Slot} (h : zL n L ls) {i : Nat} {v : Value} (hi : L[i]? = some v) (hv : zJ v = false) : ls[i]? = some (.val v) := h.2.2.2 i v hi hv
/-- the known places as the kit lists them -/
def zA (L : List Value) : List (Nat × Value) := (List.range L.length).filterMap (fun i => match L[i]? with | some v => if zJ v then none else some (i, v) | none => none)
theorem zA_mem {L : List Value} {i : Nat} {v : Value} : (i, v) ∈ zA L ↔ (L[i]? = some v ∧ zJ v = false) := by
  simp only [zA, List.mem_filterMap, List.mem_range]
  constructor
  · rintro ⟨j, hj, h⟩
    cases hL : L[j]? with
    | none => rw [hL] at h; cases h
    | some w =>
      rw [hL] at h
      simp only at h
      by_cases hw : zJ w = true
      · rw [if_pos hw] at h; cases h
      · rw [if_neg hw] at h
        simp only [Option.some.injEq, Prod.mk.injEq] at h
        obtain ⟨rfl, rfl⟩ := h
        exact ⟨hL, by simpa using hw⟩
  · rintro ⟨h1, h2⟩
    refine ⟨i, (List.getElem?_eq_some_iff.mp h1).1, ?_⟩
    rw [h1]
    simp [h2]
theorem zL.has {n : Nat} {L : List Value} {ls : Array Slot} (h : zL n L ls) : lv_has ls n (zA L) := ⟨h.1, h.2.2.1, fun q hq => by obtain ⟨i, v⟩ := q; obtain ⟨a, b⟩ := zA_mem.mp hq; exact h.2.2.2 i v a b⟩
theorem zL.s1 {n : Nat} {L : List Value} {ls ls' : Array Slot} {i : Nat} {v : Value} (h : zL n L ls) (hl : lv_has ls' n ((i, v) :: (zA L).filter (fun q => !(q.1 == i) && !(q.1 + 1 == i && q.2.category == 2)))) (hi : i < n) : zL n (zS1 L i v) ls' := by
  refine ⟨hl.1, by rw [zS1, List.length_set, zK_len]; exact h.2.1, hl.2.1, fun j w hj hw => ?_⟩
  by_cases hji : j = i
  · subst hji
    rw [zS1, List.getElem?_set_self (by rw [zK_len, h.2.1]; exact hi)] at hj
    cases hj
    exact hl.2.2 _ List.mem_cons_self
  · rw [zS1, List.getElem?_set_ne (Ne.symm hji)] at hj
    obtain ⟨a, b⟩ := zK_at L i j w hj hw
    refine hl.2.2 (j, w) (List.mem_cons_of_mem _ (List.mem_filter.mpr ⟨zA_mem.mpr ⟨a, hw⟩, ?_⟩))
    have hb : ¬ (j + 1 = i ∧ w.category = 2) := fun e => b e.1 e.2
    simp [hji]
    omega
theorem zL.s2 {n : Nat} {L : List Value} {ls ls' : Array Slot} {i : Nat} {v : Value} (h : zL n L ls) (hl : lv_has ls' n ((i, v) :: (zA L).filter (fun q => !(q.1 == i) && (!(q.1 == i + 1) && !(q.1 + 1 == i && q.2.category == 2))))) (hi : i + 1 < n) : zL n (zS2 L i v) ls' := by
  refine ⟨hl.1, by rw [zS2, List.length_set, List.length_set, zK_len]; exact h.2.1, hl.2.1, fun j w hj hw => ?_⟩
  by_cases hj1 : j = i + 1
  · subst hj1
    rw [zS2, List.getElem?_set_self (by rw [List.length_set, zK_len, h.2.1]; exact hi)] at hj
    cases hj
    simp [zJ] at hw
  · rw [zS2, List.getElem?_set_ne (Ne.symm hj1)] at hj
    by_cases hji : j = i
    · subst hji
      rw [List.getElem?_set_self (by rw [zK_len, h.2.1]; omega)] at hj
      cases hj
      exact hl.2.2 _ List.mem_cons_self
    · rw [List.getElem?_set_ne (Ne.symm hji)] at hj
      obtain ⟨a, b⟩ := zK_at L i j w hj hw
      refine hl.2.2 (j, w) (List.mem_cons_of_mem _ (List.mem_filter.mpr ⟨zA_mem.mpr ⟨a, hw⟩, ?_⟩))
      have hb : ¬ (j + 1 = i ∧ w.category = 2) := fun e => b e.1 e.2
      simp [hji, hj1]
      omega
/-- the locals at a method's entry -/
def zE : List Value → List Value
  | [] => []
  | .long x :: vs => .long x :: .retAddr 0 :: zE vs
  | .double x :: vs => .double x :: .retAddr 0 :: zE vs
  | v :: vs => v :: zE vs
theorem zE_at : ∀ (vs : List Value) (k i : Nat) (v : Value), (zE vs)[i]? = some v → zJ v = false → (k + i, v) ∈ lv_args k vs := by
  intro vs
  induction vs with
  | nil => intro k i v h; simp [zE] at h
  | cons u vs ih =>
    intro k i v h hv
    have one : u.category = 1 → (zE (u :: vs)) = u :: zE vs → (k + i, v) ∈ lv_args k (u :: vs) := by
      intro hc he
      rw [he] at h
      have hc2 : ¬ u.category = 2 := by omega
      simp only [lv_args, if_neg hc2]
      match i, h with
      | 0, h => simp at h; subst h; exact List.mem_cons_self
      | i + 1, h =>
        refine List.mem_cons_of_mem _ ?_
        have := ih (k + 1) i v (by simpa using h) hv
        rwa [show k + (i + 1) = k + 1 + i by omega]
    have two : u.category = 2 → (zE (u :: vs)) = u :: .retAddr 0 :: zE vs → (k + i, v) ∈ lv_args k (u :: vs) := by
      intro hc he
      rw [he] at h
      simp only [lv_args, if_pos hc]
      match i, h with
      | 0, h => simp at h; subst h; exact List.mem_cons_self
      | 1, h => simp at h; subst h; simp [zJ] at hv
      | i + 2, h =>
        refine List.mem_cons_of_mem _ ?_
        have := ih (k + 2) i v (by simpa using h) hv
        rwa [show k + (i + 2) = k + 2 + i by omega]
    cases u with
    | long x => exact two rfl rfl
    | double x => exact two rfl rfl
    | int x => exact one rfl rfl
    | float x => exact one rfl rfl
    | null => exact one rfl rfl
    | ref x => exact one rfl rfl
    | retAddr x => exact one rfl rfl
theorem zE_len : ∀ vs : List Value, (zE vs).length = (lg_sl vs).length := by
  intro vs
  induction vs with
  | nil => rfl
  | cons u vs ih => cases u <;> simp [zE, lg_sl, Value.category] at ih ⊢ <;> omega
def zEn0 (n : Nat) (vs : List Value) : List Value := zE vs ++ List.replicate (n - (zE vs).length) (.retAddr 0)
theorem zL.entry {n : Nat} {vs : List Value} (h : (zE vs).length ≤ n) : zL n (zEn0 n vs) ((lg_sl vs ++ List.replicate (n - (lg_sl vs).length) Slot.unset).toArray) := by
  have hl := lv_entry vs (n := n) (by rw [← zE_len]; exact h)
  refine ⟨hl.1, by simp [zEn0]; omega, hl.2.1, fun i v hi hv => ?_⟩
  by_cases hlt : i < (zE vs).length
  · rw [zEn0, List.getElem?_append_left hlt] at hi
    have := zE_at vs 0 i v hi hv
    exact hl.2.2 (i, v) (by simpa using this)
  · rw [zEn0, List.getElem?_append_right (by omega)] at hi
    have := List.eq_of_mem_replicate (List.mem_of_getElem? hi)
    subst this
    simp [zJ] at hv
/-! the judgement -/
def zRet (cc : ByteArray) (pc : Nat) (rv : Option Value) : Prop := match rv with
  | none => decode cc pc = .ok (.return_, 1)
  | some (.int _) => decode cc pc = .ok (.ireturn, 1)
  | some (.long _) => decode cc pc = .ok (.lreturn, 1)
  | some (.ref _) => decode cc pc = .ok (.areturn, 1)
  | some .null => decode cc pc = .ok (.areturn, 1)
  | _ => False
def zF (g : zG) (t : zM) (p : Program) (R : Room) (s : State) (m : MethodId) (meth : Method) (c : Code) : Prop := p.tables.exec = Jvm.exec ∧ c.code = t.2.1 ∧ c.maxLocals = t.2.2.1 ∧ s.vm.findClass t.1 = some m.cls ∧ meth.name = t.2.2.2.2.1 ∧ g.2.1.WarmedH s.vm ∧ t.2.2.2.2.2.1 ≤ R.frames ∧ t.2.2.2.2.2.2 ≤ R.locals
def zW (g : zG) (t : zM) (pc : Nat) (L stk : List Value) (M : zMe) (rv : Option Value) (M2 : zMe) : Prop := M.2.1 ≤ M2.2.1 ∧ M.2.2 ≤ M2.2.2 ∧
  ∀ (p : Program) (e : Env) (R : Room) (s : State) (m : MethodId) (args : Array Value) (below : List Frame) (meth : Method) (c : Code) (H : Heap) (ls : Array Slot) (locs : List Loc) (cells slots : Nat) (Q : State → Prop),
    zF g t p R s m meth c → zR g M H → zL t.2.2.1 L ls → (∀ q ∈ locs, g.2.1.heap.size ≤ q.base) → cells + (M2.2.1 - M.2.1) ≤ R.cells → slots + (M2.2.2 - M.2.2) ≤ R.slots →
    (∀ (pc1 : Nat) (ls1 : Array Slot) (H1 : Heap) (locs1 : List Loc) (cells1 slots1 : Nat), zR g M2 H1 → (∀ q ∈ locs1, g.2.1.heap.size ≤ q.base) → cells1 ≤ R.cells → slots1 ≤ R.slots → zRet t.2.1 pc1 rv → W p g.1 e R s m args below meth c H1 locs1 cells1 slots1 Q (F0 m pc1 ls1 rv.toList)) →
    W p g.1 e R s m args below meth c H locs cells slots Q (F0 m pc ls stk)
section ZW
variable {g : zG} {t : zM} {pc pc2 : Nat} {L L2 stk stk2 r : List Value} {M M1 M2 : zMe} {rv : Option Value}
/-- a step that leaves locals and memory alone -/
theorem zgo (h : ∀ (p : Program) (e : Env) (R : Room) (s : State) (m : MethodId) (args : Array Value) (below : List Frame) (meth : Method) (c : Code) (H : Heap) (ls : Array Slot) (locs : List Loc) (cells slots : Nat) (Q : State → Prop), zF g t p R s m meth c → zL t.2.2.1 L ls → W p g.1 e R s m args below meth c H locs cells slots Q (F0 m pc2 ls stk2) → W p g.1 e R s m args below meth c H locs cells slots Q (F0 m pc ls stk))
    (k : zW g t pc2 L stk2 M rv M2) : zW g t pc L stk M rv M2 :=
  ⟨k.1, k.2.1, fun p e R s m args below meth c H ls locs cells slots Q hF hR hL hl hc hs hQ => h p e R s m args below meth c H ls locs cells slots Q hF hL (k.2.2 p e R s m args below meth c H ls locs cells slots Q hF hR hL hl hc hs hQ)⟩
/-- a step that changes locals -/
theorem zgoL (h : ∀ (p : Program) (e : Env) (R : Room) (s : State) (m : MethodId) (args : Array Value) (below : List Frame) (meth : Method) (c : Code) (H : Heap) (ls : Array Slot) (locs : List Loc) (cells slots : Nat) (Q : State → Prop), zF g t p R s m meth c → zL t.2.2.1 L ls → (∀ ls2, zL t.2.2.1 L2 ls2 → W p g.1 e R s m args below meth c H locs cells slots Q (F0 m pc2 ls2 stk2)) → W p g.1 e R s m args below meth c H locs cells slots Q (F0 m pc ls stk))
    (k : zW g t pc2 L2 stk2 M rv M2) : zW g t pc L stk M rv M2 :=
  ⟨k.1, k.2.1, fun p e R s m args below meth c H ls locs cells slots Q hF hR hL hl hc hs hQ => h p e R s m args below meth c H ls locs cells slots Q hF hL (fun ls2 hL2 => k.2.2 p e R s m args below meth c H ls2 locs cells slots Q hF hR hL2 hl hc hs hQ)⟩
theorem zeq (hL : L = L2) (hs : stk = stk2) (k : zW g t pc L2 stk2 M rv M2) : zW g t pc L stk M rv M2 := by subst hL; subst hs; exact k
end ZW
end
section
section ZR
variable {g : zG} {t : zM} {pc : Nat} {L r : List Value} {M M1 M2 : zMe} {rv : Option Value}
theorem z_iconst {n : Int} (hd : decode t.2.1 pc = .ok (.iconst n, 1)) (k : zW g t (pc + 1) L (.int (Int32.ofInt n) :: r) M rv M2) : zW g t pc L (r) M rv M2 :=
  zgo (fun p e R s m args below meth c H ls locs cells slots Q hF hL k => lv_iconst hF.1 hF.2.1 hd rfl k) k
theorem z_bipush {n : Int} (hd : decode t.2.1 pc = .ok (.bipush n, 2)) (k : zW g t (pc + 2) L (.int ((Int8.ofInt n).toInt32) :: r) M rv M2) : zW g t pc L (r) M rv M2 :=
  zgo (fun p e R s m args below meth c H ls locs cells slots Q hF hL k => lv_bipush hF.1 hF.2.1 hd rfl k) k
theorem z_sipush {n : Int} (hd : decode t.2.1 pc = .ok (.sipush n, 3)) (k : zW g t (pc + 3) L (.int ((Int16.ofInt n).toInt32) :: r) M rv M2) : zW g t pc L (r) M rv M2 :=
  zgo (fun p e R s m args below meth c H ls locs cells slots Q hF hL k => lv_sipush hF.1 hF.2.1 hd rfl k) k
theorem z_lconst {n : Fin 2} (hd : decode t.2.1 pc = .ok (.lconst n, 1)) (k : zW g t (pc + 1) L (.long (Int64.ofNat (n : Nat)) :: r) M rv M2) : zW g t pc L (r) M rv M2 :=
  zgo (fun p e R s m args below meth c H ls locs cells slots Q hF hL k => lv_lconst hF.1 hF.2.1 hd rfl k) k
theorem z_null  (hd : decode t.2.1 pc = .ok (.aconst_null, 1)) (k : zW g t (pc + 1) L (.null :: r) M rv M2) : zW g t pc L (r) M rv M2 :=
  zgo (fun p e R s m args below meth c H ls locs cells slots Q hF hL k => lv_null hF.1 hF.2.1 hd k) k
theorem z_iload_n {n : Fin 4} {x : Int32} (hl : L[(n : Nat)]? = some (.int x)) (hd : decode t.2.1 pc = .ok (.iload_n n, 1)) (k : zW g t (pc + 1) L (.int x :: r) M rv M2) : zW g t pc L (r) M rv M2 :=
  zgo (fun p e R s m args below meth c H ls locs cells slots Q hF hL k => lv_iload_n hF.1 hF.2.1 hd rfl (hL.at hl rfl) k) k
theorem z_iload {n : Nat} {x : Int32} (hl : L[n]? = some (.int x)) (hd : decode t.2.1 pc = .ok (.iload n, 2)) (k : zW g t (pc + 2) L (.int x :: r) M rv M2) : zW g t pc L (r) M rv M2 :=
  zgo (fun p e R s m args below meth c H ls locs cells slots Q hF hL k => lv_iload hF.1 hF.2.1 hd (hL.at hl rfl) k) k
theorem z_lload_n {n : Fin 4} {x : Int64} (hl : L[(n : Nat)]? = some (.long x)) (hd : decode t.2.1 pc = .ok (.lload_n n, 1)) (k : zW g t (pc + 1) L (.long x :: r) M rv M2) : zW g t pc L (r) M rv M2 :=
  zgo (fun p e R s m args below meth c H ls locs cells slots Q hF hL k => lv_lload_n hF.1 hF.2.1 hd rfl (hL.at hl rfl) k) k
theorem z_lload {n : Nat} {x : Int64} (hl : L[n]? = some (.long x)) (hd : decode t.2.1 pc = .ok (.lload n, 2)) (k : zW g t (pc + 2) L (.long x :: r) M rv M2) : zW g t pc L (r) M rv M2 :=
  zgo (fun p e R s m args below meth c H ls locs cells slots Q hF hL k => lv_lload hF.1 hF.2.1 hd (hL.at hl rfl) k) k
theorem z_aload_n {n : Fin 4} {x : Nat} (hl : L[(n : Nat)]? = some (.ref x)) (hd : decode t.2.1 pc = .ok (.aload_n n, 1)) (k : zW g t (pc + 1) L (.ref x :: r) M rv M2) : zW g t pc L (r) M rv M2 :=
  zgo (fun p e R s m args below meth c H ls locs cells slots Q hF hL k => lv_aload_n hF.1 hF.2.1 hd rfl (hL.at hl rfl) k) k
theorem z_aload {n : Nat} {x : Nat} (hl : L[n]? = some (.ref x)) (hd : decode t.2.1 pc = .ok (.aload n, 2)) (k : zW g t (pc + 2) L (.ref x :: r) M rv M2) : zW g t pc L (r) M rv M2 :=
  zgo (fun p e R s m args below meth c H ls locs cells slots Q hF hL k => lv_aload hF.1 hF.2.1 hd (hL.at hl rfl) k) k
theorem z_aload_nN {n : Fin 4} (hl : L[(n : Nat)]? = some .null) (hd : decode t.2.1 pc = .ok (.aload_n n, 1)) (k : zW g t (pc + 1) L (.null :: r) M rv M2) : zW g t pc L (r) M rv M2 :=
  zgo (fun p e R s m args below meth c H ls locs cells slots Q hF hL k => lv_aload_nN hF.1 hF.2.1 hd rfl (hL.at hl rfl) k) k
theorem z_aloadN {n : Nat} (hl : L[n]? = some .null) (hd : decode t.2.1 pc = .ok (.aload n, 2)) (k : zW g t (pc + 2) L (.null :: r) M rv M2) : zW g t pc L (r) M rv M2 :=
  zgo (fun p e R s m args below meth c H ls locs cells slots Q hF hL k => lv_aloadN hF.1 hF.2.1 hd (hL.at hl rfl) k) k
theorem z_istore_n {n : Fin 4} {x : Int32} (hd : decode t.2.1 pc = .ok (.istore_n n, 1)) (hn : (n : Nat) < t.2.2.1) (k : zW g t (pc + 1) (zS1 L n (.int x)) r M rv M2) : zW g t pc L (.int x :: r) M rv M2 :=
  zgoL (fun p e R s m args below meth c H ls locs cells slots Q hF hL k => lv_istore_n hF.1 hF.2.1 hd rfl hL.has hn rfl (fun ls2 h2 => k ls2 (hL.s1 h2 hn))) k
theorem z_istore {n : Nat} {x : Int32} (hd : decode t.2.1 pc = .ok (.istore n, 2)) (hn : n < t.2.2.1) (k : zW g t (pc + 2) (zS1 L n (.int x)) r M rv M2) : zW g t pc L (.int x :: r) M rv M2 :=
  zgoL (fun p e R s m args below meth c H ls locs cells slots Q hF hL k => lv_istore hF.1 hF.2.1 hd hL.has hn rfl (fun ls2 h2 => k ls2 (hL.s1 h2 hn))) k
theorem z_lstore_n {n : Fin 4} {x : Int64} (hd : decode t.2.1 pc = .ok (.lstore_n n, 1)) (hn : (n : Nat) + 1 < t.2.2.1) (k : zW g t (pc + 1) (zS2 L n (.long x)) r M rv M2) : zW g t pc L (.long x :: r) M rv M2 :=
  zgoL (fun p e R s m args below meth c H ls locs cells slots Q hF hL k => lv_lstore_n hF.1 hF.2.1 hd rfl hL.has hn rfl (fun ls2 h2 => k ls2 (hL.s2 h2 hn))) k
theorem z_lstore {n : Nat} {x : Int64} (hd : decode t.2.1 pc = .ok (.lstore n, 2)) (hn : n + 1 < t.2.2.1) (k : zW g t (pc + 2) (zS2 L n (.long x)) r M rv M2) : zW g t pc L (.long x :: r) M rv M2 :=
  zgoL (fun p e R s m args below meth c H ls locs cells slots Q hF hL k => lv_lstore hF.1 hF.2.1 hd hL.has hn rfl (fun ls2 h2 => k ls2 (hL.s2 h2 hn))) k
theorem z_astore_n {n : Fin 4} {x : Nat} (hd : decode t.2.1 pc = .ok (.astore_n n, 1)) (hn : (n : Nat) < t.2.2.1) (k : zW g t (pc + 1) (zS1 L n (.ref x)) r M rv M2) : zW g t pc L (.ref x :: r) M rv M2 :=
  zgoL (fun p e R s m args below meth c H ls locs cells slots Q hF hL k => lv_astore_n hF.1 hF.2.1 hd rfl hL.has hn rfl (fun ls2 h2 => k ls2 (hL.s1 h2 hn))) k
theorem z_astore {n : Nat} {x : Nat} (hd : decode t.2.1 pc = .ok (.astore n, 2)) (hn : n < t.2.2.1) (k : zW g t (pc + 2) (zS1 L n (.ref x)) r M rv M2) : zW g t pc L (.ref x :: r) M rv M2 :=
  zgoL (fun p e R s m args below meth c H ls locs cells slots Q hF hL k => lv_astore hF.1 hF.2.1 hd hL.has hn rfl (fun ls2 h2 => k ls2 (hL.s1 h2 hn))) k
theorem z_astore_nN {n : Fin 4} (hd : decode t.2.1 pc = .ok (.astore_n n, 1)) (hn : (n : Nat) < t.2.2.1) (k : zW g t (pc + 1) (zS1 L n .null) r M rv M2) : zW g t pc L (.null :: r) M rv M2 :=
  zgoL (fun p e R s m args below meth c H ls locs cells slots Q hF hL k => lv_astore_nN hF.1 hF.2.1 hd rfl hL.has hn rfl (fun ls2 h2 => k ls2 (hL.s1 h2 hn))) k
theorem z_astoreN {n : Nat} (hd : decode t.2.1 pc = .ok (.astore n, 2)) (hn : n < t.2.2.1) (k : zW g t (pc + 2) (zS1 L n .null) r M rv M2) : zW g t pc L (.null :: r) M rv M2 :=
  zgoL (fun p e R s m args below meth c H ls locs cells slots Q hF hL k => lv_astoreN hF.1 hF.2.1 hd hL.has hn rfl (fun ls2 h2 => k ls2 (hL.s1 h2 hn))) k
theorem z_iinc {i : Nat} {n : Int} {x : Int32} (hd : decode t.2.1 pc = .ok (.iinc i n, 3)) (hl : L[i]? = some (.int x)) (k : zW g t (pc + 3) (zS1 L i (.int (x + Int32.ofInt n))) r M rv M2) : zW g t pc L r M rv M2 :=
  zgoL (fun p e R s m args below meth c H ls locs cells slots Q hF hL k => by
    have hm : (i, Value.int x) ∈ zA L := zA_mem.mpr ⟨hl, rfl⟩
    obtain ⟨j, hj⟩ := List.getElem?_of_mem hm
    have hn : i < t.2.2.1 := by rw [← hL.2.1]; exact (List.getElem?_eq_some_iff.mp hl).1
    exact lv_iinc hF.1 hF.2.1 hd hL.has hj rfl hn rfl (fun ls2 h2 => k ls2 (hL.s1 h2 hn))) k
theorem z_iadd {x y : Int32} (hd : decode t.2.1 pc = .ok (.iadd, 1)) (k : zW g t (pc + 1) L (.int (x + y) :: r) M rv M2) : zW g t pc L (.int y :: .int x :: r) M rv M2 :=
  zgo (fun p e R s m args below meth c H ls locs cells slots Q hF hL k => lv_iadd hF.1 hF.2.1 hd k) k
theorem z_ladd {x y : Int64} (hd : decode t.2.1 pc = .ok (.ladd, 1)) (k : zW g t (pc + 1) L (.long (x + y) :: r) M rv M2) : zW g t pc L (.long y :: .long x :: r) M rv M2 :=
  zgo (fun p e R s m args below meth c H ls locs cells slots Q hF hL k => lv_ladd hF.1 hF.2.1 hd k) k
theorem z_isub {x y : Int32} (hd : decode t.2.1 pc = .ok (.isub, 1)) (k : zW g t (pc + 1) L (.int (x - y) :: r) M rv M2) : zW g t pc L (.int y :: .int x :: r) M rv M2 :=
  zgo (fun p e R s m args below meth c H ls locs cells slots Q hF hL k => lv_isub hF.1 hF.2.1 hd k) k
theorem z_lsub {x y : Int64} (hd : decode t.2.1 pc = .ok (.lsub, 1)) (k : zW g t (pc + 1) L (.long (x - y) :: r) M rv M2) : zW g t pc L (.long y :: .long x :: r) M rv M2 :=
  zgo (fun p e R s m args below meth c H ls locs cells slots Q hF hL k => lv_lsub hF.1 hF.2.1 hd k) k
theorem z_imul {x y : Int32} (hd : decode t.2.1 pc = .ok (.imul, 1)) (k : zW g t (pc + 1) L (.int (x * y) :: r) M rv M2) : zW g t pc L (.int y :: .int x :: r) M rv M2 :=
  zgo (fun p e R s m args below meth c H ls locs cells slots Q hF hL k => lv_imul hF.1 hF.2.1 hd k) k
theorem z_lmul {x y : Int64} (hd : decode t.2.1 pc = .ok (.lmul, 1)) (k : zW g t (pc + 1) L (.long (x * y) :: r) M rv M2) : zW g t pc L (.long y :: .long x :: r) M rv M2 :=
  zgo (fun p e R s m args below meth c H ls locs cells slots Q hF hL k => lv_lmul hF.1 hF.2.1 hd k) k
theorem z_iand {x y : Int32} (hd : decode t.2.1 pc = .ok (.iand, 1)) (k : zW g t (pc + 1) L (.int (x &&& y) :: r) M rv M2) : zW g t pc L (.int y :: .int x :: r) M rv M2 :=
  zgo (fun p e R s m args below meth c H ls locs cells slots Q hF hL k => lv_iand hF.1 hF.2.1 hd k) k
theorem z_land {x y : Int64} (hd : decode t.2.1 pc = .ok (.land, 1)) (k : zW g t (pc + 1) L (.long (x &&& y) :: r) M rv M2) : zW g t pc L (.long y :: .long x :: r) M rv M2 :=
  zgo (fun p e R s m args below meth c H ls locs cells slots Q hF hL k => lv_land hF.1 hF.2.1 hd k) k
theorem z_ior {x y : Int32} (hd : decode t.2.1 pc = .ok (.ior, 1)) (k : zW g t (pc + 1) L (.int (x ||| y) :: r) M rv M2) : zW g t pc L (.int y :: .int x :: r) M rv M2 :=
  zgo (fun p e R s m args below meth c H ls locs cells slots Q hF hL k => lv_ior hF.1 hF.2.1 hd k) k
theorem z_lor {x y : Int64} (hd : decode t.2.1 pc = .ok (.lor, 1)) (k : zW g t (pc + 1) L (.long (x ||| y) :: r) M rv M2) : zW g t pc L (.long y :: .long x :: r) M rv M2 :=
  zgo (fun p e R s m args below meth c H ls locs cells slots Q hF hL k => lv_lor hF.1 hF.2.1 hd k) k
theorem z_ixor {x y : Int32} (hd : decode t.2.1 pc = .ok (.ixor, 1)) (k : zW g t (pc + 1) L (.int (x ^^^ y) :: r) M rv M2) : zW g t pc L (.int y :: .int x :: r) M rv M2 :=
  zgo (fun p e R s m args below meth c H ls locs cells slots Q hF hL k => lv_ixor hF.1 hF.2.1 hd k) k
theorem z_lxor {x y : Int64} (hd : decode t.2.1 pc = .ok (.lxor, 1)) (k : zW g t (pc + 1) L (.long (x ^^^ y) :: r) M rv M2) : zW g t pc L (.long y :: .long x :: r) M rv M2 :=
  zgo (fun p e R s m args below meth c H ls locs cells slots Q hF hL k => lv_lxor hF.1 hF.2.1 hd k) k
theorem z_idiv {x y : Int32} (hne : ¬ y = 0) (hd : decode t.2.1 pc = .ok (.idiv, 1)) (k : zW g t (pc + 1) L (.int (x / y) :: r) M rv M2) : zW g t pc L (.int y :: .int x :: r) M rv M2 :=
  zgo (fun p e R s m args below meth c H ls locs cells slots Q hF hL k => lv_idiv hF.1 hF.2.1 hd hne k) k
theorem z_irem {x y : Int32} (hne : ¬ y = 0) (hd : decode t.2.1 pc = .ok (.irem, 1)) (k : zW g t (pc + 1) L (.int (x - x / y * y) :: r) M rv M2) : zW g t pc L (.int y :: .int x :: r) M rv M2 :=
  zgo (fun p e R s m args below meth c H ls locs cells slots Q hF hL k => lv_irem hF.1 hF.2.1 hd hne k) k
theorem z_ineg {x : Int32} (hd : decode t.2.1 pc = .ok (.ineg, 1)) (k : zW g t (pc + 1) L (.int (-x) :: r) M rv M2) : zW g t pc L (.int x :: r) M rv M2 :=
  zgo (fun p e R s m args below meth c H ls locs cells slots Q hF hL k => lv_ineg hF.1 hF.2.1 hd k) k
theorem z_ldiv {x y : Int64} (hne : ¬ y = 0) (hd : decode t.2.1 pc = .ok (.ldiv, 1)) (k : zW g t (pc + 1) L (.long (x / y) :: r) M rv M2) : zW g t pc L (.long y :: .long x :: r) M rv M2 :=
  zgo (fun p e R s m args below meth c H ls locs cells slots Q hF hL k => lv_ldiv hF.1 hF.2.1 hd hne k) k
theorem z_lrem {x y : Int64} (hne : ¬ y = 0) (hd : decode t.2.1 pc = .ok (.lrem, 1)) (k : zW g t (pc + 1) L (.long (x - x / y * y) :: r) M rv M2) : zW g t pc L (.long y :: .long x :: r) M rv M2 :=
  zgo (fun p e R s m args below meth c H ls locs cells slots Q hF hL k => lv_lrem hF.1 hF.2.1 hd hne k) k
theorem z_lneg {x : Int64} (hd : decode t.2.1 pc = .ok (.lneg, 1)) (k : zW g t (pc + 1) L (.long (-x) :: r) M rv M2) : zW g t pc L (.long x :: r) M rv M2 :=
  zgo (fun p e R s m args below meth c H ls locs cells slots Q hF hL k => lv_lneg hF.1 hF.2.1 hd k) k
theorem z_ishl {x y : Int32} (hd : decode t.2.1 pc = .ok (.ishl, 1)) (k : zW g t (pc + 1) L (.int (x <<< (y &&& 31)) :: r) M rv M2) : zW g t pc L (.int y :: .int x :: r) M rv M2 :=
  zgo (fun p e R s m args below meth c H ls locs cells slots Q hF hL k => lv_ishl hF.1 hF.2.1 hd k) k
theorem z_ishr {x y : Int32} (hd : decode t.2.1 pc = .ok (.ishr, 1)) (k : zW g t (pc + 1) L (.int (x >>> (y &&& 31)) :: r) M rv M2) : zW g t pc L (.int y :: .int x :: r) M rv M2 :=
  zgo (fun p e R s m args below meth c H ls locs cells slots Q hF hL k => lv_ishr hF.1 hF.2.1 hd k) k
theorem z_iushr {x y : Int32} (hd : decode t.2.1 pc = .ok (.iushr, 1)) (k : zW g t (pc + 1) L (.int ((x.toUInt32 >>> (y.toUInt32 &&& Int32.toUInt32 31)).toInt32) :: r) M rv M2) : zW g t pc L (.int y :: .int x :: r) M rv M2 :=
  zgo (fun p e R s m args below meth c H ls locs cells slots Q hF hL k => lv_iushr hF.1 hF.2.1 hd rfl k) k
theorem z_lshl {x : Int64} {y : Int32} (hd : decode t.2.1 pc = .ok (.lshl, 1)) (k : zW g t (pc + 1) L (.long (x <<< (y.toInt64 &&& 63)) :: r) M rv M2) : zW g t pc L (.int y :: .long x :: r) M rv M2 :=
  zgo (fun p e R s m args below meth c H ls locs cells slots Q hF hL k => lv_lshl hF.1 hF.2.1 hd rfl k) k
theorem z_lshr {x : Int64} {y : Int32} (hd : decode t.2.1 pc = .ok (.lshr, 1)) (k : zW g t (pc + 1) L (.long (x >>> (y.toInt64 &&& 63)) :: r) M rv M2) : zW g t pc L (.int y :: .long x :: r) M rv M2 :=
  zgo (fun p e R s m args below meth c H ls locs cells slots Q hF hL k => lv_lshr hF.1 hF.2.1 hd rfl k) k
theorem z_lushr {x : Int64} {y : Int32} (hd : decode t.2.1 pc = .ok (.lushr, 1)) (k : zW g t (pc + 1) L (.long ((x.toUInt64 >>> (y.toInt64.toUInt64 &&& Int64.toUInt64 63)).toInt64) :: r) M rv M2) : zW g t pc L (.int y :: .long x :: r) M rv M2 :=
  zgo (fun p e R s m args below meth c H ls locs cells slots Q hF hL k => lv_lushr hF.1 hF.2.1 hd rfl k) k
theorem z_i2l {x : Int32} (hd : decode t.2.1 pc = .ok (.i2l, 1)) (k : zW g t (pc + 1) L (.long x.toInt64 :: r) M rv M2) : zW g t pc L (.int x :: r) M rv M2 :=
  zgo (fun p e R s m args below meth c H ls locs cells slots Q hF hL k => lv_i2l hF.1 hF.2.1 hd rfl k) k
theorem z_l2i {x : Int64} (hd : decode t.2.1 pc = .ok (.l2i, 1)) (k : zW g t (pc + 1) L (.int x.toInt32 :: r) M rv M2) : zW g t pc L (.long x :: r) M rv M2 :=
  zgo (fun p e R s m args below meth c H ls locs cells slots Q hF hL k => lv_l2i hF.1 hF.2.1 hd rfl k) k
theorem z_i2b {x : Int32} (hd : decode t.2.1 pc = .ok (.i2b, 1)) (k : zW g t (pc + 1) L (.int x.toInt8.toInt32 :: r) M rv M2) : zW g t pc L (.int x :: r) M rv M2 :=
  zgo (fun p e R s m args below meth c H ls locs cells slots Q hF hL k => lv_i2b hF.1 hF.2.1 hd rfl k) k
theorem z_i2c {x : Int32} (hd : decode t.2.1 pc = .ok (.i2c, 1)) (k : zW g t (pc + 1) L (.int (x.toUInt32 % 65536).toInt32 :: r) M rv M2) : zW g t pc L (.int x :: r) M rv M2 :=
  zgo (fun p e R s m args below meth c H ls locs cells slots Q hF hL k => lv_i2c hF.1 hF.2.1 hd rfl k) k
theorem z_dup {v : Value} (hv : v.category = 1) (hd : decode t.2.1 pc = .ok (.dup, 1)) (k : zW g t (pc + 1) L (v :: v :: r) M rv M2) : zW g t pc L (v :: r) M rv M2 :=
  zgo (fun p e R s m args below meth c H ls locs cells slots Q hF hL k => lv_dup hF.1 hF.2.1 hd hv k) k
theorem z_pop {v : Value} (hv : v.category = 1) (hd : decode t.2.1 pc = .ok (.pop, 1)) (k : zW g t (pc + 1) L (r) M rv M2) : zW g t pc L (v :: r) M rv M2 :=
  zgo (fun p e R s m args below meth c H ls locs cells slots Q hF hL k => lv_pop hF.1 hF.2.1 hd hv k) k
theorem z_dup2 {v w : Value} (hv : v.category = 1) (hw : w.category = 1) (hd : decode t.2.1 pc = .ok (.dup2, 1)) (k : zW g t (pc + 1) L (v :: w :: v :: w :: r) M rv M2) : zW g t pc L (v :: w :: r) M rv M2 :=
  zgo (fun p e R s m args below meth c H ls locs cells slots Q hF hL k => lv_dup2_11 hF.1 hF.2.1 hd hv hw k) k
theorem z_dup_x1 {v w : Value} (hv : v.category = 1) (hw : w.category = 1) (hd : decode t.2.1 pc = .ok (.dup_x1, 1)) (k : zW g t (pc + 1) L (v :: w :: v :: r) M rv M2) : zW g t pc L (v :: w :: r) M rv M2 :=
  zgo (fun p e R s m args below meth c H ls locs cells slots Q hF hL k => lv_dup_x1 hF.1 hF.2.1 hd hv hw k) k
def zcmp (x y : Int64) : Int32 := if y < x then 1 else if x = y then 0 else -1
theorem z_goto {off : Int} {tgt : Nat} (hd : decode t.2.1 pc = .ok (.goto off, 3)) (ht : (pc : Int) + off = (tgt : Int)) (k : zW g t tgt L r M rv M2) : zW g t pc L r M rv M2 :=
  zgo (fun p e R s m args below meth c H ls locs cells slots Q hF hL k => lv_goto hF.1 hF.2.1 hd ht k) k
theorem z_if_eq {x : Int32} {off : Int} {tgt : Nat} (hd : decode t.2.1 pc = .ok (.ifCond .eq off, 3)) (ht : (pc : Int) + off = (tgt : Int)) (kt : x = 0 → zW g t tgt L r M rv M2) (kf : ¬ (x = 0) → zW g t (pc + 3) L r M rv M2) : zW g t pc L (.int x :: r) M rv M2 := by
  by_cases hc : x = 0
  · exact zgo (fun p e R s m args below meth c H ls locs cells slots Q hF hL k => lv_if_eq hF.1 hF.2.1 hd ht (fun _ => k) (fun h => absurd hc h)) (kt hc)
  · exact zgo (fun p e R s m args below meth c H ls locs cells slots Q hF hL k => lv_if_eq hF.1 hF.2.1 hd ht (fun h => absurd h hc) (fun _ => k)) (kf hc)
theorem z_icmp_eq {x y : Int32} {off : Int} {tgt : Nat} (hd : decode t.2.1 pc = .ok (.if_icmp .eq off, 3)) (ht : (pc : Int) + off = (tgt : Int)) (kt : x = y → zW g t tgt L r M rv M2) (kf : ¬ (x = y) → zW g t (pc + 3) L r M rv M2) : zW g t pc L (.int y :: .int x :: r) M rv M2 := by
  by_cases hc : x = y
  · exact zgo (fun p e R s m args below meth c H ls locs cells slots Q hF hL k => lv_icmp_eq hF.1 hF.2.1 hd ht (fun _ => k) (fun h => absurd hc h)) (kt hc)
  · exact zgo (fun p e R s m args below meth c H ls locs cells slots Q hF hL k => lv_icmp_eq hF.1 hF.2.1 hd ht (fun h => absurd h hc) (fun _ => k)) (kf hc)
theorem z_if_lt {x : Int32} {off : Int} {tgt : Nat} (hd : decode t.2.1 pc = .ok (.ifCond .lt off, 3)) (ht : (pc : Int) + off = (tgt : Int)) (kt : x < 0 → zW g t tgt L r M rv M2) (kf : ¬ (x < 0) → zW g t (pc + 3) L r M rv M2) : zW g t pc L (.int x :: r) M rv M2 := by
  by_cases hc : x < 0
  · exact zgo (fun p e R s m args below meth c H ls locs cells slots Q hF hL k => lv_if_lt hF.1 hF.2.1 hd ht (fun _ => k) (fun h => absurd hc h)) (kt hc)
  · exact zgo (fun p e R s m args below meth c H ls locs cells slots Q hF hL k => lv_if_lt hF.1 hF.2.1 hd ht (fun h => absurd h hc) (fun _ => k)) (kf hc)
theorem z_icmp_lt {x y : Int32} {off : Int} {tgt : Nat} (hd : decode t.2.1 pc = .ok (.if_icmp .lt off, 3)) (ht : (pc : Int) + off = (tgt : Int)) (kt : x < y → zW g t tgt L r M rv M2) (kf : ¬ (x < y) → zW g t (pc + 3) L r M rv M2) : zW g t pc L (.int y :: .int x :: r) M rv M2 := by
  by_cases hc : x < y
  · exact zgo (fun p e R s m args below meth c H ls locs cells slots Q hF hL k => lv_icmp_lt hF.1 hF.2.1 hd ht (fun _ => k) (fun h => absurd hc h)) (kt hc)
  · exact zgo (fun p e R s m args below meth c H ls locs cells slots Q hF hL k => lv_icmp_lt hF.1 hF.2.1 hd ht (fun h => absurd h hc) (fun _ => k)) (kf hc)
theorem z_if_ge {x : Int32} {off : Int} {tgt : Nat} (hd : decode t.2.1 pc = .ok (.ifCond .ge off, 3)) (ht : (pc : Int) + off = (tgt : Int)) (kt : 0 ≤ x → zW g t tgt L r M rv M2) (kf : ¬ (0 ≤ x) → zW g t (pc + 3) L r M rv M2) : zW g t pc L (.int x :: r) M rv M2 := by
  by_cases hc : 0 ≤ x
  · exact zgo (fun p e R s m args below meth c H ls locs cells slots Q hF hL k => lv_if_ge hF.1 hF.2.1 hd ht (fun _ => k) (fun h => absurd hc h)) (kt hc)
  · exact zgo (fun p e R s m args below meth c H ls locs cells slots Q hF hL k => lv_if_ge hF.1 hF.2.1 hd ht (fun h => absurd h hc) (fun _ => k)) (kf hc)
theorem z_icmp_ge {x y : Int32} {off : Int} {tgt : Nat} (hd : decode t.2.1 pc = .ok (.if_icmp .ge off, 3)) (ht : (pc : Int) + off = (tgt : Int)) (kt : y ≤ x → zW g t tgt L r M rv M2) (kf : ¬ (y ≤ x) → zW g t (pc + 3) L r M rv M2) : zW g t pc L (.int y :: .int x :: r) M rv M2 := by
  by_cases hc : y ≤ x
  · exact zgo (fun p e R s m args below meth c H ls locs cells slots Q hF hL k => lv_icmp_ge hF.1 hF.2.1 hd ht (fun _ => k) (fun h => absurd hc h)) (kt hc)
  · exact zgo (fun p e R s m args below meth c H ls locs cells slots Q hF hL k => lv_icmp_ge hF.1 hF.2.1 hd ht (fun h => absurd h hc) (fun _ => k)) (kf hc)
theorem z_if_gt {x : Int32} {off : Int} {tgt : Nat} (hd : decode t.2.1 pc = .ok (.ifCond .gt off, 3)) (ht : (pc : Int) + off = (tgt : Int)) (kt : 0 < x → zW g t tgt L r M rv M2) (kf : ¬ (0 < x) → zW g t (pc + 3) L r M rv M2) : zW g t pc L (.int x :: r) M rv M2 := by
  by_cases hc : 0 < x
  · exact zgo (fun p e R s m args below meth c H ls locs cells slots Q hF hL k => lv_if_gt hF.1 hF.2.1 hd ht (fun _ => k) (fun h => absurd hc h)) (kt hc)
  · exact zgo (fun p e R s m args below meth c H ls locs cells slots Q hF hL k => lv_if_gt hF.1 hF.2.1 hd ht (fun h => absurd h hc) (fun _ => k)) (kf hc)
theorem z_icmp_gt {x y : Int32} {off : Int} {tgt : Nat} (hd : decode t.2.1 pc = .ok (.if_icmp .gt off, 3)) (ht : (pc : Int) + off = (tgt : Int)) (kt : y < x → zW g t tgt L r M rv M2) (kf : ¬ (y < x) → zW g t (pc + 3) L r M rv M2) : zW g t pc L (.int y :: .int x :: r) M rv M2 := by
  by_cases hc : y < x
  · exact zgo (fun p e R s m args below meth c H ls locs cells slots Q hF hL k => lv_icmp_gt hF.1 hF.2.1 hd ht (fun _ => k) (fun h => absurd hc h)) (kt hc)
  · exact zgo (fun p e R s m args below meth c H ls locs cells slots Q hF hL k => lv_icmp_gt hF.1 hF.2.1 hd ht (fun h => absurd h hc) (fun _ => k)) (kf hc)
theorem z_if_le {x : Int32} {off : Int} {tgt : Nat} (hd : decode t.2.1 pc = .ok (.ifCond .le off, 3)) (ht : (pc : Int) + off = (tgt : Int)) (kt : x ≤ 0 → zW g t tgt L r M rv M2) (kf : ¬ (x ≤ 0) → zW g t (pc + 3) L r M rv M2) : zW g t pc L (.int x :: r) M rv M2 := by
  by_cases hc : x ≤ 0
  · exact zgo (fun p e R s m args below meth c H ls locs cells slots Q hF hL k => lv_if_le hF.1 hF.2.1 hd ht (fun _ => k) (fun h => absurd hc h)) (kt hc)
  · exact zgo (fun p e R s m args below meth c H ls locs cells slots Q hF hL k => lv_if_le hF.1 hF.2.1 hd ht (fun h => absurd h hc) (fun _ => k)) (kf hc)
theorem z_icmp_le {x y : Int32} {off : Int} {tgt : Nat} (hd : decode t.2.1 pc = .ok (.if_icmp .le off, 3)) (ht : (pc : Int) + off = (tgt : Int)) (kt : x ≤ y → zW g t tgt L r M rv M2) (kf : ¬ (x ≤ y) → zW g t (pc + 3) L r M rv M2) : zW g t pc L (.int y :: .int x :: r) M rv M2 := by
  by_cases hc : x ≤ y
  · exact zgo (fun p e R s m args below meth c H ls locs cells slots Q hF hL k => lv_icmp_le hF.1 hF.2.1 hd ht (fun _ => k) (fun h => absurd hc h)) (kt hc)
  · exact zgo (fun p e R s m args below meth c H ls locs cells slots Q hF hL k => lv_icmp_le hF.1 hF.2.1 hd ht (fun h => absurd h hc) (fun _ => k)) (kf hc)
theorem z_if_ne {x : Int32} {off : Int} {tgt : Nat} (hd : decode t.2.1 pc = .ok (.ifCond .ne off, 3)) (ht : (pc : Int) + off = (tgt : Int)) (kt : ¬ (x = 0) → zW g t tgt L r M rv M2) (kf : x = 0 → zW g t (pc + 3) L r M rv M2) : zW g t pc L (.int x :: r) M rv M2 := by
  by_cases hc : x = 0
  · exact zgo (fun p e R s m args below meth c H ls locs cells slots Q hF hL k => lv_if_ne hF.1 hF.2.1 hd ht (fun h => absurd hc h) (fun _ => k)) (kf hc)
  · exact zgo (fun p e R s m args below meth c H ls locs cells slots Q hF hL k => lv_if_ne hF.1 hF.2.1 hd ht (fun _ => k) (fun h => absurd h hc)) (kt hc)
theorem z_icmp_ne {x y : Int32} {off : Int} {tgt : Nat} (hd : decode t.2.1 pc = .ok (.if_icmp .ne off, 3)) (ht : (pc : Int) + off = (tgt : Int)) (kt : ¬ (x = y) → zW g t tgt L r M rv M2) (kf : x = y → zW g t (pc + 3) L r M rv M2) : zW g t pc L (.int y :: .int x :: r) M rv M2 := by
  by_cases hc : x = y
  · exact zgo (fun p e R s m args below meth c H ls locs cells slots Q hF hL k => lv_icmp_ne hF.1 hF.2.1 hd ht (fun h => absurd hc h) (fun _ => k)) (kf hc)
  · exact zgo (fun p e R s m args below meth c H ls locs cells slots Q hF hL k => lv_icmp_ne hF.1 hF.2.1 hd ht (fun _ => k) (fun h => absurd h hc)) (kt hc)
theorem z_lcmp {x y : Int64} (hd : decode t.2.1 pc = .ok (.lcmp, 1)) (k : zW g t (pc + 1) L (.int (lg_cmp x y) :: r) M rv M2) : zW g t pc L (.long y :: .long x :: r) M rv M2 :=
  zgo (fun p e R s m args below meth c H ls locs cells slots Q hF hL k => W.lcmp hF.1 hF.2.1 hd k) k
theorem z_ifnull {x : Nat} {off : Int} (hd : decode t.2.1 pc = .ok (.ifnull off, 3)) (k : zW g t (pc + 3) L r M rv M2) : zW g t pc L (.ref x :: r) M rv M2 :=
  zgo (fun p e R s m args below meth c H ls locs cells slots Q hF hL k => lv_ifnull hF.1 hF.2.1 hd k) k
theorem z_ifnullN {off : Int} {tgt : Nat} (hd : decode t.2.1 pc = .ok (.ifnull off, 3)) (ht : (pc : Int) + off = (tgt : Int)) (k : zW g t tgt L r M rv M2) : zW g t pc L (.null :: r) M rv M2 :=
  zgo (fun p e R s m args below meth c H ls locs cells slots Q hF hL k => lv_ifnullN hF.1 hF.2.1 hd ht k) k
theorem z_ifnonnull {x : Nat} {off : Int} {tgt : Nat} (hd : decode t.2.1 pc = .ok (.ifnonnull off, 3)) (ht : (pc : Int) + off = (tgt : Int)) (k : zW g t tgt L r M rv M2) : zW g t pc L (.ref x :: r) M rv M2 :=
  zgo (fun p e R s m args below meth c H ls locs cells slots Q hF hL k => lv_ifnonnull hF.1 hF.2.1 hd ht k) k
theorem z_ifnonnullN {off : Int} (hd : decode t.2.1 pc = .ok (.ifnonnull off, 3)) (k : zW g t (pc + 3) L r M rv M2) : zW g t pc L (.null :: r) M rv M2 :=
  zgo (fun p e R s m args below meth c H ls locs cells slots Q hF hL k => lv_ifnonnullN hF.1 hF.2.1 hd k) k
/-- a good word of the tables, inside a method -/
theorem zw_at (hC : zC g) {p : Program} {R : Room} {s : State} {m : MethodId} {meth : Method} {c : Code} (hF : zF g t p R s m meth c) {w : Cond} (hw : w ∈ lw_tbl) (hg : goodWord w = true) (a : Array Value) : w.before a s = true := word_at hF.2.2.2.2.2.1 (good_of_word hg) (hC.1 w hw)
theorem z_ldc (hC : zC g) {n : Nat} {v : Int32} (hd : decode t.2.1 pc = .ok (.ldc n, 2)) (hw : Cond.constant t.1 n v ∈ lw_tbl) (k : zW g t (pc + 2) L (.int v :: r) M rv M2) : zW g t pc L r M rv M2 :=
  zgo (fun p e R s m args below meth c H ls locs cells slots Q hF hL k => lv_ldc hF.1 hF.2.1 hF.2.2.2.1 (zw_at hC hF hw rfl args) hd k) k
theorem z_ldc_w (hC : zC g) {n : Nat} {v : Int32} (hd : decode t.2.1 pc = .ok (.ldc_w n, 3)) (hw : Cond.constant t.1 n v ∈ lw_tbl) (k : zW g t (pc + 3) L (.int v :: r) M rv M2) : zW g t pc L r M rv M2 :=
  zgo (fun p e R s m args below meth c H ls locs cells slots Q hF hL k => lv_ldcw hF.1 hF.2.1 hF.2.2.2.1 (zw_at hC hF hw rfl args) hd k) k
theorem z_ldc2 (hC : zC g) {n : Nat} {v : Int64} (hd : decode t.2.1 pc = .ok (.ldc2_w n, 3)) (hw : Cond.constantLong t.1 n v ∈ lw_tbl) (k : zW g t (pc + 3) L (.long v :: r) M rv M2) : zW g t pc L r M rv M2 :=
  zgo (fun p e R s m args below meth c H ls locs cells slots Q hF hL k => lv_ldc2 hF.1 hF.2.1 hF.2.2.2.1 (zw_at hC hF hw rfl args) hd k) k
theorem z_objInit (hC : zC g) {a n : Nat} (hd : decode t.2.1 pc = .ok (.invokespecial n, 3)) (hw : Cond.methodLink t.1 n Lib.objectInit ∈ lw_tbl) (hw1 : Cond.instanceMethod Lib.objectInit ∈ lw_tbl) (hw2 : Cond.code Lib.objectInit ⟨#[0xb1]⟩ 1 none ∈ lw_tbl) (hfr : 1 ≤ t.2.2.2.2.2.1) (hlo : (r.map fun v => v.category).sum + 12 ≤ t.2.2.2.2.2.2) (k : zW g t (pc + 3) L r M rv M2) : zW g t pc L (.ref a :: r) M rv M2 :=
  zgo (fun p e R s m args below meth c H ls locs cells slots Q hF hL k => W.objInit hF.1 hF.2.1 hF.2.2.2.1 (zw_at hC hF hw rfl args) (zw_at hC hF hw1 rfl args) (zw_at hC hF hw2 rfl args) rfl (by rw [hF.2.2.1]; exact hL.1) rfl hd (Nat.le_trans hfr hF.2.2.2.2.2.2.1) (by
    have h1 : (F0 m pc ls (.ref a :: r)).monitorRoom = 0 := rfl
    rw [h1]
    have := hF.2.2.2.2.2.2.2
    omega) k) k
theorem z_iret {x : Int32} (hd : decode t.2.1 pc = .ok (.ireturn, 1)) : zW g t pc L [.int x] M (some (.int x)) M :=
  ⟨Nat.le_refl _, Nat.le_refl _, fun p e R s m args below meth c H ls locs cells slots Q hF hR hL hl hc hs hQ => hQ pc ls H locs cells slots hR hl (by omega) (by omega) hd⟩
theorem z_lret {x : Int64} (hd : decode t.2.1 pc = .ok (.lreturn, 1)) : zW g t pc L [.long x] M (some (.long x)) M :=
  ⟨Nat.le_refl _, Nat.le_refl _, fun p e R s m args below meth c H ls locs cells slots Q hF hR hL hl hc hs hQ => hQ pc ls H locs cells slots hR hl (by omega) (by omega) hd⟩
theorem z_aret {x : Nat} (hd : decode t.2.1 pc = .ok (.areturn, 1)) : zW g t pc L [.ref x] M (some (.ref x)) M :=
  ⟨Nat.le_refl _, Nat.le_refl _, fun p e R s m args below meth c H ls locs cells slots Q hF hR hL hl hc hs hQ => hQ pc ls H locs cells slots hR hl (by omega) (by omega) hd⟩
theorem z_aretN (hd : decode t.2.1 pc = .ok (.areturn, 1)) : zW g t pc L [.null] M (some .null) M :=
  ⟨Nat.le_refl _, Nat.le_refl _, fun p e R s m args below meth c H ls locs cells slots Q hF hR hL hl hc hs hQ => hQ pc ls H locs cells slots hR hl (by omega) (by omega) hd⟩
theorem z_ret (hd : decode t.2.1 pc = .ok (.return_, 1)) : zW g t pc L [] M none M :=
  ⟨Nat.le_refl _, Nat.le_refl _, fun p e R s m args below meth c H ls locs cells slots Q hF hR hL hl hc hs hQ => hQ pc ls H locs cells slots hR hl (by omega) (by omega) hd⟩
end ZR
end
section
/-- what is known of a class of the worlds: number, name, fields, their types -/
def zCl (ci : Nat) (C : String) (T : u_T) (N : Nat) (ty : Nat → FieldType) : Prop := vwCl[ci]? = some (C, T, N) ∧ (∀ w ∈ u_ws C T N, w ∈ lw_tbl) ∧ (∀ k, k < N → parseFieldDescriptor (T k).2.2.1 = some (ty k)) ∧ (∀ a, a < N → ∀ b, b < N → a ≠ b → (T a).2.1 ≠ (T b).2.1)
theorem u_good (C : String) (T : u_T) (N : Nat) : ∀ w ∈ u_ws C T N, goodWord w = true := by
  intro w hw
  obtain ⟨k, -, rfl⟩ := List.mem_map.mp hw
  unfold u_lay
  split <;> rfl
/-- a field as a class's method names it by number n: it is field k of class ci -/
def zFl (own : String) (n : Nat) (T : u_T) (k : Nat) : Prop := ∃ ref : String, Cond.fieldLink own n ref (T k).2.1 (T k).2.2.1 ∈ lw_tbl ∧ (ref = (T k).1 ∨ Cond.sameField ref (T k).1 (T k).2.1 (T k).2.2.1 ∈ lw_tbl)
section ZM
variable {g : zG} {t : zM} {pc : Nat} {L r : List Value} {M M1 M2 : zMe} {rv : Option Value}
theorem zF.K (hC : zC g) {p : Program} {R : Room} {s : State} {m : MethodId} {meth : Method} {c : Code} (hF : zF g t p R s m meth c) : va_K g.2.2.2 vwCl [] s := va_K.moved hF.2.2.2.2.2.1.alike hC.2
theorem zF.arr {p : Program} {R : Room} {s : State} {m : MethodId} {meth : Method} {c : Code} (hF : zF g t p R s m meth c) {cA : ClassId} {ty : FieldType} (h : ArrOfT g.2.1 cA ty) : ArrOfT s cA ty := arrOfT_moved hF.2.2.2.2.2.1.alike h
theorem z_getf (hC : zC g) {ci : Nat} {C : String} {T : u_T} {N : Nat} {ty : Nat → FieldType} (hc : zCl ci C T N ty) {a n : Nat} {fs : List Value} {v : Value} (k : Nat) (hk : k < N) (hf : zFl t.1 n T k) (hM : M.1 a = some (.inr (ci, fs))) (hv : fs[k]? = some v) (hd : decode t.2.1 pc = .ok (.getfield n, 3))
    (kk : zW g t (pc + 3) L (v :: r) M rv M2) : zW g t pc L (.ref a :: r) M rv M2 := by
  refine ⟨kk.1, kk.2.1, fun p e R s m args below meth c H ls locs cells slots Q hF hR hL hl hcc hss hQ => ?_⟩
  have K := kk.2.2 p e R s m args below meth c H ls locs cells slots Q hF hR hL hl hcc hss hQ
  obtain ⟨hci, hin, hty, hnm⟩ := hc
  obtain ⟨ref, hw, hsm⟩ := hf
  obtain ⟨-, q0, h1, h2, cell, q1, q2, q3, q4⟩ := hR.2.2.2 a _ hM
  have hr : q0 = (C, T, N) := Option.some.inj (h1.symm.trans hci)
  subst hr
  have hKK := hF.K hC
  obtain ⟨hS, hfc, kC, hkC, hkind⟩ := hKK.1 ci _ hci
  obtain ⟨cf, kf, fi, f, hi, hsl⟩ := hS k hk
  have hts : ∀ w ∈ u_ws C T N, w.before args s = true := fun w h => zw_at hC hF (hin w h) (u_good C T N w h) args
  have hsame : s.fieldFound? ref (T k).2.1 (T k).2.2.1 = some (cf, kf, fi, f) := by
    rcases hsm with h | h
    · rw [h]; exact hi
    · exact u_same (zw_at hC hF h rfl args) _ hi
  refine W.getf hF.1 hF.2.1 hF.2.2.2.1 (zw_at hC hF hw rfl args) hsame (u_facts hfc hkC (u_lays hts (fun _ h => h) hk) hi).1 q1 (by rw [q3]; exact fun h => by cases h) (v := v) ?_ rfl rfl hd K
  rw [hsl, q4 k hk]
  simp [vp_V, hv]
theorem z_putf (hC : zC g) {ci : Nat} {C : String} {T : u_T} {N : Nat} {ty : Nat → FieldType} (hc : zCl ci C T N ty) {a n : Nat} {fs : List Value} {v : Value} (k : Nat) (hk : k < N) (hf : zFl t.1 n T k) (hfin : (T k).2.2.2 = false ∨ (t.2.2.2.2.1 = "<init>" ∧ (T k).2.2.2 = true ∧ (T k).1 = t.1)) (hM : M.1 a = some (.inr (ci, fs))) (hn : narrow (ty k) v = v) (hft : fits (ty k) v = true) (hd : decode t.2.1 pc = .ok (.putfield n, 3))
    (kk : zW g t (pc + 3) L r (zSet M a (.inr (ci, fs.set k v))) rv M2) : zW g t pc L (v :: .ref a :: r) M rv M2 := by
  refine ⟨kk.1, kk.2.1, fun p e R s m args below meth c H ls locs cells slots Q hF hR hL hl hcc hss hQ => ?_⟩
  obtain ⟨hci, hin, hty, hnm⟩ := hc
  obtain ⟨ref, hw, hsm⟩ := hf
  obtain ⟨hba, q0, h1, h2, cell, q1, q2, q3, q4⟩ := hR.2.2.2 a _ hM
  have hr : q0 = (C, T, N) := Option.some.inj (h1.symm.trans hci)
  subst hr
  have hKK := hF.K hC
  have hts : ∀ w ∈ u_ws C T N, w.before args s = true := fun w h => zw_at hC hF (hin w h) (u_good C T N w h) args
  have hap := va_apart (own := t.1) hts (fun _ h => h) ty hty hnm hKK hci
  obtain ⟨hS, hfc, kC, hkC, hkind⟩ := hKK.1 ci _ hci
  obtain ⟨cf, kf, fi, f, hi, hsl⟩ := hS k hk
  have hsame : s.fieldFound? ref (T k).2.1 (T k).2.2.1 = some (cf, kf, fi, f) := by
    rcases hsm with h | h
    · rw [h]; exact hi
    · exact u_same (zw_at hC hF h rfl args) _ hi
  have hlay := hts _ (u_in_lay hk)
  unfold u_lay at hlay
  have hst := (u_facts hfc hkC (u_lays hts (fun _ h => h) hk) hi).1
  have hkl : k < fs.length := by rw [← h2]; exact hk
  have done : ∀ H1 : Heap, H1[a]? = some (cell.setSlot f.slot v) → H1.size = H.size → (∀ q, q ≠ a → H1[q]? = H[q]?) → W p g.1 e R s m args below meth c H1 (locs ++ [⟨a, f.slot⟩]) cells slots Q (F0 m (pc + 3) ls r) := by
    intro H1 e1 e2 e3
    rw [hsl] at e1
    refine kk.2.2 p e R s m args below meth c H1 ls _ cells slots Q hF (hR.set hM e2 e3 ⟨_, hci, by rw [List.length_set]; exact h2, ?_⟩) hL ?_ hcc hss hQ
    · exact t_OB.to (V := updV (vp_V fs) k v) ⟨_, e1, q2, q3, t_set q4 hap hk v⟩ (fun j _ => vp_updV_set hkl v j)
    · intro q hq
      rcases List.mem_append.mp hq with h | h
      · exact hl q h
      · rw [List.mem_singleton.mp h]; exact hba
  rcases hfin with hfin | ⟨hinit, hfin, hdecl⟩
  · rw [if_neg (by rw [hfin]; decide)] at hlay
    have h6 := u_store hfc hkC hkind hlay hi (hty k hk) hn hft
    exact W.putK hF.1 hF.2.1 (f := f) ⟨hF.2.2.2.1, zw_at hC hF hw rfl args, ⟨_, _, _, hsame⟩, hst⟩ (by rw [q2]; exact h6) q1 q3 (by rw [hsl]; exact k2_hasslot (q4 k hk)) rfl rfl hd done
  · rw [if_pos hfin] at hlay
    have hcf : m.cls = cf := by
      obtain ⟨_, _, c', _, _, _, -, -, hf', -, -, -, hown2, -⟩ := Cond.laysFinal_spec hlay
      have e1 : c' = cf := by have := hi.symm.trans hf'; simp at this; exact this.1.symm
      rw [hdecl] at hown2
      rw [← e1]; exact Option.some.inj (hF.2.2.2.1.symm.trans hown2)
    have h6 := u_fits hfc hkC hkind (Or.inr hlay) hi (hty k hk) hn hft
    exact W.putFinK hF.1 hF.2.1 hF.2.2.2.1 (zw_at hC hF hw rfl args) hsame hst hcf (by rw [hF.2.2.2.2.1]; exact hinit) (by rw [q2]; exact h6) q1 q3 (by rw [hsl]; exact k2_hasslot (q4 k hk)) rfl rfl hd done
theorem z_new (hC : zC g) {ci : Nat} {C : String} {T : u_T} {N : Nat} {ty : Nat → FieldType} (hc : zCl ci C T N ty) {n : Nat} {fs : List Value} (hw : Cond.classLink t.1 n C ∈ lw_tbl) (hw1 : Cond.instantiable C N ∈ lw_tbl) (hw2 : Cond.initialized C ∈ lw_tbl) (hlen : N = fs.length) (hfs : ∀ j, j < N → defaultValue (ty j) = vp_V fs j) (hd : decode t.2.1 pc = .ok (.new n, 3))
    (kk : zW g t (pc + 3) L (.ref M.2.1 :: r) (zAdd M (.inr (ci, fs)) N) rv M2) : zW g t pc L r M rv M2 := by
  have hn1 : M.2.1 + 1 ≤ M2.2.1 := kk.1
  have hn2 : M.2.2 + N ≤ M2.2.2 := kk.2.1
  refine ⟨by omega, by omega, fun p e R s m args below meth c H ls locs cells slots Q hF hR hL hl hcc hss hQ => ?_⟩
  obtain ⟨hci, hin, hty, hnm⟩ := hc
  have hKn := (hF.K hC).1 ci _ hci
  have hts : ∀ w ∈ u_ws C T N, w.before args s = true := fun w h => zw_at hC hF (hin w h) (u_good C T N w h) args
  refine W.newcK hF.1 hF.2.1 hF.2.2.2.1 (zw_at hC hF hw rfl args) (zw_at hC hF hw1 rfl args) (zw_at hC hF hw2 rfl args) rfl hd (by omega) (by omega) hKn.2.1 hR.1 fun H1 kC hkC e1 z1 o1 => ?_
  refine kk.2.2 p e R s m args below meth c H1 ls locs (cells + 1) (slots + N) Q hF (hR.add z1 o1 ⟨_, hci, hlen, ?_⟩) hL hl ?_ ?_ hQ
  · exact (u_born ty hts (fun _ h => h) hKn hkC e1 hty).to hfs
  · show cells + 1 + (M2.2.1 - (M.2.1 + 1)) ≤ R.cells
    omega
  · show slots + N + (M2.2.2 - (M.2.2 + N)) ≤ R.slots
    omega
theorem z_newa (hC : zC g) {at0 : ArrayType} {ty : FieldType} (hty : newarray.typeOf at0 = ty) (hw : Cond.arrayClass ty ∈ lw_tbl) {x : Int32} {a0 : vp_A} (ha : ∀ cA : ClassId, vp_cell cA a0 = arrV cA a0.1 (fun _ => defaultValue ty)) (hx : ¬ x < 0) (hN : x.toNatClampNeg = a0.1) (hb : a0.1 * componentBytes ty ≤ 536870912) (hd : decode t.2.1 pc = .ok (.newarray at0, 2))
    (kk : zW g t (pc + 2) L (.ref M.2.1 :: r) (zAdd M (.inl (ty, a0)) a0.1) rv M2) : zW g t pc L (.int x :: r) M rv M2 := by
  subst hty
  have hn1 : M.2.1 + 1 ≤ M2.2.1 := kk.1
  have hn2 : M.2.2 + a0.1 ≤ M2.2.2 := kk.2.1
  refine ⟨by omega, by omega, fun p e R s m args below meth c H ls locs cells slots Q hF hR hL hl hcc hss hQ => ?_⟩
  refine va_newaK hF.1 hF.2.1 (zw_at hC hF hw rfl args) rfl hd rfl hx hN hb (by omega) (by omega) hR.1 fun H1 cA e1 z1 o1 hAr hNm => ?_
  have hal := hF.2.2.2.2.2.1.alike
  refine kk.2.2 p e R s m args below meth c H1 ls locs (cells + 1) (slots + a0.1) Q hF (hR.add z1 o1 ⟨cA, by rw [ha]; exact e1, arrOfT_moved hal.symm hAr, ?_⟩) hL hl ?_ ?_ hQ
  · refine va_RA.moved (u := s) hal.symm ?_
    cases at0 <;> exact hNm
  · show cells + 1 + (M2.2.1 - (M.2.1 + 1)) ≤ R.cells
    omega
  · show slots + a0.1 + (M2.2.2 - (M.2.2 + a0.1)) ≤ R.slots
    omega
theorem z_newq (hC : zC g) {C : String} {n : Nat} (hw : Cond.classLink t.1 n C ∈ lw_tbl) (hw1 : Cond.arrayOver (.object C) ∈ lw_tbl) {x : Int32} {N : Nat} (hx : ¬ x < 0) (hN : x.toNatClampNeg = N) (hb : N * 4 ≤ 536870912) (hd : decode t.2.1 pc = .ok (.anewarray n, 3))
    (kk : zW g t (pc + 3) L (.ref M.2.1 :: r) (zAdd M (.inl (.object C, N, .inr (.inr (.inr (.inr (fun _ => none)))))) N) rv M2) : zW g t pc L (.int x :: r) M rv M2 := by
  subst hN
  have hn1 : M.2.1 + 1 ≤ M2.2.1 := kk.1
  have hn2 : M.2.2 + x.toNatClampNeg ≤ M2.2.2 := kk.2.1
  refine ⟨by omega, by omega, fun p e R s m args below meth c H ls locs cells slots Q hF hR hL hl hcc hss hQ => ?_⟩
  have hal := hF.2.2.2.2.2.1.alike
  have hov : va_AO C s := va_AO.moved hal (va_AO.of (hC.1 _ hw1))
  refine W.anew hF.1 hF.2.1 hF.2.2.2.1 (zw_at hC hF hw rfl args) (va_AO.use hov) rfl hd rfl hx hb (by omega) (by omega) fun cA kA comp f1 f2 f3 f4 => ?_
  generalize hH1 : H.push ({ cls := cA, slots := Array.replicate x.toNatClampNeg .null, vm := .none } : Cell) = H1
  have z1 : H1.size = M.2.1 + 1 := by rw [← hH1, Array.size_push, hR.1]
  have e1 : H1[M.2.1]? = some (arrV cA x.toNatClampNeg (fun _ => .null)) := by rw [← hH1, ← hR.1, Array.getElem?_push_size, ← arrV_new]
  have o1 : ∀ q : Nat, q < M.2.1 → H1[q]? = H[q]? := fun q hq => by rw [← hH1, Array.getElem?_push, if_neg (by rw [hR.1]; omega)]
  have hAr : ArrOfT s cA (.object C) := fun N z => ⟨(fun k h => by cases h), kA, f2, comp, f3⟩
  have hRA : va_RA s cA (.object C) := ⟨kA, comp, f2, f3, f4, f1⟩
  have K := kk.2.2 p e R s m args below meth c H1 ls locs (cells + 1) (slots + x.toNatClampNeg) Q hF (hR.add z1 o1 ⟨cA, by rw [vp_cell_q]; exact e1, arrOfT_moved hal.symm hAr, hRA.moved hal.symm⟩) hL hl (by show cells + 1 + (M2.2.1 - (M.2.1 + 1)) ≤ R.cells; omega) (by show slots + _ + (M2.2.2 - (M.2.2 + _)) ≤ R.slots; omega) hQ
  rw [← hR.1] at K
  exact K
theorem z_alen {a : Nat} {ty : FieldType} {A : vp_A} (hM : M.1 a = some (.inl (ty, A))) (hd : decode t.2.1 pc = .ok (.arraylength, 1)) (kk : zW g t (pc + 1) L (.int (Int32.ofNat A.1) :: r) M rv M2) : zW g t pc L (.ref a :: r) M rv M2 := by
  refine ⟨kk.1, kk.2.1, fun p e R s m args below meth c H ls locs cells slots Q hF hR hL hl hcc hss hQ => ?_⟩
  obtain ⟨hba, cA, h1, h2, h3⟩ := hR.2.2.2 a _ hM
  have K := kk.2.2 p e R s m args below meth c H ls locs cells slots Q hF hR hL hl hcc hss hQ
  have h4 : ∃ z : Nat → Value, vp_cell cA A = arrV cA A.1 z := by
    obtain ⟨n, x⟩ := A
    rcases x with f | f | f | f | f
    · exact ⟨_, vp_cell_i cA n f⟩
    · exact ⟨_, vp_cell_l cA n f⟩
    · exact ⟨_, vp_cell_f cA n f⟩
    · exact ⟨_, vp_cell_d cA n f⟩
    · exact ⟨_, vp_cell_q cA n f⟩
  obtain ⟨z, hz⟩ := h4
  exact W.alen (ty := ty) hF.1 hF.2.1 h1 (by rw [hz]; exact hF.arr h2 _ _) (by rw [hz, arrV_size]) rfl rfl hd K

theorem z_iald {a n : Nat} {f : Nat → Int32} {i : Int32} (hM : M.1 a = some (.inl (.int, n, .inl f))) (hin : vp_in i n) (hd : decode t.2.1 pc = .ok (.iaload, 1)) (kk : zW g t (pc + 1) L (.int (f i.toNatClampNeg) :: r) M rv M2) : zW g t pc L (.int i :: .ref a :: r) M rv M2 := by
  refine ⟨kk.1, kk.2.1, fun p e R s m args below meth c H ls locs cells slots Q hF hR hL hl hcc hss hQ => ?_⟩
  obtain ⟨hba, cA, h1, h2, h3⟩ := hR.2.2.2 a _ hM
  have K := kk.2.2 p e R s m args below meth c H ls locs cells slots Q hF hR hL hl hcc hss hQ
  have hlt : i.toNatClampNeg < n := Nat.not_le.mp fun q => hin (Or.inr q)
  exact W.iald (v := .int (f i.toNatClampNeg)) hF.1 hF.2.1 h1 (hF.arr h2 n (fun j => .int (f j))) (fun q => by cases q) (by show ¬ (i < 0 ∨ (arrV _ _ _).slots.size ≤ _); rw [arrV_size]; exact hin) (by show (arrV _ _ _).slots[_]? = _; rw [arrV_read _ _ hlt]) rfl rfl hd K
theorem z_bald {a n : Nat} {f : Nat → Int32} {i : Int32} (hM : M.1 a = some (.inl (.byte, n, .inl f))) (hin : vp_in i n) (hd : decode t.2.1 pc = .ok (.baload, 1)) (kk : zW g t (pc + 1) L (.int (f i.toNatClampNeg) :: r) M rv M2) : zW g t pc L (.int i :: .ref a :: r) M rv M2 := by
  refine ⟨kk.1, kk.2.1, fun p e R s m args below meth c H ls locs cells slots Q hF hR hL hl hcc hss hQ => ?_⟩
  obtain ⟨hba, cA, h1, h2, h3⟩ := hR.2.2.2 a _ hM
  have K := kk.2.2 p e R s m args below meth c H ls locs cells slots Q hF hR hL hl hcc hss hQ
  have hlt : i.toNatClampNeg < n := Nat.not_le.mp fun q => hin (Or.inr q)
  exact W.bald (v := .int (f i.toNatClampNeg)) hF.1 hF.2.1 h1 (hF.arr h2 n (fun j => .int (f j))) (fun q => by cases q) (by show ¬ (i < 0 ∨ (arrV _ _ _).slots.size ≤ _); rw [arrV_size]; exact hin) (by show (arrV _ _ _).slots[_]? = _; rw [arrV_read _ _ hlt]) rfl rfl hd K
theorem z_zald {a n : Nat} {f : Nat → Int32} {i : Int32} (hM : M.1 a = some (.inl (.boolean, n, .inl f))) (hin : vp_in i n) (hd : decode t.2.1 pc = .ok (.baload, 1)) (kk : zW g t (pc + 1) L (.int (f i.toNatClampNeg) :: r) M rv M2) : zW g t pc L (.int i :: .ref a :: r) M rv M2 := by
  refine ⟨kk.1, kk.2.1, fun p e R s m args below meth c H ls locs cells slots Q hF hR hL hl hcc hss hQ => ?_⟩
  obtain ⟨hba, cA, h1, h2, h3⟩ := hR.2.2.2 a _ hM
  have K := kk.2.2 p e R s m args below meth c H ls locs cells slots Q hF hR hL hl hcc hss hQ
  have hlt : i.toNatClampNeg < n := Nat.not_le.mp fun q => hin (Or.inr q)
  exact W.zald (v := .int (f i.toNatClampNeg)) hF.1 hF.2.1 h1 (hF.arr h2 n (fun j => .int (f j))) (fun q => by cases q) (by show ¬ (i < 0 ∨ (arrV _ _ _).slots.size ≤ _); rw [arrV_size]; exact hin) (by show (arrV _ _ _).slots[_]? = _; rw [arrV_read _ _ hlt]) rfl rfl hd K
theorem z_lald {a n : Nat} {f : Nat → Int64} {i : Int32} (hM : M.1 a = some (.inl (.long, n, .inr (.inl f)))) (hin : vp_in i n) (hd : decode t.2.1 pc = .ok (.laload, 1)) (kk : zW g t (pc + 1) L (.long (f i.toNatClampNeg) :: r) M rv M2) : zW g t pc L (.int i :: .ref a :: r) M rv M2 := by
  refine ⟨kk.1, kk.2.1, fun p e R s m args below meth c H ls locs cells slots Q hF hR hL hl hcc hss hQ => ?_⟩
  obtain ⟨hba, cA, h1, h2, h3⟩ := hR.2.2.2 a _ hM
  have K := kk.2.2 p e R s m args below meth c H ls locs cells slots Q hF hR hL hl hcc hss hQ
  have hlt : i.toNatClampNeg < n := Nat.not_le.mp fun q => hin (Or.inr q)
  exact W.lald (v := .long (f i.toNatClampNeg)) hF.1 hF.2.1 h1 (hF.arr h2 n (fun j => .long (f j))) (fun q => by cases q) (by show ¬ (i < 0 ∨ (arrV _ _ _).slots.size ≤ _); rw [arrV_size]; exact hin) (by show (arrV _ _ _).slots[_]? = _; rw [arrV_read _ _ hlt]) rfl rfl hd K
theorem z_aald {a n : Nat} {C : String} {f : Nat → Option Nat} {i : Int32} (hM : M.1 a = some (.inl (.object C, n, .inr (.inr (.inr (.inr f)))))) (hin : vp_in i n) (hd : decode t.2.1 pc = .ok (.aaload, 1)) (kk : zW g t (pc + 1) L (va_rf (f i.toNatClampNeg) :: r) M rv M2) : zW g t pc L (.int i :: .ref a :: r) M rv M2 := by
  refine ⟨kk.1, kk.2.1, fun p e R s m args below meth c H ls locs cells slots Q hF hR hL hl hcc hss hQ => ?_⟩
  obtain ⟨hba, cA, h1, h2, h3⟩ := hR.2.2.2 a _ hM
  have K := kk.2.2 p e R s m args below meth c H ls locs cells slots Q hF hR hL hl hcc hss hQ
  have hlt : i.toNatClampNeg < n := Nat.not_le.mp fun q => hin (Or.inr q)
  exact W.aald (v := va_rf (f i.toNatClampNeg)) hF.1 hF.2.1 h1 (hF.arr h2 n (fun j => va_rf (f j))) rfl (fun q => by cases q) (by show ¬ (i < 0 ∨ (arrV _ _ _).slots.size ≤ _); rw [arrV_size]; exact hin) (by show (arrV _ _ _).slots[_]? = _; rw [arrV_read _ _ hlt]) rfl rfl hd K
theorem z_iast {a n : Nat} {f : Nat → Int32} {i : Int32} {x : Int32} (hM : M.1 a = some (.inl (.int, n, .inl f))) (hin : vp_in i n) (hd : decode t.2.1 pc = .ok (.iastore, 1)) (kk : zW g t (pc + 1) L r (zSet M a (.inl (.int, n, .inl (upd f i.toNatClampNeg x)))) rv M2) : zW g t pc L (.int x :: .int i :: .ref a :: r) M rv M2 := by
  refine ⟨kk.1, kk.2.1, fun p e R s m args below meth c H ls locs cells slots Q hF hR hL hl hcc hss hQ => ?_⟩
  obtain ⟨hba, cA, h1, h2, h3⟩ := hR.2.2.2 a _ hM
  refine W.iast hF.1 hF.2.1 h1 (hF.arr h2 n (fun j => .int (f j))) (fun q => by cases q) (by show ¬ (i < 0 ∨ (arrV _ _ _).slots.size ≤ _); rw [arrV_size]; exact hin) rfl rfl hd fun H1 e1 z oq => ?_
  refine kk.2.2 p e R s m args below meth c H1 ls _ cells slots Q hF (hR.set hM z oq ⟨cA, ?_, h2, h3⟩) hL ?_ hcc hss hQ
  · rw [e1, vp_cell_i, vp_cell_i, arrV_store]
    congr 2
    funext q
    by_cases hq : q = i.toNatClampNeg
    · subst hq
      simp [updV, upd]
      try rfl
    · simp [updV, upd, hq]
  · intro q hq
    rcases List.mem_append.mp hq with h | h
    · exact hl q h
    · rw [List.mem_singleton.mp h]; exact hba
theorem z_bast {a n : Nat} {f : Nat → Int32} {i : Int32} {x : Int32} (hM : M.1 a = some (.inl (.byte, n, .inl f))) (hin : vp_in i n) (hd : decode t.2.1 pc = .ok (.bastore, 1)) (kk : zW g t (pc + 1) L r (zSet M a (.inl (.byte, n, .inl (upd f i.toNatClampNeg (vp_nar .byte x))))) rv M2) : zW g t pc L (.int x :: .int i :: .ref a :: r) M rv M2 := by
  refine ⟨kk.1, kk.2.1, fun p e R s m args below meth c H ls locs cells slots Q hF hR hL hl hcc hss hQ => ?_⟩
  obtain ⟨hba, cA, h1, h2, h3⟩ := hR.2.2.2 a _ hM
  refine W.bast hF.1 hF.2.1 h1 (hF.arr h2 n (fun j => .int (f j))) (fun q => by cases q) (by show ¬ (i < 0 ∨ (arrV _ _ _).slots.size ≤ _); rw [arrV_size]; exact hin) rfl rfl hd fun H1 e1 z oq => ?_
  refine kk.2.2 p e R s m args below meth c H1 ls _ cells slots Q hF (hR.set hM z oq ⟨cA, ?_, h2, h3⟩) hL ?_ hcc hss hQ
  · rw [e1, vp_cell_i, vp_cell_i, arrV_store]
    congr 2
    funext q
    by_cases hq : q = i.toNatClampNeg
    · subst hq
      simp [updV, upd, vp_nar]
      try rfl
    · simp [updV, upd, vp_nar, hq]
  · intro q hq
    rcases List.mem_append.mp hq with h | h
    · exact hl q h
    · rw [List.mem_singleton.mp h]; exact hba
theorem z_zast {a n : Nat} {f : Nat → Int32} {i : Int32} {x : Int32} (hM : M.1 a = some (.inl (.boolean, n, .inl f))) (hin : vp_in i n) (hd : decode t.2.1 pc = .ok (.bastore, 1)) (kk : zW g t (pc + 1) L r (zSet M a (.inl (.boolean, n, .inl (upd f i.toNatClampNeg (vp_nar .boolean x))))) rv M2) : zW g t pc L (.int x :: .int i :: .ref a :: r) M rv M2 := by
  refine ⟨kk.1, kk.2.1, fun p e R s m args below meth c H ls locs cells slots Q hF hR hL hl hcc hss hQ => ?_⟩
  obtain ⟨hba, cA, h1, h2, h3⟩ := hR.2.2.2 a _ hM
  refine W.zast hF.1 hF.2.1 h1 (hF.arr h2 n (fun j => .int (f j))) (fun q => by cases q) (by show ¬ (i < 0 ∨ (arrV _ _ _).slots.size ≤ _); rw [arrV_size]; exact hin) rfl rfl hd fun H1 e1 z oq => ?_
  refine kk.2.2 p e R s m args below meth c H1 ls _ cells slots Q hF (hR.set hM z oq ⟨cA, ?_, h2, h3⟩) hL ?_ hcc hss hQ
  · rw [e1, vp_cell_i, vp_cell_i, arrV_store]
    congr 2
    funext q
    by_cases hq : q = i.toNatClampNeg
    · subst hq
      simp [updV, upd, vp_nar]
      try rfl
    · simp [updV, upd, vp_nar, hq]
  · intro q hq
    rcases List.mem_append.mp hq with h | h
    · exact hl q h
    · rw [List.mem_singleton.mp h]; exact hba
theorem z_last {a n : Nat} {f : Nat → Int64} {i : Int32} {x : Int64} (hM : M.1 a = some (.inl (.long, n, .inr (.inl f)))) (hin : vp_in i n) (hd : decode t.2.1 pc = .ok (.lastore, 1)) (kk : zW g t (pc + 1) L r (zSet M a (.inl (.long, n, .inr (.inl (vp_updL f i.toNatClampNeg x))))) rv M2) : zW g t pc L (.long x :: .int i :: .ref a :: r) M rv M2 := by
  refine ⟨kk.1, kk.2.1, fun p e R s m args below meth c H ls locs cells slots Q hF hR hL hl hcc hss hQ => ?_⟩
  obtain ⟨hba, cA, h1, h2, h3⟩ := hR.2.2.2 a _ hM
  refine W.last hF.1 hF.2.1 h1 (hF.arr h2 n (fun j => .long (f j))) (fun q => by cases q) (by show ¬ (i < 0 ∨ (arrV _ _ _).slots.size ≤ _); rw [arrV_size]; exact hin) rfl rfl hd fun H1 e1 z oq => ?_
  refine kk.2.2 p e R s m args below meth c H1 ls _ cells slots Q hF (hR.set hM z oq ⟨cA, ?_, h2, h3⟩) hL ?_ hcc hss hQ
  · rw [e1, vp_cell_l, vp_cell_l, arrV_store]
    congr 2
    funext q
    by_cases hq : q = i.toNatClampNeg
    · subst hq
      simp [updV, vp_updL]
      try rfl
    · simp [updV, vp_updL, hq]
  · intro q hq
    rcases List.mem_append.mp hq with h | h
    · exact hl q h
    · rw [List.mem_singleton.mp h]; exact hba
theorem z_aast (hC : zC g) {a n v : Nat} {E C : String} {ci N : Nat} {T : u_T} {ty : Nat → FieldType} {vs : List Value} {f : Nat → Option Nat} {i : Int32} (hc : zCl ci C T N ty) (hcast : C = E ∨ Cond.castable C E ∈ lw_tbl) (hM : M.1 a = some (.inl (.object E, n, .inr (.inr (.inr (.inr f)))))) (hv : M.1 v = some (.inr (ci, vs))) (hin : vp_in i n) (hd : decode t.2.1 pc = .ok (.aastore, 1))
    (kk : zW g t (pc + 1) L r (zSet M a (.inl (.object E, n, .inr (.inr (.inr (.inr (va_up f i.toNatClampNeg (some v)))))))) rv M2) : zW g t pc L (.ref v :: .int i :: .ref a :: r) M rv M2 := by
  refine ⟨kk.1, kk.2.1, fun p e R s m args below meth c H ls locs cells slots Q hF hR hL hl hcc hss hQ => ?_⟩
  obtain ⟨hba, cA, h1, h2, h3⟩ := hR.2.2.2 a _ hM
  obtain ⟨-, q0, g0, g00, cellV, g1, g2, g3, -⟩ := hR.2.2.2 v _ hv
  have hlt : i.toNatClampNeg < n := Nat.not_le.mp fun q => hin (Or.inr q)
  have h0 : ¬ i < 0 := fun q => hin (Or.inl q)
  have hal := hF.2.2.2.2.2.1.alike
  have hcls := ((hF.K hC).1 ci _ hc.1).2
  obtain ⟨kA, comp, k1, k2, k3, -⟩ := h3.moved hal
  obtain ⟨kE, hkE, -⟩ := Vm.findClass_spec k3
  obtain ⟨kC, hkC, -⟩ := hcls.2
  have hass : s.vm.assignable (g.2.2.2.1 ci) comp = true := by
    rcases hcast with rfl | hw
    · have e1 : g.2.2.2.1 ci = comp := Option.some.inj (hcls.1.symm.trans k3)
      rw [e1]
      first | exact Vm.assignable_refl _ _ | exact Vm.assignable_self _ _ | simp [Vm.assignable]
    · have hz : va_Nw (.castable C E) s := va_Nw.warmC hF.2.2.2.2.2.1 (va_Nw.of rfl (hC.1 _ hw))
      obtain ⟨c0, t1, f1, f2, f3⟩ := Cond.castable_spec (va_Nw.use (A := args) rfl hz)
      cases hcls.1.symm.trans f1
      cases k3.symm.trans f2
      exact f3
  refine W.aast hF.1 hF.2.1 h1 (fun q h => by cases h) (fun h => by cases h) k1 k2 rfl hkE ⟨h0, by show _ < (arrV _ _ _).slots.size; rw [arrV_size]; exact hlt⟩ g1 (fun q h => by rw [g3] at h; cases h) (by rw [g2]; exact hkC) (by rw [g2]; exact hass) rfl rfl hd fun H1 e1 z oq => ?_
  refine kk.2.2 p e R s m args below meth c H1 ls _ cells slots Q hF (hR.set hM z oq ⟨cA, ?_, h2, h3⟩) hL ?_ hcc hss hQ
  · rw [e1, vp_cell_q, vp_cell_q, arrV_store]
    congr 2
    funext q
    by_cases hq : q = i.toNatClampNeg
    · subst hq
      simp [updV, va_up, va_rf]
    · simp [updV, va_up, hq]
  · intro q hq
    rcases List.mem_append.mp hq with h | h
    · exact hl q h
    · rw [List.mem_singleton.mp h]; exact hba
end ZM
end
section
/-! calls: a method's contract over the one memory, and the rows that use it -/
def zRoom (t : zM) (M M2 : zMe) : Room := { frames := t.2.2.2.2.2.1, cells := M2.2.1 - M.2.1, slots := M2.2.2 - M.2.2, locals := t.2.2.2.2.2.2 }
def zPc (g : zG) (av : List Value) (M : zMe) : Array Value → State → Prop := fun v U => v = av.toArray ∧ zR g M U.heap ∧ g.2.1.WarmedH U.vm
def zQc (g : zG) (rv : Option Value) (M2 : zMe) : Array Value → State → Outcome → State → Prop := fun _ _ o T => o = .returned rv ∧ zR g M2 T.heap
def zMet (g : zG) (y : MethodName) (t : zM) (av : List Value) (M : zMe) (rv : Option Value) (M2 : zMe) : Prop := M.2.1 ≤ M2.2.1 ∧ M.2.2 ≤ M2.2.2 ∧ Met g.1 y [.code y t.2.1 t.2.2.1 t.2.2.2.1] (zRoom t M M2) (zPc g av M) (zQc g rv M2) (M2.2.1 - M.2.1) (M2.2.2 - M.2.2) (fun q => g.2.1.heap.size ≤ q)
/-- the answer fits the method's type -/
def zRok (ty : Option FieldType) (rv : Option Value) : Prop := match rv with
  | none => ty = none
  | some (.int x) => ∃ a, ty = some a ∧ narrow a (.int x) = .int x
  | some (.long _) => ty = some .long
  | some (.ref _) => ∃ a, ty = some a ∧ ((∃ n, a = .object n) ∨ ∃ u, a = .array u)
  | some .null => ∃ a, ty = some a ∧ ((∃ n, a = .object n) ∨ ∃ u, a = .array u)
  | _ => False
theorem z_entry {g : zG} {y : MethodName} {t : zM} {av : List Value} {M : zMe} {rv : Option Value} {M2 : zMe} (hy : plainName y.cls = true) (hown : t.1 = y.cls) (hnm : t.2.2.2.2.1 = y.name) (hn : (zE av).length ≤ t.2.2.1) (hr : zRok t.2.2.2.1 rv) (h : zW g t 0 (zEn0 t.2.2.1 av) [] M rv M2) : zMet g y t av M rv M2 := by
  refine ⟨h.1, h.2.1, ?_⟩
  refine Met.ofW (cc := t.2.1) (maxL := t.2.2.1) (ret := t.2.2.2.1) hy rfl ?_
  intro p e s m args below meth c s₁ B hml hv
  obtain ⟨rfl, hR, hW⟩ := hv
  have hlocks := B.notSynchronized
  have hret := B.returns
  rw [lg_entry_eq]
  refine h.2.2 p e _ s m _ below meth c s.heap _ [] 0 0 _ ⟨B.exec, B.bytes, hml, by rw [hown]; exact findClass_of_methodNamed B.named, by rw [hnm]; exact (name_of_methodNamed B.named B.method).1, hW, Nat.le_refl _, Nat.le_refl _⟩ hR (zL.entry hn) (fun q h => by cases h) (by show 0 + (M2.2.1 - M.2.1) ≤ M2.2.1 - M.2.1; omega) (by show 0 + (M2.2.2 - M.2.2) ≤ M2.2.2 - M.2.2; omega) ?_
  intro pc1 ls1 H1 locs1 cells1 slots1 hR1 hl1 hc1 hs1 hz
  refine W.widen (k := M2.2.1 - M.2.1) (n := M2.2.2 - M.2.2) hc1 hs1 ?_
  cases rv with
  | none => exact W.vret B.exec B.bytes (by rw [hret]; exact hr) (fun T ht hW2 => ⟨rfl, by rw [ht]; exact hR1⟩) hl1 hz
  | some v =>
    cases v with
    | int x =>
      obtain ⟨a, ha, hna⟩ := hr
      exact W.zret B.exec B.bytes (by rw [hret]; exact ha) hna (fun T ht hW2 => ⟨rfl, by rw [ht]; exact hR1⟩) hl1 hz
    | long x => exact W.lret B.exec B.bytes (by rw [hret]; exact hr) (fun T ht hW2 => ⟨rfl, by rw [ht]; exact hR1⟩) hl1 hz
    | ref x =>
      obtain ⟨a, ha, hna⟩ := hr
      exact W.aret B.exec B.bytes (by rw [hret]; exact ha) hna (Or.inr ⟨x, rfl⟩) (fun T ht hW2 => ⟨rfl, by rw [ht]; exact hR1⟩) hl1 hz
    | null =>
      obtain ⟨a, ha, hna⟩ := hr
      exact W.aret B.exec B.bytes (by rw [hret]; exact ha) hna (Or.inl rfl) (fun T ht hW2 => ⟨rfl, by rw [ht]; exact hR1⟩) hl1 hz
    | float x => exact hr.elim
    | double x => exact hr.elim
    | retAddr x => exact hr.elim
section ZC
variable {g : zG} {t t2 : zM} {pc n : Nat} {L rest av : List Value} {M M1 M2 : zMe} {rv r1 : Option Value} {y x : MethodName}
theorem zblind (g : zG) (av : List Value) (M : zMe) : FrameBlind (zPc g av M) := fun a U f mk q => ⟨q.1, q.2.1, q.2.2⟩
/-- what a call asks of the tables beside its link: code, class ready, number of arguments -/
def zCd (y : MethodName) (t : zM) (n : Nat) : Prop := Cond.code y t.2.1 t.2.2.1 t.2.2.2.1 ∈ lw_tbl ∧ Cond.initialized y.cls ∈ lw_tbl ∧ (y.cls ≠ "java/lang/invoke/MethodHandle" ∧ y.cls ≠ "java/lang/invoke/VarHandle") ∧ (parseMethodDescriptor y.desc).map (fun d => d.parameters.length) = some n
/-- rooms: frames and locals of the callee in the caller's; what stays on the stack -/
def zFit (t t2 : zM) (rest : List Value) : Prop := t2.2.2.2.2.2.1 + 1 ≤ t.2.2.2.2.2.1 ∧ 8 + (t2.2.2.1 + 11) + t2.2.2.2.2.2.2 ≤ t.2.2.2.2.2.2 ∧ (rest.map fun v => v.category).sum ≤ 8
theorem zcallW {p : Program} {l : Launch} {e : Env} {R : Room} {s : State} {m : MethodId} {args : Array Value} {below : List Frame} {meth : Method} {c : Code} {H : Heap} {locs : List Loc} {cells slots mc ms : Nat} {Q : State → Prop} {g0 : JFrame} {Qa : State → Outcome → State → Prop} {free : Addr → Prop}
    (hr : CallRun p l e R s m args below meth c H locs cells slots mc ms g0 rest Qa free) (kk : ∀ (v : Option Value) (st0 T1 : State) (L1 : List Loc), (∀ q ∈ L1, free q.base) → Qa st0 (.returned v) T1 → W p l e R s m args below meth c T1.heap (locs ++ L1) (cells + mc) (slots + ms) Q { g0 with pc := g0.pc + 3, stack := v.toList ++ rest }) : W p l e R s m args below meth c H locs cells slots Q g0 := by
  intro T hT X
  obtain ⟨v, st0, T1, T2, L1, h0, X1, hL, e1, hq, st⟩ := hr T hT X
  obtain ⟨t2, a1, b1⟩ := kk v st0 T1 L1 hL hq T2 e1 X1
  exact ⟨t2, st t2 a1, b1⟩
theorem zB_of {p : Program} {R : Room} {s : State} {m : MethodId} {meth : Method} {c : Code} (hC : zC g) (hF : zF g t p R s m meth c) (args : Array Value) {k : Nat} (hcd : zCd y t2 k) (hfit : zFit t t2 rest) (hl : Cond.methodLink t.1 n y ∈ lw_tbl) : CallB R s args t.1 n y t2.2.1 t2.2.2.1 t2.2.2.2.1 [.code y t2.2.1 t2.2.2.1 t2.2.2.2.1] (zRoom t2 M M1) (M1.2.1 - M.2.1) (M1.2.2 - M.2.2) k := by
  obtain ⟨h1, h2, h3, h4⟩ := hcd
  refine ⟨rfl, rfl, Nat.le_trans hfit.1 hF.2.2.2.2.2.2.1, Nat.le_trans hfit.2.1 hF.2.2.2.2.2.2.2, fun w hw a' U hW => ?_, List.mem_singleton.mpr rfl, zw_at hC hF h1 rfl args, zw_at hC hF h2 rfl args, h3, fun sig h => ?_, zw_at hC hF hl rfl args⟩
  · rw [List.mem_singleton.mp hw]
    exact word_at hW (Or.inl rfl) (zw_at hC hF h1 rfl args)
  · rw [h] at h4
    exact (Option.some.inj h4).symm
theorem zN_of {p : Program} {R : Room} {s : State} {m : MethodId} {meth : Method} {c : Code} (hC : zC g) (hF : zF g t p R s m meth c) (args : Array Value) {k : Nat} {host : String} (hcd : zCd y t2 k) (hfit : zFit t t2 rest) (hl : Cond.methodLinkNest t.1 n y host ∈ lw_tbl) : va_CN R s args t.1 n y host t2.2.1 t2.2.2.1 t2.2.2.2.1 [.code y t2.2.1 t2.2.2.1 t2.2.2.2.1] (zRoom t2 M M1) (M1.2.1 - M.2.1) (M1.2.2 - M.2.2) k := by
  obtain ⟨h1, h2, h3, h4⟩ := hcd
  refine ⟨⟨rfl, rfl, Nat.le_trans hfit.1 hF.2.2.2.2.2.2.1, Nat.le_trans hfit.2.1 hF.2.2.2.2.2.2.2, fun w hw a' U hW => ?_, List.mem_singleton.mpr rfl⟩, zw_at hC hF h1 rfl args, zw_at hC hF h2 rfl args, h3, fun sig h => ?_, va_Nw.use rfl (va_Nw.warmM hF.2.2.2.2.2.1 (va_Nw.of rfl (hC.1 _ hl)))⟩
  · rw [List.mem_singleton.mp hw]
    exact word_at hW (Or.inl rfl) (zw_at hC hF h1 rfl args)
  · rw [h] at h4
    exact (Option.some.inj h4).symm
theorem zS_of {p : Program} {R : Room} {s : State} {m : MethodId} {meth : Method} {c : Code} {H : Heap} (hF : zF g t p R s m meth c) (hR : zR g M H) : PreS s H (zPc g av M) av := ⟨zblind g av M, fun U hU hW => ⟨rfl, by rw [hU]; exact hR, State.WarmedH.trans hF.2.2.2.2.2.1 hW⟩⟩
theorem zV_of {p : Program} {R : Room} {s : State} {m : MethodId} {meth : Method} {c : Code} {H : Heap} (hC : zC g) (hF : zF g t p R s m meth c) (hR : zR g M H) {b ci N : Nat} {C : String} {T : u_T} {ty : Nat → FieldType} {fs : List Value} (hc : zCl ci C T N ty) (hM : M.1 b = some (.inr (ci, fs))) : PreV s H C b (zPc g (.ref b :: av) M) av := by
  refine ⟨zblind g _ M, ?_, fun U hU hW => ⟨rfl, by rw [hU]; exact hR, State.WarmedH.trans hF.2.2.2.2.2.1 hW⟩⟩
  obtain ⟨-, q0, g0, g00, cellV, g1, g2, g3, -⟩ := hR.2.2.2 b _ hM
  exact ⟨cellV, g1, by rw [g3]; rfl, by rw [g2]; exact ((hF.K hC).1 ci _ hc.1).2.1⟩
/-- behind any call -/
theorem zback {stk : List Value} (hM : zMet g y t2 av M r1 M1) (kk : zW g t (pc + 3) L (r1.toList ++ rest) M1 rv M2)
    (hrun : ∀ (p : Program) (e : Env) (R : Room) (s : State) (m : MethodId) (args : Array Value) (below : List Frame) (meth : Method) (c : Code) (H : Heap) (ls : Array Slot) (locs : List Loc) (cells slots : Nat), zF g t p R s m meth c → zR g M H → zL t.2.2.1 L ls → cells + (M1.2.1 - M.2.1) ≤ R.cells → slots + (M1.2.2 - M.2.2) ≤ R.slots → CallRun p g.1 e R s m args below meth c H locs cells slots (M1.2.1 - M.2.1) (M1.2.2 - M.2.2) (F0 m pc ls stk) rest (zQc g r1 M1 av.toArray) (fun q => g.2.1.heap.size ≤ q)) : zW g t pc L stk M rv M2 := by
  have h1 := hM.1
  have h2 := hM.2.1
  have h3 := kk.1
  have h4 := kk.2.1
  refine ⟨Nat.le_trans h1 h3, Nat.le_trans h2 h4, fun p e R s m args below meth c H ls locs cells slots Q hF hR hL hl hcc hss hQ => ?_⟩
  refine zcallW (hrun p e R s m args below meth c H ls locs cells slots hF hR hL (by omega) (by omega)) (fun v st0 T1 L1 hL1 hq => ?_)
  obtain ⟨hv, hR1⟩ := hq
  cases hv
  refine kk.2.2 p e R s m args below meth c T1.heap ls (locs ++ L1) _ _ Q hF hR1 hL (fun q hq => ?_) (by omega) (by omega) hQ
  rcases List.mem_append.mp hq with h | h
  · exact hl q h
  · exact hL1 q h
theorem z_callS (hC : zC g) (hM : zMet g y t2 av M r1 M1) (hl : Cond.methodLink t.1 n y ∈ lw_tbl) (hs : Cond.static y ∈ lw_tbl) (hcd : zCd y t2 av.length) (hfit : zFit t t2 rest) (hd : decode t.2.1 pc = .ok (.invokestatic n, 3)) (kk : zW g t (pc + 3) L (r1.toList ++ rest) M1 rv M2) : zW g t pc L (av.reverse ++ rest) M rv M2 :=
  zback hM kk (fun p e R s m args below meth c H ls locs cells slots hF hR hL hc1 hc2 => W.runS (Ts := []) ⟨hF.1, hF.2.1, hF.2.2.1, hF.2.2.2.1, fun _ h => by cases h⟩ hM.2.2 ⟨zB_of (rest := rest) hC hF args hcd hfit hl, zw_at hC hF hs rfl args⟩ (zS_of hF hR) rfl rfl hL.1 rfl (lv_room hfit.2.2) hd ⟨hc1, hc2⟩)
theorem z_callSN (hC : zC g) {host : String} (hM : zMet g y t2 av M r1 M1) (hl : Cond.methodLinkNest t.1 n y host ∈ lw_tbl) (hs : Cond.static y ∈ lw_tbl) (hcd : zCd y t2 av.length) (hfit : zFit t t2 rest) (hd : decode t.2.1 pc = .ok (.invokestatic n, 3)) (kk : zW g t (pc + 3) L (r1.toList ++ rest) M1 rv M2) : zW g t pc L (av.reverse ++ rest) M rv M2 :=
  zback hM kk (fun p e R s m args below meth c H ls locs cells slots hF hR hL hc1 hc2 => (va_runSN (Ts := []) ⟨hF.1, hF.2.1, hF.2.2.1, hF.2.2.2.1, fun _ h => by cases h⟩ hM.2.2 ⟨zN_of (rest := rest) hC hF args hcd hfit hl, zw_at hC hF hs rfl args, trivial⟩ (zS_of hF hR) rfl rfl hL.1 rfl (lv_room hfit.2.2) hd ⟨hc1, hc2⟩).run)
theorem z_callI (hC : zC g) {b : Nat} (hM : zMet g y t2 (.ref b :: av) M r1 M1) (hl : Cond.methodLink t.1 n y ∈ lw_tbl) (hi : Cond.instanceMethod y ∈ lw_tbl) (hy : y.name = "<init>") (hret : t2.2.2.2.1 = none) (hcd : zCd y t2 av.length) (hfit : zFit t t2 rest) (hd : decode t.2.1 pc = .ok (.invokespecial n, 3)) (kk : zW g t (pc + 3) L (r1.toList ++ rest) M1 rv M2) : zW g t pc L (av.reverse ++ .ref b :: rest) M rv M2 :=
  zback hM kk (fun p e R s m args below meth c H ls locs cells slots hF hR hL hc1 hc2 => by
    have hMM := hM.2.2
    have hB := zB_of (M := M) (M1 := M1) (rest := rest) hC hF args hcd hfit hl
    rw [hret] at hMM hB
    exact W.runI (Ts := []) ⟨hF.1, hF.2.1, hF.2.2.1, hF.2.2.2.1, fun _ h => by cases h⟩ hMM ⟨hB, hy, zw_at hC hF hi rfl args⟩ (zS_of hF hR) rfl rfl hL.1 rfl (lv_room hfit.2.2) hd ⟨hc1, hc2⟩)
theorem z_callIN (hC : zC g) {b : Nat} {host : String} (hM : zMet g y t2 (.ref b :: av) M r1 M1) (hl : Cond.methodLinkNest t.1 n y host ∈ lw_tbl) (hi : Cond.instanceMethod y ∈ lw_tbl) (hy : y.name = "<init>") (hret : t2.2.2.2.1 = none) (hcd : zCd y t2 av.length) (hfit : zFit t t2 rest) (hd : decode t.2.1 pc = .ok (.invokespecial n, 3)) (kk : zW g t (pc + 3) L (r1.toList ++ rest) M1 rv M2) : zW g t pc L (av.reverse ++ .ref b :: rest) M rv M2 :=
  zback hM kk (fun p e R s m args below meth c H ls locs cells slots hF hR hL hc1 hc2 => by
    have hMM := hM.2.2
    have hB := zN_of (M := M) (M1 := M1) (rest := rest) hC hF args hcd hfit hl
    rw [hret] at hMM hB
    exact (va_runIN (Ts := []) ⟨hF.1, hF.2.1, hF.2.2.1, hF.2.2.2.1, fun _ h => by cases h⟩ hMM ⟨hB, hy, zw_at hC hF hi rfl args⟩ (zS_of hF hR) rfl rfl hL.1 rfl (lv_room hfit.2.2) hd ⟨hc1, hc2⟩).run)
theorem z_callV (hC : zC g) {b ci N : Nat} {C : String} {T : u_T} {ty : Nat → FieldType} {fs : List Value} (hc : zCl ci C T N ty) (hb : M.1 b = some (.inr (ci, fs))) (hM : zMet g y t2 (.ref b :: av) M r1 M1) (hl : Cond.methodLink t.1 n y ∈ lw_tbl) (hi : Cond.instanceMethod y ∈ lw_tbl) (hsel : Cond.selects C y y ∈ lw_tbl) (hcd : zCd y t2 av.length) (hfit : zFit t t2 rest) (hd : decode t.2.1 pc = .ok (.invokevirtual n, 3)) (kk : zW g t (pc + 3) L (r1.toList ++ rest) M1 rv M2) : zW g t pc L (av.reverse ++ .ref b :: rest) M rv M2 :=
  zback hM kk (fun p e R s m args below meth c H ls locs cells slots hF hR hL hc1 hc2 => W.runV (Ts := []) ⟨hF.1, hF.2.1, hF.2.2.1, hF.2.2.2.1, fun _ h => by cases h⟩ hM.2.2 ⟨zB_of (rest := rest) hC hF args hcd hfit hl, zw_at hC hF hi rfl args, zw_at hC hF hsel rfl args⟩ (zV_of hC hF hR hc hb) rfl rfl hL.1 rfl (lv_room hfit.2.2) hd ⟨hc1, hc2⟩)
theorem z_callVN (hC : zC g) {b ci N : Nat} {C host : String} {T : u_T} {ty : Nat → FieldType} {fs : List Value} (hc : zCl ci C T N ty) (hb : M.1 b = some (.inr (ci, fs))) (hM : zMet g y t2 (.ref b :: av) M r1 M1) (hl : Cond.methodLinkNest t.1 n y host ∈ lw_tbl) (hi : Cond.instanceMethod y ∈ lw_tbl) (hsel : Cond.selects C y y ∈ lw_tbl) (hcd : zCd y t2 av.length) (hfit : zFit t t2 rest) (hd : decode t.2.1 pc = .ok (.invokevirtual n, 3)) (kk : zW g t (pc + 3) L (r1.toList ++ rest) M1 rv M2) : zW g t pc L (av.reverse ++ .ref b :: rest) M rv M2 :=
  zback hM kk (fun p e R s m args below meth c H ls locs cells slots hF hR hL hc1 hc2 => (va_runVN (Ts := []) ⟨hF.1, hF.2.1, hF.2.2.1, hF.2.2.2.1, fun _ h => by cases h⟩ hM.2.2 ⟨zN_of (rest := rest) hC hF args hcd hfit hl, zw_at hC hF hi rfl args, zw_at hC hF hsel rfl args⟩ (zV_of hC hF hR hc hb) rfl rfl hL.1 rfl (lv_room hfit.2.2) hd ⟨hc1, hc2⟩).run)
/-- the method that the reference names (x, declared in owner) and the one that the receiver's class selects (y) -/
def zUp (own : String) (n : Nat) (C owner : String) (x y : MethodName) : Prop := Cond.methodLink own n x ∈ lw_tbl ∧ Cond.sameMethod x.cls owner x.name x.desc ∈ lw_tbl ∧ (Cond.declares ⟨owner, x.name, x.desc⟩ ∈ lw_tbl ∨ (Cond.instanceMethod ⟨owner, x.name, x.desc⟩ ∈ lw_tbl ∧ ∃ b0 m0 r0, Cond.code ⟨owner, x.name, x.desc⟩ b0 m0 r0 ∈ lw_tbl)) ∧ Cond.selects C x y ∈ lw_tbl ∧ Cond.instanceMethod y ∈ lw_tbl ∧ (owner ≠ "java/lang/invoke/MethodHandle" ∧ owner ≠ "java/lang/invoke/VarHandle") ∧ x.desc = y.desc
theorem z_callU (hC : zC g) {b ci N : Nat} {C owner : String} {T : u_T} {ty : Nat → FieldType} {fs : List Value} (hc : zCl ci C T N ty) (hb : M.1 b = some (.inr (ci, fs))) (hM : zMet g y t2 (.ref b :: av) M r1 M1) (hu : zUp t.1 n C owner x y) (hcd : zCd y t2 av.length) (hfit : zFit t t2 rest) (hd : decode t.2.1 pc = .ok (.invokevirtual n, 3)) (kk : zW g t (pc + 3) L (r1.toList ++ rest) M1 rv M2) : zW g t pc L (av.reverse ++ .ref b :: rest) M rv M2 :=
  zback hM kk (fun p e R s m args below meth c H ls locs cells slots hF hR hL hc1 hc2 => by
    obtain ⟨u1, u2, u3, u4, u5, u6, u7⟩ := hu
    obtain ⟨h1, h2, h3, h4⟩ := hcd
    have hdec : va_Decl s ⟨owner, x.name, x.desc⟩ := by
      rcases u3 with h | ⟨h, b0, m0, r0, h'⟩
      · exact va_Decl.abs (va_Nw.warmD hF.2.2.2.2.2.1 (va_Nw.of rfl (hC.1 _ h)))
      · exact va_Decl.of (zw_at hC hF h rfl args) (zw_at hC hF h' rfl args)
    refine (va_runU (Ts := []) (C := C) (owner := owner) (x := x) (n := av.length) (bytes := t2.2.1) (maxL := t2.2.2.1) (ret := t2.2.2.2.1) ⟨hF.1, hF.2.1, hF.2.2.1, hF.2.2.2.1, fun _ h => by cases h⟩ hM.2.2 ⟨⟨rfl, rfl, Nat.le_trans hfit.1 hF.2.2.2.2.2.2.1, Nat.le_trans hfit.2.1 hF.2.2.2.2.2.2.2, fun w hw a' U hW => ?_, List.mem_singleton.mpr rfl⟩, zw_at hC hF h1 rfl args, zw_at hC hF h2 rfl args, u6, fun sig h => ?_, zw_at hC hF u1 rfl args, zw_at hC hF u2 rfl args, hdec, zw_at hC hF u4 rfl args, zw_at hC hF u5 rfl args⟩ (zV_of hC hF hR hc hb) rfl rfl hL.1 rfl (lv_room hfit.2.2) hd ⟨hc1, hc2⟩).run
    · rw [List.mem_singleton.mp hw]
      exact word_at hW (Or.inl rfl) (zw_at hC hF h1 rfl args)
    · rw [u7] at h
      rw [h] at h4
      exact (Option.some.inj h4).symm)
end ZC
end
