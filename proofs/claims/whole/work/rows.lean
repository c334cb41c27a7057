section
-- ===== PART A: goes FIRST, ahead of the names: the tables' words, and 'selects' of the private methods out of them =====
/-- a private method of a class that the tables say can be made, by its rows of tables_1 -/
def lw_okq (q : MethodName × Nat) : Prop := (q.1.cls ≠ "java/lang/invoke/MethodHandle" ∧ q.1.cls ≠ "java/lang/invoke/VarHandle") ∧ Cond.instantiable q.1.cls q.2 ∈ tables_1 ∧ Cond.privateMethod q.1 ∈ tables_1 ∧ Cond.instanceMethod q.1 ∈ tables_1
theorem lw_p0 : lw_okq (⟨"HouseFiddles$Town", "dryWets", "()V"⟩, 7) := ⟨⟨by decide +kernel, by decide +kernel⟩, List.mem_of_getElem? (i := 27) (by decide +kernel), List.mem_of_getElem? (i := 75) (by decide +kernel), List.mem_of_getElem? (i := 76) (by decide +kernel)⟩
theorem lw_p1 : lw_okq (⟨"HouseFiddles", "bad", "()I"⟩, 16) := ⟨⟨by decide +kernel, by decide +kernel⟩, List.mem_of_getElem? (i := 19) (by decide +kernel), List.mem_of_getElem? (i := 273) (by decide +kernel), List.mem_of_getElem? (i := 274) (by decide +kernel)⟩
theorem lw_p2 : lw_okq (⟨"HouseFiddles", "badAs", "(I)I"⟩, 16) := ⟨⟨by decide +kernel, by decide +kernel⟩, List.mem_of_getElem? (i := 19) (by decide +kernel), List.mem_of_getElem? (i := 277) (by decide +kernel), List.mem_of_getElem? (i := 278) (by decide +kernel)⟩
theorem lw_p3 : lw_okq (⟨"HouseFiddles", "full", "()I"⟩, 16) := ⟨⟨by decide +kernel, by decide +kernel⟩, List.mem_of_getElem? (i := 19) (by decide +kernel), List.mem_of_getElem? (i := 294) (by decide +kernel), List.mem_of_getElem? (i := 295) (by decide +kernel)⟩
theorem lw_p4 : lw_okq (⟨"HouseFiddles$Tokens", "splitOne", "(LHouseFiddles$Table;I)I"⟩, 2) := ⟨⟨by decide +kernel, by decide +kernel⟩, List.mem_of_getElem? (i := 135) (by decide +kernel), List.mem_of_getElem? (i := 359) (by decide +kernel), List.mem_of_getElem? (i := 360) (by decide +kernel)⟩
theorem lw_p5 : lw_okq (⟨"HouseFiddles$Tokens", "add", "(III)V"⟩, 2) := ⟨⟨by decide +kernel, by decide +kernel⟩, List.mem_of_getElem? (i := 135) (by decide +kernel), List.mem_of_getElem? (i := 427) (by decide +kernel), List.mem_of_getElem? (i := 428) (by decide +kernel)⟩
theorem lw_p6 : lw_okq (⟨"HouseFiddles$Reader", "take", "()V"⟩, 5) := ⟨⟨by decide +kernel, by decide +kernel⟩, List.mem_of_getElem? (i := 129) (by decide +kernel), List.mem_of_getElem? (i := 436) (by decide +kernel), List.mem_of_getElem? (i := 437) (by decide +kernel)⟩
theorem lw_p7 : lw_okq (⟨"HouseFiddles$Reader", "readItem", "(Z)Z"⟩, 5) := ⟨⟨by decide +kernel, by decide +kernel⟩, List.mem_of_getElem? (i := 129) (by decide +kernel), List.mem_of_getElem? (i := 445) (by decide +kernel), List.mem_of_getElem? (i := 446) (by decide +kernel)⟩
theorem lw_p8 : lw_okq (⟨"HouseFiddles$Reader", "takeStop", "()Z"⟩, 5) := ⟨⟨by decide +kernel, by decide +kernel⟩, List.mem_of_getElem? (i := 129) (by decide +kernel), List.mem_of_getElem? (i := 449) (by decide +kernel), List.mem_of_getElem? (i := 450) (by decide +kernel)⟩
theorem lw_p9 : lw_okq (⟨"HouseFiddles$Reader", "readWets", "()Z"⟩, 5) := ⟨⟨by decide +kernel, by decide +kernel⟩, List.mem_of_getElem? (i := 129) (by decide +kernel), List.mem_of_getElem? (i := 453) (by decide +kernel), List.mem_of_getElem? (i := 454) (by decide +kernel)⟩
theorem lw_p10 : lw_okq (⟨"HouseFiddles$Reader", "readBoard", "()Z"⟩, 5) := ⟨⟨by decide +kernel, by decide +kernel⟩, List.mem_of_getElem? (i := 129) (by decide +kernel), List.mem_of_getElem? (i := 458) (by decide +kernel), List.mem_of_getElem? (i := 459) (by decide +kernel)⟩
theorem lw_p11 : lw_okq (⟨"HouseFiddles$Reader", "takeNumber", "(II)I"⟩, 5) := ⟨⟨by decide +kernel, by decide +kernel⟩, List.mem_of_getElem? (i := 129) (by decide +kernel), List.mem_of_getElem? (i := 463) (by decide +kernel), List.mem_of_getElem? (i := 464) (by decide +kernel)⟩
theorem lw_p12 : lw_okq (⟨"HouseFiddles$Reader", "readInstrument", "()Z"⟩, 5) := ⟨⟨by decide +kernel, by decide +kernel⟩, List.mem_of_getElem? (i := 129) (by decide +kernel), List.mem_of_getElem? (i := 469) (by decide +kernel), List.mem_of_getElem? (i := 470) (by decide +kernel)⟩
theorem lw_p13 : lw_okq (⟨"HouseFiddles$Reader", "readCut", "()Z"⟩, 5) := ⟨⟨by decide +kernel, by decide +kernel⟩, List.mem_of_getElem? (i := 129) (by decide +kernel), List.mem_of_getElem? (i := 475) (by decide +kernel), List.mem_of_getElem? (i := 476) (by decide +kernel)⟩
theorem lw_p14 : lw_okq (⟨"HouseFiddles$Reader", "readWorm", "()Z"⟩, 5) := ⟨⟨by decide +kernel, by decide +kernel⟩, List.mem_of_getElem? (i := 129) (by decide +kernel), List.mem_of_getElem? (i := 498) (by decide +kernel), List.mem_of_getElem? (i := 499) (by decide +kernel)⟩
theorem lw_p15 : lw_okq (⟨"HouseFiddles$Reader", "readYears", "()Z"⟩, 5) := ⟨⟨by decide +kernel, by decide +kernel⟩, List.mem_of_getElem? (i := 129) (by decide +kernel), List.mem_of_getElem? (i := 502) (by decide +kernel), List.mem_of_getElem? (i := 503) (by decide +kernel)⟩
def lw_privs_1 : List (MethodName × Nat) := [(⟨"HouseFiddles$Town", "dryWets", "()V"⟩, 7), (⟨"HouseFiddles", "bad", "()I"⟩, 16), (⟨"HouseFiddles", "badAs", "(I)I"⟩, 16), (⟨"HouseFiddles", "full", "()I"⟩, 16), (⟨"HouseFiddles$Tokens", "splitOne", "(LHouseFiddles$Table;I)I"⟩, 2), (⟨"HouseFiddles$Tokens", "add", "(III)V"⟩, 2), (⟨"HouseFiddles$Reader", "take", "()V"⟩, 5), (⟨"HouseFiddles$Reader", "readItem", "(Z)Z"⟩, 5), (⟨"HouseFiddles$Reader", "takeStop", "()Z"⟩, 5), (⟨"HouseFiddles$Reader", "readWets", "()Z"⟩, 5), (⟨"HouseFiddles$Reader", "readBoard", "()Z"⟩, 5), (⟨"HouseFiddles$Reader", "takeNumber", "(II)I"⟩, 5), (⟨"HouseFiddles$Reader", "readInstrument", "()Z"⟩, 5), (⟨"HouseFiddles$Reader", "readCut", "()Z"⟩, 5), (⟨"HouseFiddles$Reader", "readWorm", "()Z"⟩, 5), (⟨"HouseFiddles$Reader", "readYears", "()Z"⟩, 5)]
theorem lw_r1 : ∀ q ∈ lw_privs_1, lw_okq q := List.forall_mem_cons.mpr ⟨lw_p0, List.forall_mem_cons.mpr ⟨lw_p1, List.forall_mem_cons.mpr ⟨lw_p2, List.forall_mem_cons.mpr ⟨lw_p3, List.forall_mem_cons.mpr ⟨lw_p4, List.forall_mem_cons.mpr ⟨lw_p5, List.forall_mem_cons.mpr ⟨lw_p6, List.forall_mem_cons.mpr ⟨lw_p7, List.forall_mem_cons.mpr ⟨lw_p8, List.forall_mem_cons.mpr ⟨lw_p9, List.forall_mem_cons.mpr ⟨lw_p10, List.forall_mem_cons.mpr ⟨lw_p11, List.forall_mem_cons.mpr ⟨lw_p12, List.forall_mem_cons.mpr ⟨lw_p13, List.forall_mem_cons.mpr ⟨lw_p14, List.forall_mem_cons.mpr ⟨lw_p15, fun _ h => absurd h List.not_mem_nil⟩⟩⟩⟩⟩⟩⟩⟩⟩⟩⟩⟩⟩⟩⟩⟩
theorem lw_p16 : lw_okq (⟨"HouseFiddles$Boards", "wormyNext", "()I"⟩, 2) := ⟨⟨by decide +kernel, by decide +kernel⟩, List.mem_of_getElem? (i := 33) (by decide +kernel), List.mem_of_getElem? (i := 514) (by decide +kernel), List.mem_of_getElem? (i := 515) (by decide +kernel)⟩
theorem lw_p17 : lw_okq (⟨"HouseFiddles", "no", "()I"⟩, 16) := ⟨⟨by decide +kernel, by decide +kernel⟩, List.mem_of_getElem? (i := 19) (by decide +kernel), List.mem_of_getElem? (i := 580) (by decide +kernel), List.mem_of_getElem? (i := 581) (by decide +kernel)⟩
theorem lw_p18 : lw_okq (⟨"HouseFiddles", "playDried", "(III)I"⟩, 16) := ⟨⟨by decide +kernel, by decide +kernel⟩, List.mem_of_getElem? (i := 19) (by decide +kernel), List.mem_of_getElem? (i := 709) (by decide +kernel), List.mem_of_getElem? (i := 710) (by decide +kernel)⟩
theorem lw_p19 : lw_okq (⟨"HouseFiddles$Maker", "mostWithShare", "(II)I"⟩, 5) := ⟨⟨by decide +kernel, by decide +kernel⟩, List.mem_of_getElem? (i := 170) (by decide +kernel), List.mem_of_getElem? (i := 740) (by decide +kernel), List.mem_of_getElem? (i := 741) (by decide +kernel)⟩
theorem lw_p20 : lw_okq (⟨"HouseFiddles$Maker", "firstPlace", "(III)I"⟩, 5) := ⟨⟨by decide +kernel, by decide +kernel⟩, List.mem_of_getElem? (i := 170) (by decide +kernel), List.mem_of_getElem? (i := 753) (by decide +kernel), List.mem_of_getElem? (i := 754) (by decide +kernel)⟩
theorem lw_p21 : lw_okq (⟨"HouseFiddles", "areFriends", "(I)Z"⟩, 16) := ⟨⟨by decide +kernel, by decide +kernel⟩, List.mem_of_getElem? (i := 19) (by decide +kernel), List.mem_of_getElem? (i := 773) (by decide +kernel), List.mem_of_getElem? (i := 774) (by decide +kernel)⟩
theorem lw_p22 : lw_okq (⟨"HouseFiddles$Town", "soundsAsHeard", "(I)Z"⟩, 7) := ⟨⟨by decide +kernel, by decide +kernel⟩, List.mem_of_getElem? (i := 27) (by decide +kernel), List.mem_of_getElem? (i := 790) (by decide +kernel), List.mem_of_getElem? (i := 791) (by decide +kernel)⟩
theorem lw_p23 : lw_okq (⟨"HouseFiddles", "mostAlike", "(I)I"⟩, 16) := ⟨⟨by decide +kernel, by decide +kernel⟩, List.mem_of_getElem? (i := 19) (by decide +kernel), List.mem_of_getElem? (i := 798) (by decide +kernel), List.mem_of_getElem? (i := 799) (by decide +kernel)⟩
theorem lw_p24 : lw_okq (⟨"HouseFiddles", "manyLike", "(II)I"⟩, 16) := ⟨⟨by decide +kernel, by decide +kernel⟩, List.mem_of_getElem? (i := 19) (by decide +kernel), List.mem_of_getElem? (i := 802) (by decide +kernel), List.mem_of_getElem? (i := 803) (by decide +kernel)⟩
theorem lw_p25 : lw_okq (⟨"HouseFiddles$Town", "soundsAsNoted", "(II)Z"⟩, 7) := ⟨⟨by decide +kernel, by decide +kernel⟩, List.mem_of_getElem? (i := 27) (by decide +kernel), List.mem_of_getElem? (i := 826) (by decide +kernel), List.mem_of_getElem? (i := 827) (by decide +kernel)⟩
theorem lw_p26 : lw_okq (⟨"HouseFiddles$Town", "playsAsMarked", "(II)Z"⟩, 7) := ⟨⟨by decide +kernel, by decide +kernel⟩, List.mem_of_getElem? (i := 27) (by decide +kernel), List.mem_of_getElem? (i := 844) (by decide +kernel), List.mem_of_getElem? (i := 845) (by decide +kernel)⟩
theorem lw_p27 : lw_okq (⟨"HouseFiddles", "mostAlikeAsked", "(IIII)I"⟩, 16) := ⟨⟨by decide +kernel, by decide +kernel⟩, List.mem_of_getElem? (i := 19) (by decide +kernel), List.mem_of_getElem? (i := 852) (by decide +kernel), List.mem_of_getElem? (i := 853) (by decide +kernel)⟩
theorem lw_p28 : lw_okq (⟨"HouseFiddles", "playWeeping", "(III)I"⟩, 16) := ⟨⟨by decide +kernel, by decide +kernel⟩, List.mem_of_getElem? (i := 19) (by decide +kernel), List.mem_of_getElem? (i := 878) (by decide +kernel), List.mem_of_getElem? (i := 879) (by decide +kernel)⟩
theorem lw_p29 : lw_okq (⟨"HouseFiddles", "keepFraction", "(JJ)V"⟩, 16) := ⟨⟨by decide +kernel, by decide +kernel⟩, List.mem_of_getElem? (i := 19) (by decide +kernel), List.mem_of_getElem? (i := 884) (by decide +kernel), List.mem_of_getElem? (i := 885) (by decide +kernel)⟩
theorem lw_p30 : lw_okq (⟨"HouseFiddlesModel", "empties", "(I)V"⟩, 13) := ⟨⟨by decide +kernel, by decide +kernel⟩, List.mem_of_getElem? (i := 939) (by decide +kernel), List.mem_of_getElem? (i := 990) (by decide +kernel), List.mem_of_getElem? (i := 991) (by decide +kernel)⟩
theorem lw_p31 : lw_okq (⟨"HouseFiddlesModel", "bad", "(I)I"⟩, 13) := ⟨⟨by decide +kernel, by decide +kernel⟩, List.mem_of_getElem? (i := 939) (by decide +kernel), List.mem_of_getElem? (i := 1002) (by decide +kernel), List.mem_of_getElem? (i := 1003) (by decide +kernel)⟩
def lw_privs_2 : List (MethodName × Nat) := [(⟨"HouseFiddles$Boards", "wormyNext", "()I"⟩, 2), (⟨"HouseFiddles", "no", "()I"⟩, 16), (⟨"HouseFiddles", "playDried", "(III)I"⟩, 16), (⟨"HouseFiddles$Maker", "mostWithShare", "(II)I"⟩, 5), (⟨"HouseFiddles$Maker", "firstPlace", "(III)I"⟩, 5), (⟨"HouseFiddles", "areFriends", "(I)Z"⟩, 16), (⟨"HouseFiddles$Town", "soundsAsHeard", "(I)Z"⟩, 7), (⟨"HouseFiddles", "mostAlike", "(I)I"⟩, 16), (⟨"HouseFiddles", "manyLike", "(II)I"⟩, 16), (⟨"HouseFiddles$Town", "soundsAsNoted", "(II)Z"⟩, 7), (⟨"HouseFiddles$Town", "playsAsMarked", "(II)Z"⟩, 7), (⟨"HouseFiddles", "mostAlikeAsked", "(IIII)I"⟩, 16), (⟨"HouseFiddles", "playWeeping", "(III)I"⟩, 16), (⟨"HouseFiddles", "keepFraction", "(JJ)V"⟩, 16), (⟨"HouseFiddlesModel", "empties", "(I)V"⟩, 13), (⟨"HouseFiddlesModel", "bad", "(I)I"⟩, 13)]
theorem lw_r2 : ∀ q ∈ lw_privs_2, lw_okq q := List.forall_mem_cons.mpr ⟨lw_p16, List.forall_mem_cons.mpr ⟨lw_p17, List.forall_mem_cons.mpr ⟨lw_p18, List.forall_mem_cons.mpr ⟨lw_p19, List.forall_mem_cons.mpr ⟨lw_p20, List.forall_mem_cons.mpr ⟨lw_p21, List.forall_mem_cons.mpr ⟨lw_p22, List.forall_mem_cons.mpr ⟨lw_p23, List.forall_mem_cons.mpr ⟨lw_p24, List.forall_mem_cons.mpr ⟨lw_p25, List.forall_mem_cons.mpr ⟨lw_p26, List.forall_mem_cons.mpr ⟨lw_p27, List.forall_mem_cons.mpr ⟨lw_p28, List.forall_mem_cons.mpr ⟨lw_p29, List.forall_mem_cons.mpr ⟨lw_p30, List.forall_mem_cons.mpr ⟨lw_p31, fun _ h => absurd h List.not_mem_nil⟩⟩⟩⟩⟩⟩⟩⟩⟩⟩⟩⟩⟩⟩⟩⟩
theorem lw_p32 : lw_okq (⟨"HouseFiddlesModel", "full", "()I"⟩, 13) := ⟨⟨by decide +kernel, by decide +kernel⟩, List.mem_of_getElem? (i := 939) (by decide +kernel), List.mem_of_getElem? (i := 1014) (by decide +kernel), List.mem_of_getElem? (i := 1015) (by decide +kernel)⟩
theorem lw_p33 : lw_okq (⟨"HouseFiddlesModel", "adds", "(IIIII)V"⟩, 13) := ⟨⟨by decide +kernel, by decide +kernel⟩, List.mem_of_getElem? (i := 939) (by decide +kernel), List.mem_of_getElem? (i := 1018) (by decide +kernel), List.mem_of_getElem? (i := 1019) (by decide +kernel)⟩
theorem lw_p34 : lw_okq (⟨"HouseFiddlesModel", "isBoard", "(I)Z"⟩, 13) := ⟨⟨by decide +kernel, by decide +kernel⟩, List.mem_of_getElem? (i := 939) (by decide +kernel), List.mem_of_getElem? (i := 1030) (by decide +kernel), List.mem_of_getElem? (i := 1031) (by decide +kernel)⟩
theorem lw_p35 : lw_okq (⟨"HouseFiddlesModel", "blanks", "()V"⟩, 13) := ⟨⟨by decide +kernel, by decide +kernel⟩, List.mem_of_getElem? (i := 939) (by decide +kernel), List.mem_of_getElem? (i := 1047) (by decide +kernel), List.mem_of_getElem? (i := 1048) (by decide +kernel)⟩
theorem lw_p36 : lw_okq (⟨"HouseFiddlesModel", "byteAt", "(I)I"⟩, 13) := ⟨⟨by decide +kernel, by decide +kernel⟩, List.mem_of_getElem? (i := 939) (by decide +kernel), List.mem_of_getElem? (i := 1051) (by decide +kernel), List.mem_of_getElem? (i := 1052) (by decide +kernel)⟩
theorem lw_p37 : lw_okq (⟨"HouseFiddlesModel", "readsItem", "(Z)Z"⟩, 13) := ⟨⟨by decide +kernel, by decide +kernel⟩, List.mem_of_getElem? (i := 939) (by decide +kernel), List.mem_of_getElem? (i := 1055) (by decide +kernel), List.mem_of_getElem? (i := 1056) (by decide +kernel)⟩
theorem lw_p38 : lw_okq (⟨"HouseFiddlesModel", "takesWord", "()V"⟩, 13) := ⟨⟨by decide +kernel, by decide +kernel⟩, List.mem_of_getElem? (i := 939) (by decide +kernel), List.mem_of_getElem? (i := 1059) (by decide +kernel), List.mem_of_getElem? (i := 1060) (by decide +kernel)⟩
theorem lw_p39 : lw_okq (⟨"HouseFiddlesModel", "wordOf", "()I"⟩, 13) := ⟨⟨by decide +kernel, by decide +kernel⟩, List.mem_of_getElem? (i := 939) (by decide +kernel), List.mem_of_getElem? (i := 1065) (by decide +kernel), List.mem_of_getElem? (i := 1066) (by decide +kernel)⟩
theorem lw_p40 : lw_okq (⟨"HouseFiddlesModel", "isWord", "(IIIIIII)Z"⟩, 13) := ⟨⟨by decide +kernel, by decide +kernel⟩, List.mem_of_getElem? (i := 939) (by decide +kernel), List.mem_of_getElem? (i := 1069) (by decide +kernel), List.mem_of_getElem? (i := 1070) (by decide +kernel)⟩
theorem lw_p41 : lw_okq (⟨"HouseFiddlesModel", "isLetter", "(III)Z"⟩, 13) := ⟨⟨by decide +kernel, by decide +kernel⟩, List.mem_of_getElem? (i := 939) (by decide +kernel), List.mem_of_getElem? (i := 1073) (by decide +kernel), List.mem_of_getElem? (i := 1074) (by decide +kernel)⟩
theorem lw_p42 : lw_okq (⟨"HouseFiddlesModel", "readsWet", "()Z"⟩, 13) := ⟨⟨by decide +kernel, by decide +kernel⟩, List.mem_of_getElem? (i := 939) (by decide +kernel), List.mem_of_getElem? (i := 1077) (by decide +kernel), List.mem_of_getElem? (i := 1078) (by decide +kernel)⟩
theorem lw_p43 : lw_okq (⟨"HouseFiddlesModel", "takesNumber", "(II)Z"⟩, 13) := ⟨⟨by decide +kernel, by decide +kernel⟩, List.mem_of_getElem? (i := 939) (by decide +kernel), List.mem_of_getElem? (i := 1081) (by decide +kernel), List.mem_of_getElem? (i := 1082) (by decide +kernel)⟩
theorem lw_p44 : lw_okq (⟨"HouseFiddlesModel", "readsBoard", "()Z"⟩, 13) := ⟨⟨by decide +kernel, by decide +kernel⟩, List.mem_of_getElem? (i := 939) (by decide +kernel), List.mem_of_getElem? (i := 1088) (by decide +kernel), List.mem_of_getElem? (i := 1089) (by decide +kernel)⟩
theorem lw_p45 : lw_okq (⟨"HouseFiddlesModel", "readsMake", "()Z"⟩, 13) := ⟨⟨by decide +kernel, by decide +kernel⟩, List.mem_of_getElem? (i := 939) (by decide +kernel), List.mem_of_getElem? (i := 1092) (by decide +kernel), List.mem_of_getElem? (i := 1093) (by decide +kernel)⟩
theorem lw_p46 : lw_okq (⟨"HouseFiddlesModel", "readsCut", "()Z"⟩, 13) := ⟨⟨by decide +kernel, by decide +kernel⟩, List.mem_of_getElem? (i := 939) (by decide +kernel), List.mem_of_getElem? (i := 1096) (by decide +kernel), List.mem_of_getElem? (i := 1097) (by decide +kernel)⟩
theorem lw_p47 : lw_okq (⟨"HouseFiddlesModel", "boardsOf", "(II)I"⟩, 13) := ⟨⟨by decide +kernel, by decide +kernel⟩, List.mem_of_getElem? (i := 939) (by decide +kernel), List.mem_of_getElem? (i := 1100) (by decide +kernel), List.mem_of_getElem? (i := 1101) (by decide +kernel)⟩
def lw_privs_3 : List (MethodName × Nat) := [(⟨"HouseFiddlesModel", "full", "()I"⟩, 13), (⟨"HouseFiddlesModel", "adds", "(IIIII)V"⟩, 13), (⟨"HouseFiddlesModel", "isBoard", "(I)Z"⟩, 13), (⟨"HouseFiddlesModel", "blanks", "()V"⟩, 13), (⟨"HouseFiddlesModel", "byteAt", "(I)I"⟩, 13), (⟨"HouseFiddlesModel", "readsItem", "(Z)Z"⟩, 13), (⟨"HouseFiddlesModel", "takesWord", "()V"⟩, 13), (⟨"HouseFiddlesModel", "wordOf", "()I"⟩, 13), (⟨"HouseFiddlesModel", "isWord", "(IIIIIII)Z"⟩, 13), (⟨"HouseFiddlesModel", "isLetter", "(III)Z"⟩, 13), (⟨"HouseFiddlesModel", "readsWet", "()Z"⟩, 13), (⟨"HouseFiddlesModel", "takesNumber", "(II)Z"⟩, 13), (⟨"HouseFiddlesModel", "readsBoard", "()Z"⟩, 13), (⟨"HouseFiddlesModel", "readsMake", "()Z"⟩, 13), (⟨"HouseFiddlesModel", "readsCut", "()Z"⟩, 13), (⟨"HouseFiddlesModel", "boardsOf", "(II)I"⟩, 13)]
theorem lw_r3 : ∀ q ∈ lw_privs_3, lw_okq q := List.forall_mem_cons.mpr ⟨lw_p32, List.forall_mem_cons.mpr ⟨lw_p33, List.forall_mem_cons.mpr ⟨lw_p34, List.forall_mem_cons.mpr ⟨lw_p35, List.forall_mem_cons.mpr ⟨lw_p36, List.forall_mem_cons.mpr ⟨lw_p37, List.forall_mem_cons.mpr ⟨lw_p38, List.forall_mem_cons.mpr ⟨lw_p39, List.forall_mem_cons.mpr ⟨lw_p40, List.forall_mem_cons.mpr ⟨lw_p41, List.forall_mem_cons.mpr ⟨lw_p42, List.forall_mem_cons.mpr ⟨lw_p43, List.forall_mem_cons.mpr ⟨lw_p44, List.forall_mem_cons.mpr ⟨lw_p45, List.forall_mem_cons.mpr ⟨lw_p46, List.forall_mem_cons.mpr ⟨lw_p47, fun _ h => absurd h List.not_mem_nil⟩⟩⟩⟩⟩⟩⟩⟩⟩⟩⟩⟩⟩⟩⟩⟩
theorem lw_p48 : lw_okq (⟨"HouseFiddlesModel", "readsWorm", "()Z"⟩, 13) := ⟨⟨by decide +kernel, by decide +kernel⟩, List.mem_of_getElem? (i := 939) (by decide +kernel), List.mem_of_getElem? (i := 1104) (by decide +kernel), List.mem_of_getElem? (i := 1105) (by decide +kernel)⟩
theorem lw_p49 : lw_okq (⟨"HouseFiddlesModel", "readsYears", "()Z"⟩, 13) := ⟨⟨by decide +kernel, by decide +kernel⟩, List.mem_of_getElem? (i := 939) (by decide +kernel), List.mem_of_getElem? (i := 1108) (by decide +kernel), List.mem_of_getElem? (i := 1109) (by decide +kernel)⟩
theorem lw_p50 : lw_okq (⟨"HouseFiddlesModel", "passes", "(I)V"⟩, 13) := ⟨⟨by decide +kernel, by decide +kernel⟩, List.mem_of_getElem? (i := 939) (by decide +kernel), List.mem_of_getElem? (i := 1112) (by decide +kernel), List.mem_of_getElem? (i := 1113) (by decide +kernel)⟩
theorem lw_p51 : lw_okq (⟨"HouseFiddlesModel", "takesEnd", "()Z"⟩, 13) := ⟨⟨by decide +kernel, by decide +kernel⟩, List.mem_of_getElem? (i := 939) (by decide +kernel), List.mem_of_getElem? (i := 1116) (by decide +kernel), List.mem_of_getElem? (i := 1117) (by decide +kernel)⟩
theorem lw_p52 : lw_okq (⟨"HouseFiddlesModel", "copy", "(II)V"⟩, 13) := ⟨⟨by decide +kernel, by decide +kernel⟩, List.mem_of_getElem? (i := 939) (by decide +kernel), List.mem_of_getElem? (i := 1120) (by decide +kernel), List.mem_of_getElem? (i := 1121) (by decide +kernel)⟩
theorem lw_p53 : lw_okq (⟨"HouseFiddlesModel", "minds", "()V"⟩, 13) := ⟨⟨by decide +kernel, by decide +kernel⟩, List.mem_of_getElem? (i := 939) (by decide +kernel), List.mem_of_getElem? (i := 1129) (by decide +kernel), List.mem_of_getElem? (i := 1130) (by decide +kernel)⟩
theorem lw_p54 : lw_okq (⟨"HouseFiddlesModel", "sumOf", "(I)I"⟩, 13) := ⟨⟨by decide +kernel, by decide +kernel⟩, List.mem_of_getElem? (i := 939) (by decide +kernel), List.mem_of_getElem? (i := 1133) (by decide +kernel), List.mem_of_getElem? (i := 1134) (by decide +kernel)⟩
theorem lw_p55 : lw_okq (⟨"HouseFiddlesModel", "isInstrument", "(I)Z"⟩, 13) := ⟨⟨by decide +kernel, by decide +kernel⟩, List.mem_of_getElem? (i := 939) (by decide +kernel), List.mem_of_getElem? (i := 1141) (by decide +kernel), List.mem_of_getElem? (i := 1142) (by decide +kernel)⟩
theorem lw_p56 : lw_okq (⟨"HouseFiddlesModel", "no", "()I"⟩, 13) := ⟨⟨by decide +kernel, by decide +kernel⟩, List.mem_of_getElem? (i := 939) (by decide +kernel), List.mem_of_getElem? (i := 1145) (by decide +kernel), List.mem_of_getElem? (i := 1146) (by decide +kernel)⟩
theorem lw_p57 : lw_okq (⟨"HouseFiddlesModel", "ofBoard", "(II)I"⟩, 13) := ⟨⟨by decide +kernel, by decide +kernel⟩, List.mem_of_getElem? (i := 939) (by decide +kernel), List.mem_of_getElem? (i := 1168) (by decide +kernel), List.mem_of_getElem? (i := 1169) (by decide +kernel)⟩
theorem lw_p58 : lw_okq (⟨"HouseFiddlesModel", "housesOf", "(II)I"⟩, 13) := ⟨⟨by decide +kernel, by decide +kernel⟩, List.mem_of_getElem? (i := 939) (by decide +kernel), List.mem_of_getElem? (i := 1176) (by decide +kernel), List.mem_of_getElem? (i := 1177) (by decide +kernel)⟩
theorem lw_p59 : lw_okq (⟨"HouseFiddlesModel", "soundsIn", "(III)I"⟩, 13) := ⟨⟨by decide +kernel, by decide +kernel⟩, List.mem_of_getElem? (i := 939) (by decide +kernel), List.mem_of_getElem? (i := 1190) (by decide +kernel), List.mem_of_getElem? (i := 1191) (by decide +kernel)⟩
theorem lw_p60 : lw_okq (⟨"HouseFiddlesModel", "playsIn", "(III)I"⟩, 13) := ⟨⟨by decide +kernel, by decide +kernel⟩, List.mem_of_getElem? (i := 939) (by decide +kernel), List.mem_of_getElem? (i := 1210) (by decide +kernel), List.mem_of_getElem? (i := 1211) (by decide +kernel)⟩
theorem lw_p61 : lw_okq (⟨"HouseFiddlesModel", "tries", "()V"⟩, 13) := ⟨⟨by decide +kernel, by decide +kernel⟩, List.mem_of_getElem? (i := 939) (by decide +kernel), List.mem_of_getElem? (i := 1224) (by decide +kernel), List.mem_of_getElem? (i := 1225) (by decide +kernel)⟩
theorem lw_p62 : lw_okq (⟨"HouseFiddlesModel", "freeOnes", "()I"⟩, 13) := ⟨⟨by decide +kernel, by decide +kernel⟩, List.mem_of_getElem? (i := 939) (by decide +kernel), List.mem_of_getElem? (i := 1241) (by decide +kernel), List.mem_of_getElem? (i := 1242) (by decide +kernel)⟩
theorem lw_p63 : lw_okq (⟨"HouseFiddlesModel", "hasRoom", "()Z"⟩, 13) := ⟨⟨by decide +kernel, by decide +kernel⟩, List.mem_of_getElem? (i := 939) (by decide +kernel), List.mem_of_getElem? (i := 1252) (by decide +kernel), List.mem_of_getElem? (i := 1253) (by decide +kernel)⟩
def lw_privs_4 : List (MethodName × Nat) := [(⟨"HouseFiddlesModel", "readsWorm", "()Z"⟩, 13), (⟨"HouseFiddlesModel", "readsYears", "()Z"⟩, 13), (⟨"HouseFiddlesModel", "passes", "(I)V"⟩, 13), (⟨"HouseFiddlesModel", "takesEnd", "()Z"⟩, 13), (⟨"HouseFiddlesModel", "copy", "(II)V"⟩, 13), (⟨"HouseFiddlesModel", "minds", "()V"⟩, 13), (⟨"HouseFiddlesModel", "sumOf", "(I)I"⟩, 13), (⟨"HouseFiddlesModel", "isInstrument", "(I)Z"⟩, 13), (⟨"HouseFiddlesModel", "no", "()I"⟩, 13), (⟨"HouseFiddlesModel", "ofBoard", "(II)I"⟩, 13), (⟨"HouseFiddlesModel", "housesOf", "(II)I"⟩, 13), (⟨"HouseFiddlesModel", "soundsIn", "(III)I"⟩, 13), (⟨"HouseFiddlesModel", "playsIn", "(III)I"⟩, 13), (⟨"HouseFiddlesModel", "tries", "()V"⟩, 13), (⟨"HouseFiddlesModel", "freeOnes", "()I"⟩, 13), (⟨"HouseFiddlesModel", "hasRoom", "()Z"⟩, 13)]
theorem lw_r4 : ∀ q ∈ lw_privs_4, lw_okq q := List.forall_mem_cons.mpr ⟨lw_p48, List.forall_mem_cons.mpr ⟨lw_p49, List.forall_mem_cons.mpr ⟨lw_p50, List.forall_mem_cons.mpr ⟨lw_p51, List.forall_mem_cons.mpr ⟨lw_p52, List.forall_mem_cons.mpr ⟨lw_p53, List.forall_mem_cons.mpr ⟨lw_p54, List.forall_mem_cons.mpr ⟨lw_p55, List.forall_mem_cons.mpr ⟨lw_p56, List.forall_mem_cons.mpr ⟨lw_p57, List.forall_mem_cons.mpr ⟨lw_p58, List.forall_mem_cons.mpr ⟨lw_p59, List.forall_mem_cons.mpr ⟨lw_p60, List.forall_mem_cons.mpr ⟨lw_p61, List.forall_mem_cons.mpr ⟨lw_p62, List.forall_mem_cons.mpr ⟨lw_p63, fun _ h => absurd h List.not_mem_nil⟩⟩⟩⟩⟩⟩⟩⟩⟩⟩⟩⟩⟩⟩⟩⟩
theorem lw_p64 : lw_okq (⟨"HouseFiddlesModel", "poorest", "(I)I"⟩, 13) := ⟨⟨by decide +kernel, by decide +kernel⟩, List.mem_of_getElem? (i := 939) (by decide +kernel), List.mem_of_getElem? (i := 1256) (by decide +kernel), List.mem_of_getElem? (i := 1257) (by decide +kernel)⟩
theorem lw_p65 : lw_okq (⟨"HouseFiddlesModel", "areNear", "(III)Z"⟩, 13) := ⟨⟨by decide +kernel, by decide +kernel⟩, List.mem_of_getElem? (i := 939) (by decide +kernel), List.mem_of_getElem? (i := 1265) (by decide +kernel), List.mem_of_getElem? (i := 1266) (by decide +kernel)⟩
theorem lw_p66 : lw_okq (⟨"HouseFiddlesModel", "greatest", "(I)I"⟩, 13) := ⟨⟨by decide +kernel, by decide +kernel⟩, List.mem_of_getElem? (i := 939) (by decide +kernel), List.mem_of_getElem? (i := 1287) (by decide +kernel), List.mem_of_getElem? (i := 1288) (by decide +kernel)⟩
theorem lw_p67 : lw_okq (⟨"HouseFiddlesModel", "kindsOf", "(I)I"⟩, 13) := ⟨⟨by decide +kernel, by decide +kernel⟩, List.mem_of_getElem? (i := 939) (by decide +kernel), List.mem_of_getElem? (i := 1308) (by decide +kernel), List.mem_of_getElem? (i := 1309) (by decide +kernel)⟩
theorem lw_p68 : lw_okq (⟨"HouseFiddlesModel", "instrumentsOf", "(I)I"⟩, 13) := ⟨⟨by decide +kernel, by decide +kernel⟩, List.mem_of_getElem? (i := 939) (by decide +kernel), List.mem_of_getElem? (i := 1320) (by decide +kernel), List.mem_of_getElem? (i := 1321) (by decide +kernel)⟩
theorem lw_p69 : lw_okq (⟨"HouseFiddlesModel", "countOf", "(I)I"⟩, 13) := ⟨⟨by decide +kernel, by decide +kernel⟩, List.mem_of_getElem? (i := 939) (by decide +kernel), List.mem_of_getElem? (i := 1373) (by decide +kernel), List.mem_of_getElem? (i := 1374) (by decide +kernel)⟩
theorem lw_p70 : lw_okq (⟨"HouseFiddlesModel", "mix", "(J)V"⟩, 13) := ⟨⟨by decide +kernel, by decide +kernel⟩, List.mem_of_getElem? (i := 939) (by decide +kernel), List.mem_of_getElem? (i := 1382) (by decide +kernel), List.mem_of_getElem? (i := 1383) (by decide +kernel)⟩
def lw_privs_5 : List (MethodName × Nat) := [(⟨"HouseFiddlesModel", "poorest", "(I)I"⟩, 13), (⟨"HouseFiddlesModel", "areNear", "(III)Z"⟩, 13), (⟨"HouseFiddlesModel", "greatest", "(I)I"⟩, 13), (⟨"HouseFiddlesModel", "kindsOf", "(I)I"⟩, 13), (⟨"HouseFiddlesModel", "instrumentsOf", "(I)I"⟩, 13), (⟨"HouseFiddlesModel", "countOf", "(I)I"⟩, 13), (⟨"HouseFiddlesModel", "mix", "(J)V"⟩, 13)]
theorem lw_r5 : ∀ q ∈ lw_privs_5, lw_okq q := List.forall_mem_cons.mpr ⟨lw_p64, List.forall_mem_cons.mpr ⟨lw_p65, List.forall_mem_cons.mpr ⟨lw_p66, List.forall_mem_cons.mpr ⟨lw_p67, List.forall_mem_cons.mpr ⟨lw_p68, List.forall_mem_cons.mpr ⟨lw_p69, List.forall_mem_cons.mpr ⟨lw_p70, fun _ h => absurd h List.not_mem_nil⟩⟩⟩⟩⟩⟩⟩
def lw_privs : List (MethodName × Nat) := lw_privs_1 ++ (lw_privs_2 ++ (lw_privs_3 ++ (lw_privs_4 ++ (lw_privs_5))))
def lw_tbl : List Cond := k2_sels lw_privs ++ tables_1
theorem lw_privs_ok : ∀ q ∈ lw_privs, lw_okq q := by
  show ∀ q ∈ lw_privs_1 ++ (lw_privs_2 ++ (lw_privs_3 ++ (lw_privs_4 ++ (lw_privs_5)))), lw_okq q
  exact List.forall_mem_append.mpr ⟨lw_r1, List.forall_mem_append.mpr ⟨lw_r2, List.forall_mem_append.mpr ⟨lw_r3, List.forall_mem_append.mpr ⟨lw_r4, lw_r5⟩⟩⟩⟩
/-- those words of the tables that stay over a call -/
def lw_tb : List Cond := lw_tbl.filter goodWord
theorem lw_tb_of {w : Cond} (h : w ∈ lw_tbl) (hg : goodWord w = true) : w ∈ lw_tb := List.mem_filter.mpr ⟨h, hg⟩
theorem lw_tb_at {w : Cond} (i : Nat) (h : tables_1[i]? = some w) (hg : goodWord w = true) : w ∈ lw_tb := lw_tb_of (List.mem_append_right _ (List.mem_of_getElem? h)) hg
theorem lw_tb_sel {w : Cond} (i : Nat) (h : (k2_sels lw_privs)[i]? = some w) (hg : goodWord w = true) : w ∈ lw_tb := lw_tb_of (List.mem_append_left _ (List.mem_of_getElem? h)) hg
theorem lw_tb_good : ∀ w ∈ lw_tb, goodWord w = true := fun _ hw => (List.mem_filter.mp hw).2
end
section
/-! names of the classes, their fields in the order of the slots (declaring class, name, descriptor, final), their types: rows printed from the class files -/
def RX0 : String := "HouseFiddles$Boards"
def TX0 : u_T := fun k => match k with
  | 0 => ("HouseFiddles$Boards", "cells", "LHouseFiddles$Table;", true)
  | _ => ("HouseFiddles$Boards", "year", "I", false)
def tyX0 : Nat → FieldType := fun k => match k with
  | 0 => .object "HouseFiddles$Table"
  | _ => .int
theorem nmX0 : ∀ a, a < 2 → ∀ b, b < 2 → a ≠ b → (TX0 a).2.1 ≠ (TX0 b).2.1 := by decide +kernel
theorem tyX0_ok : ∀ k, k < 2 → parseFieldDescriptor (TX0 k).2.2.1 = some (tyX0 k) := by decide +kernel
def RX1 : String := "HouseFiddles$Maker"
def TX1 : u_T := fun k => match k with
  | 0 => ("HouseFiddles$Maker", "played", "LHouseFiddles$Table;", true)
  | 1 => ("HouseFiddles$Maker", "reached", "LHouseFiddles$Table;", true)
  | 2 => ("HouseFiddles$Maker", "given", "LHouseFiddles$Table;", true)
  | 3 => ("HouseFiddles$Maker", "instruments", "I", false)
  | _ => ("HouseFiddles$Maker", "free", "I", false)
def tyX1 : Nat → FieldType := fun k => match k with
  | 0 => .object "HouseFiddles$Table"
  | 1 => .object "HouseFiddles$Table"
  | 2 => .object "HouseFiddles$Table"
  | 3 => .int
  | _ => .int
theorem nmX1 : ∀ a, a < 5 → ∀ b, b < 5 → a ≠ b → (TX1 a).2.1 ≠ (TX1 b).2.1 := by decide +kernel
theorem tyX1_ok : ∀ k, k < 5 → parseFieldDescriptor (TX1 k).2.2.1 = some (tyX1 k) := by decide +kernel
def RX2 : String := "HouseFiddles$Reader"
def TX2 : u_T := fun k => match k with
  | 0 => ("HouseFiddles$Reader", "tokens", "LHouseFiddles$Tokens;", true)
  | 1 => ("HouseFiddles$Reader", "town", "LHouseFiddles$Town;", true)
  | 2 => ("HouseFiddles$Reader", "sort", "I", false)
  | 3 => ("HouseFiddles$Reader", "start", "I", false)
  | _ => ("HouseFiddles$Reader", "value", "I", false)
def tyX2 : Nat → FieldType := fun k => match k with
  | 0 => .object "HouseFiddles$Tokens"
  | 1 => .object "HouseFiddles$Town"
  | 2 => .int
  | 3 => .int
  | _ => .int
theorem nmX2 : ∀ a, a < 5 → ∀ b, b < 5 → a ≠ b → (TX2 a).2.1 ≠ (TX2 b).2.1 := by decide +kernel
theorem tyX2_ok : ∀ k, k < 5 → parseFieldDescriptor (TX2 k).2.2.1 = some (tyX2 k) := by decide +kernel
def RX3 : String := "HouseFiddles$Strings"
def TX3 : u_T := fun k => match k with
  | _ => ("", "", "", false)
def tyX3 : Nat → FieldType := fun k => match k with
  | _ => .int
theorem nmX3 : ∀ a, a < 0 → ∀ b, b < 0 → a ≠ b → (TX3 a).2.1 ≠ (TX3 b).2.1 := by decide +kernel
theorem tyX3_ok : ∀ k, k < 0 → parseFieldDescriptor (TX3 k).2.2.1 = some (tyX3 k) := by decide +kernel
def RX4 : String := "HouseFiddles$Table"
def TX4 : u_T := fun k => match k with
  | 0 => ("HouseFiddles$Table", "rows", "I", true)
  | 1 => ("HouseFiddles$Table", "width", "I", true)
  | 2 => ("HouseFiddles$Table", "cells", "[I", true)
  | _ => ("HouseFiddles$Table", "used", "I", false)
def tyX4 : Nat → FieldType := fun k => match k with
  | 0 => .int
  | 1 => .int
  | 2 => .array .int
  | _ => .int
theorem nmX4 : ∀ a, a < 4 → ∀ b, b < 4 → a ≠ b → (TX4 a).2.1 ≠ (TX4 b).2.1 := by decide +kernel
theorem tyX4_ok : ∀ k, k < 4 → parseFieldDescriptor (TX4 k).2.2.1 = some (tyX4 k) := by decide +kernel
def RX5 : String := "HouseFiddles$Tokens"
def TX5 : u_T := fun k => match k with
  | 0 => ("HouseFiddles$Tokens", "found", "LHouseFiddles$Table;", true)
  | _ => ("HouseFiddles$Tokens", "taken", "I", false)
def tyX5 : Nat → FieldType := fun k => match k with
  | 0 => .object "HouseFiddles$Table"
  | _ => .int
theorem nmX5 : ∀ a, a < 2 → ∀ b, b < 2 → a ≠ b → (TX5 a).2.1 ≠ (TX5 b).2.1 := by decide +kernel
theorem tyX5_ok : ∀ k, k < 2 → parseFieldDescriptor (TX5 k).2.2.1 = some (tyX5 k) := by decide +kernel
def RX6 : String := "HouseFiddles$Town"
def TX6 : u_T := fun k => match k with
  | 0 => ("HouseFiddles$Town", "boards", "LHouseFiddles$Boards;", true)
  | 1 => ("HouseFiddles$Town", "past", "LHouseFiddles$Table;", true)
  | 2 => ("HouseFiddles$Town", "wets", "LHouseFiddles$Table;", true)
  | 3 => ("HouseFiddles$Town", "instruments", "LHouseFiddles$Table;", true)
  | 4 => ("HouseFiddles$Town", "heardOnes", "LHouseFiddles$Table;", true)
  | 5 => ("HouseFiddles$Town", "notes", "LHouseFiddles$Table;", true)
  | _ => ("HouseFiddles$Town", "marks", "LHouseFiddles$Table;", true)
def tyX6 : Nat → FieldType := fun k => match k with
  | 0 => .object "HouseFiddles$Boards"
  | 1 => .object "HouseFiddles$Table"
  | 2 => .object "HouseFiddles$Table"
  | 3 => .object "HouseFiddles$Table"
  | 4 => .object "HouseFiddles$Table"
  | 5 => .object "HouseFiddles$Table"
  | _ => .object "HouseFiddles$Table"
theorem nmX6 : ∀ a, a < 7 → ∀ b, b < 7 → a ≠ b → (TX6 a).2.1 ≠ (TX6 b).2.1 := by decide +kernel
theorem tyX6_ok : ∀ k, k < 7 → parseFieldDescriptor (TX6 k).2.2.1 = some (tyX6 k) := by decide +kernel
def RX7 : String := "HouseFiddles$Wood"
def TX7 : u_T := fun k => match k with
  | _ => ("", "", "", false)
def tyX7 : Nat → FieldType := fun k => match k with
  | _ => .int
theorem nmX7 : ∀ a, a < 0 → ∀ b, b < 0 → a ≠ b → (TX7 a).2.1 ≠ (TX7 b).2.1 := by decide +kernel
theorem tyX7_ok : ∀ k, k < 0 → parseFieldDescriptor (TX7 k).2.2.1 = some (tyX7 k) := by decide +kernel
def RX8 : String := "HouseFiddles"
def TX8 : u_T := fun k => match k with
  | 0 => ("HouseFiddles", "now", "LHouseFiddles$Town;", true)
  | 1 => ("HouseFiddles", "firstImage", "LHouseFiddles$Town;", true)
  | 2 => ("HouseFiddles", "secondImage", "LHouseFiddles$Town;", true)
  | 3 => ("HouseFiddles", "trial", "LHouseFiddles$Boards;", true)
  | 4 => ("HouseFiddles", "text", "LHouseFiddles$Table;", true)
  | 5 => ("HouseFiddles", "reader", "LHouseFiddles$Reader;", true)
  | 6 => ("HouseFiddles", "maker", "LHouseFiddles$Maker;", true)
  | 7 => ("HouseFiddles", "alike", "LHouseFiddles$Table;", true)
  | 8 => ("HouseFiddles", "friends", "LHouseFiddles$Table;", true)
  | 9 => ("HouseFiddles", "firstKept", "Z", false)
  | 10 => ("HouseFiddles", "secondKept", "Z", false)
  | 11 => ("HouseFiddles", "above", "J", false)
  | 12 => ("HouseFiddles", "below", "J", false)
  | 13 => ("HouseFiddles", "bads", "I", false)
  | 14 => ("HouseFiddles", "nos", "I", false)
  | _ => ("HouseFiddles", "fulls", "I", false)
def tyX8 : Nat → FieldType := fun k => match k with
  | 0 => .object "HouseFiddles$Town"
  | 1 => .object "HouseFiddles$Town"
  | 2 => .object "HouseFiddles$Town"
  | 3 => .object "HouseFiddles$Boards"
  | 4 => .object "HouseFiddles$Table"
  | 5 => .object "HouseFiddles$Reader"
  | 6 => .object "HouseFiddles$Maker"
  | 7 => .object "HouseFiddles$Table"
  | 8 => .object "HouseFiddles$Table"
  | 9 => .boolean
  | 10 => .boolean
  | 11 => .long
  | 12 => .long
  | 13 => .int
  | 14 => .int
  | _ => .int
theorem nmX8 : ∀ a, a < 16 → ∀ b, b < 16 → a ≠ b → (TX8 a).2.1 ≠ (TX8 b).2.1 := by decide +kernel
theorem tyX8_ok : ∀ k, k < 16 → parseFieldDescriptor (TX8 k).2.2.1 = some (tyX8 k) := by decide +kernel
def RX9 : String := "HouseFiddlesModel"
def TX9 : u_T := fun k => match k with
  | 0 => ("HouseFiddlesModel", "w", "[I", true)
  | 1 => ("HouseFiddlesModel", "isKept", "[Z", true)
  | 2 => ("HouseFiddlesModel", "text", "[I", true)
  | 3 => ("HouseFiddlesModel", "texted", "I", false)
  | 4 => ("HouseFiddlesModel", "above", "J", false)
  | 5 => ("HouseFiddlesModel", "below", "J", false)
  | 6 => ("HouseFiddlesModel", "statuses", "[I", true)
  | 7 => ("HouseFiddlesModel", "at", "I", false)
  | 8 => ("HouseFiddlesModel", "start", "I", false)
  | 9 => ("HouseFiddlesModel", "number", "I", false)
  | 10 => ("HouseFiddlesModel", "bestIn", "[I", true)
  | 11 => ("HouseFiddlesModel", "sixOf", "[I", true)
  | _ => ("HouseFiddlesModel", "h", "J", false)
def tyX9 : Nat → FieldType := fun k => match k with
  | 0 => .array .int
  | 1 => .array .boolean
  | 2 => .array .int
  | 3 => .int
  | 4 => .long
  | 5 => .long
  | 6 => .array .int
  | 7 => .int
  | 8 => .int
  | 9 => .int
  | 10 => .array .int
  | 11 => .array .int
  | _ => .long
theorem nmX9 : ∀ a, a < 13 → ∀ b, b < 13 → a ≠ b → (TX9 a).2.1 ≠ (TX9 b).2.1 := by decide +kernel
theorem tyX9_ok : ∀ k, k < 13 → parseFieldDescriptor (TX9 k).2.2.1 = some (tyX9 k) := by decide +kernel
def RL : String := "HouseFiddlesLaw"
end
section
/-! THE FRAME: the two objects' heap as one fixed list of 92 cells whose contents are two memories (the class's, the reference's); a walk over it (xAt), a walk that follows a functional program (xR), and a method's contract (xCt). -/
/-- a memory: ints by (block, place), longs by place -/
abbrev xM : Type := (Nat → Nat → Int32) × (Nat → Int64)
/-- the class's memory, the reference's -/
abbrev xS : Type := xM × xM
/-- the launch, the tables' numbers, the classes of int rows and of boolean rows, the addresses, what else is known of the heap that nobody writes -/
abbrev xG : Type := Launch × va_G × ClassId × ClassId × (Nat → Nat) × (State → Heap → Prop)
def xl (G : xG) : Launch := G.1
def xD (G : xG) : va_G := G.2.1
def xI (G : xG) : ClassId := G.2.2.1
def xZ (G : xG) : ClassId := G.2.2.2.1
def xa (G : xG) : Nat → Nat := G.2.2.2.2.1
def xE (G : xG) : State → Heap → Prop := G.2.2.2.2.2
/-- a method: name, code, locals, what it returns, frames and words of its room -/
abbrev xY : Type := MethodName × ByteArray × Nat × Option FieldType × Nat × Nat
abbrev xn (Y : xY) : MethodName := Y.1
abbrev xb (Y : xY) : ByteArray := Y.2.1
abbrev xL (Y : xY) : Nat := Y.2.2.1
abbrev xt (Y : xY) : Option FieldType := Y.2.2.2.1
abbrev xf (Y : xY) : Nat := Y.2.2.2.2.1
abbrev xo (Y : xY) : Nat := Y.2.2.2.2.2
def xw (Y : xY) : List Cond := .code (xn Y) (xb Y) (xL Y) (xt Y) :: lw_tb
def xrm (Y : xY) : Room := { frames := xf Y, cells := 0, slots := 0, locals := xo Y }
def xup (m : Nat → Nat → Int32) (a i : Nat) (v : Int32) : Nat → Nat → Int32 := fun b j => if b = a ∧ j = i then v else m b j
def xul (m : Nat → Int64) (i : Nat) (v : Int64) : Nat → Int64 := fun j => if j = i then v else m j
/-- the table of the k-th BOARDS; rows, width and length of the tables -/
def xtb (k : Nat) : Nat := if k = 4 then 28 else 7 * k
def xrows (t : Nat) : Int32 := ([6, 8, 5, 4, 6, 6, 6, 6, 8, 5, 4, 6, 6, 6, 6, 8, 5, 4, 6, 6, 6, 6, 8, 5, 4, 6, 6, 6, 6, 150, 151, 4, 64, 4, 6, 4] : List Int32).getD t 0
def xwid (t : Nat) : Int32 := ([6, 37, 1, 1, 2, 5, 6, 6, 37, 1, 1, 2, 5, 6, 6, 37, 1, 1, 2, 5, 6, 6, 37, 1, 1, 2, 5, 6, 6, 1, 3, 64, 1, 1, 1, 1] : List Int32).getD t 0
def xlen (t : Nat) : Nat := ([36, 296, 5, 4, 12, 30, 36, 36, 296, 5, 4, 12, 30, 36, 36, 296, 5, 4, 12, 30, 36, 36, 296, 5, 4, 12, 30, 36, 36, 150, 453, 256, 64, 4, 6, 4] : List Nat).getD t 0
/-- the classes -/
abbrev xcl : List vw_C := [(RX0, TX0, 2), (RX1, TX1, 5), (RX2, TX2, 5), (RX4, TX4, 4), (RX5, TX5, 2), (RX6, TX6, 7), (RX8, TX8, 16), (RX9, TX9, 13)]
/-- what the k-th cell holds: 0 .. 35 rows of tables, 36 .. 71 tables, 72 .. 76 BOARDS, 77 .. 80 towns, 81 the class, 82 maker, 83 reader, 84 tokens, 85 the reference, 86 .. 91 its rows -/
def xC (G : xG) (S : xS) (k : Nat) : va_E :=
  if k < 36 then .inl (xI G, xlen k, .inl (S.1.1 k))
  else if k < 72 then .inr (3, [.int (xrows (k - 36)), .int (xwid (k - 36)), .ref (xa G (k - 36)), .int (S.1.1 36 (k - 36))])
  else if k < 77 then .inr (0, [.ref (xa G (36 + xtb (k - 72))), .int (S.1.1 37 (k - 72))])
  else if k < 81 then .inr (5, [.ref (xa G (k - 5)), .ref (xa G (37 + 7 * (k - 77))), .ref (xa G (38 + 7 * (k - 77))), .ref (xa G (39 + 7 * (k - 77))), .ref (xa G (40 + 7 * (k - 77))), .ref (xa G (41 + 7 * (k - 77))), .ref (xa G (42 + 7 * (k - 77)))])
  else if k = 81 then .inr (6, [.ref (xa G 77), .ref (xa G 78), .ref (xa G 79), .ref (xa G 76), .ref (xa G 65), .ref (xa G 83), .ref (xa G 82), .ref (xa G 70), .ref (xa G 71), .int (S.1.1 38 0), .int (S.1.1 38 1), .long (S.1.2 0), .long (S.1.2 1), .int (S.1.1 38 2), .int (S.1.1 38 3), .int (S.1.1 38 4)])
  else if k = 82 then .inr (1, [.ref (xa G 67), .ref (xa G 68), .ref (xa G 69), .int (S.1.1 39 0), .int (S.1.1 39 1)])
  else if k = 83 then .inr (2, [.ref (xa G 84), .ref (xa G 80), .int (S.1.1 40 0), .int (S.1.1 40 1), .int (S.1.1 40 2)])
  else if k = 84 then .inr (4, [.ref (xa G 66), .int (S.1.1 41 0)])
  else if k = 85 then .inr (7, [.ref (xa G 86), .ref (xa G 87), .ref (xa G 88), .int (S.2.1 6 0), .long (S.2.2 0), .long (S.2.2 1), .ref (xa G 89), .int (S.2.1 6 1), .int (S.2.1 6 2), .int (S.2.1 6 3), .ref (xa G 90), .ref (xa G 91), .long (S.2.2 2)])
  else if k = 86 then .inl (xI G, 1752, .inl (S.2.1 0))
  else if k = 87 then .inl (xZ G, 2, .inl (S.2.1 1))
  else if k = 88 then .inl (xI G, 150, .inl (S.2.1 2))
  else if k = 89 then .inl (xI G, 3, .inl (S.2.1 3))
  else if k = 90 then .inl (xI G, 6, .inl (S.2.1 4))
  else .inl (xI G, 6, .inl (S.2.1 5))
def xCL (G : xG) (S : xS) : va_W := (List.range 92).map fun k => (xa G k, xC G S k)
def xA (G : xG) : Nat → Prop := fun q => ∃ k, k < 92 ∧ q = xa G k
/-- the links to nest mates' methods -/
def xnl : List (String × Nat × MethodName × String) := [(RX5, 60, ⟨RX8, "within", "(III)Z"⟩, RX8), (RX2, 121, ⟨RX8, "within", "(III)Z"⟩, RX8), (RX6, 96, ⟨RX8, "holdsBit", "(II)Z"⟩, RX8), (RX1, 55, ⟨RX8, "isPartOf", "(II)Z"⟩, RX8), (RX1, 82, ⟨RX8, "holdsBit", "(II)Z"⟩, RX8)]
/-- what the tables say, and that the addresses are apart; what else is known stays -/
def xK (G : xG) (U : State) : Prop := va_K (xD G) xcl [(xI G, .int), (xZ G, .boolean)] U ∧ (∀ i j, i < 92 → j < 92 → xa G i = xa G j → i = j) ∧
  (∀ (u V : State) (H : Heap), u.WarmedH V.vm → xE G u H → xE G V H) ∧ (∀ (u V : State) (H : Heap), V.vm = u.vm → xE G u H → xE G V H) ∧ (∀ (u : State) (H H1 : Heap), xE G u H → (∀ q : Nat, q < H.size → ¬ xA G q → H1[q]? = H[q]?) → xE G u H1) ∧
  ∀ q ∈ xnl, va_Nw (.methodLinkNest q.1 q.2.1 q.2.2.1 q.2.2.2) U
theorem xK.warm {G : xG} {u U : State} (hW : u.WarmedH U.vm) (h : xK G u) : xK G U := ⟨va_K.moved hW.alike h.1, h.2.1, h.2.2.1, h.2.2.2.1, h.2.2.2.2.1, fun q hq => va_Nw.warmM hW (h.2.2.2.2.2 q hq)⟩
theorem xK.same {G : xG} {u U : State} (hv : U.vm = u.vm) (h : xK G u) : xK G U := ⟨va_K.moved (by rw [hv]; exact Vm.Alike.refl u.vm) h.1, h.2.1, h.2.2.1, h.2.2.2.1, h.2.2.2.2.1, fun q hq => va_Nw.same rfl hv.symm (h.2.2.2.2.2 q hq)⟩
theorem xCL_at {G : xG} {S : xS} {k : Nat} (h : k < 92) : (xCL G S)[k]? = some (xa G k, xC G S k) := by simp [xCL, h]
theorem xCL_lt {G : xG} {S : xS} {k : Nat} {q : Nat × va_E} (h : (xCL G S)[k]? = some q) : k < 92 ∧ q = (xa G k, xC G S k) := by
  have h1 : k < (xCL G S).length := (List.getElem?_eq_some_iff.mp h).1
  have h2 : k < 92 := by simpa [xCL] using h1
  exact ⟨h2, Option.some.inj (h.symm.trans (xCL_at h2))⟩
theorem xCL_set {G : xG} {S S' : xS} {k : Nat} {e : va_E} (hk : k < 92) (he : xC G S' k = e) (ho : ∀ j, j < 92 → j ≠ k → xC G S j = xC G S' j) : (xCL G S).set k (xa G k, e) = xCL G S' := by
  apply List.ext_getElem?
  intro j
  rw [List.getElem?_set]
  by_cases hj : k = j
  · subst hj
    rw [if_pos rfl, if_pos (by simpa [xCL] using hk), xCL_at hk, he]
  · rw [if_neg hj]
    by_cases h : j < 92
    · rw [xCL_at h, xCL_at h, ho j h (fun e => hj e.symm)]
    · rw [List.getElem?_eq_none (by simpa [xCL] using h), List.getElem?_eq_none (by simpa [xCL] using h)]
theorem xDD {G : xG} (S : xS) (hI : ∀ i j, i < 92 → j < 92 → xa G i = xa G j → i = j) : va_D (xA G) (xCL G S) := by
  refine ⟨fun i j p q hi hj e => ?_, fun k q hk => ?_⟩
  · obtain ⟨h1, rfl⟩ := xCL_lt hi
    obtain ⟨h2, rfl⟩ := xCL_lt hj
    exact hI i j h1 h2 e
  · obtain ⟨h1, rfl⟩ := xCL_lt hk
    exact ⟨k, h1, rfl⟩
/-- what holds in a method's frame -/
def xF (G : xG) (Y : xY) (p : Program) (R : Room) (s : State) (m : MethodId) (args : Array Value) (meth : Method) (c : Code) : Prop :=
  p.tables.exec = Jvm.exec ∧ c.code = xb Y ∧ c.maxLocals = xL Y ∧ s.vm.findClass (xn Y).cls = some m.cls ∧ (∀ w ∈ xw Y, w.before args s = true) ∧ meth.sig.returnType = xt Y ∧ meth.locks = false ∧ xf Y ≤ R.frames ∧ xo Y ≤ R.locals ∧ xK G s ∧ xE G s s.heap
def xQ (G : xG) (r : Option Value) (S : xS) : Array Value → State → Outcome → State → Prop := fun _ st oc t => oc = .returned r ∧ va_P (xD G) xcl (xCL G S) t.heap ∧ va_F (xA G) st t
/-- a walk: from this place, with these locals (some of them) and this stack, over the world of S, the method comes to its end with the answer r and the world of S' -/
def xAt (G : xG) (Y : xY) (pc : Nat) (lv : List (Nat × Value)) (st : List Value) (S : xS) (r : Option Value) (S' : xS) : Prop :=
  ∀ (p : Program) (e : Env) (R : Room) (s : State) (m : MethodId) (args : Array Value) (below : List Frame) (meth : Method) (c : Code) (H : Heap) (locs : List Loc) (ls : Array Slot),
    xF G Y p R s m args meth c → va_P (xD G) xcl (xCL G S) H → va_S (xA G) s.heap H locs → lv_has ls (xL Y) lv →
    W p (xl G) e R s m args below meth c H locs 0 0 (MQ below (xQ G r S') args s 0 0 (xA G)) (F0 m pc ls st)
/-- a method's contract: from the world of S with these arguments it answers r and leaves the world of S' -/
def xCt (G : xG) (Y : xY) (av : List Value) (S : xS) (r : Option Value) (S' : xS) : Prop :=
  Met (xl G) (xn Y) (xw Y) (xrm Y) (va_Pc av (fun U => va_P (xD G) xcl (xCL G S) U.heap ∧ xK G U ∧ xE G U U.heap)) (xQ G r S') 0 0 (xA G)
/-- a walk that follows a functional program: where the program has a value, the method comes to it -/
def xR {ρ : Type} (G : xG) (Y : xY) (em : ρ → Option Value × xS) (pc : Nat) (lv : List (Nat × Value)) (st : List Value) (S : xS) (F : Option ρ) : Prop :=
  ∀ r : ρ, F = some r → xAt G Y pc lv st S (em r).1 (em r).2
theorem xR_none {ρ : Type} {G : xG} {Y : xY} {em : ρ → Option Value × xS} {pc : Nat} {lv : List (Nat × Value)} {st : List Value} {S : xS} : xR G Y em pc lv st S none := fun _ h => by cases h
theorem xCt_of {G : xG} {Y : xY} {av : List Value} {S S' : xS} {r : Option Value} (hy : plainName (xn Y).cls = true) (hn : (lg_sl av).length ≤ xL Y) (h : xAt G Y 0 (lv_args 0 av) [] S r S') : xCt G Y av S r S' := by
  refine Met.ofW (cc := xb Y) (maxL := xL Y) (ret := xt Y) hy rfl ?_
  intro p e s m args below meth c s₁ B hml hv
  obtain ⟨rfl, hP, hK, hE⟩ := hv
  have hl := lv_entry av (n := xL Y) hn
  rw [lg_entry_eq]
  exact h p e _ s m _ below meth c s.heap [] _ ⟨B.exec, B.bytes, hml, findClass_of_methodNamed B.named, atoms_spec (ws := xw Y) B.pre, B.returns, B.notSynchronized, Nat.le_refl _, Nat.le_refl _, hK, hE⟩ hP va_S.rf hl
/-- a contract out of a walk that follows a program -/
theorem xR_ct {ρ : Type} {G : xG} {Y : xY} {em : ρ → Option Value × xS} {av : List Value} {S : xS} {F : Option ρ} (hy : plainName (xn Y).cls = true) (hn : (lg_sl av).length ≤ xL Y) (h : xR G Y em 0 (lv_args 0 av) [] S F) : ∀ r : ρ, F = some r → xCt G Y av S (em r).1 (em r).2 := fun r hr => xCt_of hy hn (h r hr)
end
section
/-! RULES: an instruction, a row over xR (written by gen_rules.py out of the kit's rows) -/
section XR
variable {ρ : Type} {G : xG} {Y : xY} {em : ρ → Option Value × xS} {lv : List (Nat × Value)} {st : List Value} {S : xS} {F : Option ρ}
theorem xR_ic (pc : Nat) {n : Int} (v : Int32) (hd : decode (xb Y) pc = .ok (.iconst n, 1)) (hv : Int32.ofInt n = v) (kk : xR G Y em (pc + 1) lv (.int v :: st) S F) : xR G Y em pc lv (st) S F := fun r hr p e R s m args below meth c H locs ls hF hP hS hl => lv_iconst hF.1 hF.2.1 hd hv (kk r hr p e R s m args below meth c H locs ls hF hP hS hl)
theorem xR_bp (pc : Nat) {n : Int} (v : Int32) (hd : decode (xb Y) pc = .ok (.bipush n, 2)) (hv : (Int8.ofInt n).toInt32 = v) (kk : xR G Y em (pc + 2) lv (.int v :: st) S F) : xR G Y em pc lv (st) S F := fun r hr p e R s m args below meth c H locs ls hF hP hS hl => lv_bipush hF.1 hF.2.1 hd hv (kk r hr p e R s m args below meth c H locs ls hF hP hS hl)
theorem xR_sp (pc : Nat) {n : Int} (v : Int32) (hd : decode (xb Y) pc = .ok (.sipush n, 3)) (hv : (Int16.ofInt n).toInt32 = v) (kk : xR G Y em (pc + 3) lv (.int v :: st) S F) : xR G Y em pc lv (st) S F := fun r hr p e R s m args below meth c H locs ls hF hP hS hl => lv_sipush hF.1 hF.2.1 hd hv (kk r hr p e R s m args below meth c H locs ls hF hP hS hl)
theorem xR_lc (pc : Nat) {n : Fin 2} (v : Int64) (hd : decode (xb Y) pc = .ok (.lconst n, 1)) (hv : Int64.ofNat (n : Nat) = v) (kk : xR G Y em (pc + 1) lv (.long v :: st) S F) : xR G Y em pc lv (st) S F := fun r hr p e R s m args below meth c H locs ls hF hP hS hl => lv_lconst hF.1 hF.2.1 hd hv (kk r hr p e R s m args below meth c H locs ls hF hP hS hl)
theorem xR_iln (pc : Nat) {k : Fin 4} {i : Nat} {x : Int32} (j : Nat) (hd : decode (xb Y) pc = .ok (.iload_n k, 1)) (hi : (k : Nat) = i) (hj : lv[j]? = some (i, .int x)) (kk : xR G Y em (pc + 1) lv (.int x :: st) S F) : xR G Y em pc lv (st) S F := fun r hr p e R s m args below meth c H locs ls hF hP hS hl => lv_iload_n hF.1 hF.2.1 hd hi (lv_at hl j hj) (kk r hr p e R s m args below meth c H locs ls hF hP hS hl)
theorem xR_il (pc : Nat) {i : Nat} {x : Int32} (j : Nat) (hd : decode (xb Y) pc = .ok (.iload i, 2)) (hj : lv[j]? = some (i, .int x)) (kk : xR G Y em (pc + 2) lv (.int x :: st) S F) : xR G Y em pc lv (st) S F := fun r hr p e R s m args below meth c H locs ls hF hP hS hl => lv_iload hF.1 hF.2.1 hd (lv_at hl j hj) (kk r hr p e R s m args below meth c H locs ls hF hP hS hl)
theorem xR_lln (pc : Nat) {k : Fin 4} {i : Nat} {x : Int64} (j : Nat) (hd : decode (xb Y) pc = .ok (.lload_n k, 1)) (hi : (k : Nat) = i) (hj : lv[j]? = some (i, .long x)) (kk : xR G Y em (pc + 1) lv (.long x :: st) S F) : xR G Y em pc lv (st) S F := fun r hr p e R s m args below meth c H locs ls hF hP hS hl => lv_lload_n hF.1 hF.2.1 hd hi (lv_at hl j hj) (kk r hr p e R s m args below meth c H locs ls hF hP hS hl)
theorem xR_ll (pc : Nat) {i : Nat} {x : Int64} (j : Nat) (hd : decode (xb Y) pc = .ok (.lload i, 2)) (hj : lv[j]? = some (i, .long x)) (kk : xR G Y em (pc + 2) lv (.long x :: st) S F) : xR G Y em pc lv (st) S F := fun r hr p e R s m args below meth c H locs ls hF hP hS hl => lv_lload hF.1 hF.2.1 hd (lv_at hl j hj) (kk r hr p e R s m args below meth c H locs ls hF hP hS hl)
theorem xR_aln (pc : Nat) {k : Fin 4} {i : Nat} {x : Nat} (j : Nat) (hd : decode (xb Y) pc = .ok (.aload_n k, 1)) (hi : (k : Nat) = i) (hj : lv[j]? = some (i, .ref x)) (kk : xR G Y em (pc + 1) lv (.ref x :: st) S F) : xR G Y em pc lv (st) S F := fun r hr p e R s m args below meth c H locs ls hF hP hS hl => lv_aload_n hF.1 hF.2.1 hd hi (lv_at hl j hj) (kk r hr p e R s m args below meth c H locs ls hF hP hS hl)
theorem xR_al (pc : Nat) {i : Nat} {x : Nat} (j : Nat) (hd : decode (xb Y) pc = .ok (.aload i, 2)) (hj : lv[j]? = some (i, .ref x)) (kk : xR G Y em (pc + 2) lv (.ref x :: st) S F) : xR G Y em pc lv (st) S F := fun r hr p e R s m args below meth c H locs ls hF hP hS hl => lv_aload hF.1 hF.2.1 hd (lv_at hl j hj) (kk r hr p e R s m args below meth c H locs ls hF hP hS hl)
theorem xR_isn (pc : Nat) {k : Fin 4} {i : Nat} {x : Int32} (lv' : List (Nat × Value)) (hd : decode (xb Y) pc = .ok (.istore_n k, 1)) (hi : (k : Nat) = i) (hn : i < xL Y) (hv : (i, Value.int x) :: lv.filter (fun q => !(q.1 == i) && !(q.1 + 1 == i && q.2.category == 2)) = lv') (kk : xR G Y em (pc + 1) lv' st S F) : xR G Y em pc lv (.int x :: st) S F := fun r hr p e R s m args below meth c H locs ls hF hP hS hl => lv_istore_n hF.1 hF.2.1 hd hi hl hn hv (fun ls hl => kk r hr p e R s m args below meth c H locs ls hF hP hS hl)
theorem xR_is (pc : Nat) {i : Nat} {x : Int32} (lv' : List (Nat × Value)) (hd : decode (xb Y) pc = .ok (.istore i, 2)) (hn : i < xL Y) (hv : (i, Value.int x) :: lv.filter (fun q => !(q.1 == i) && !(q.1 + 1 == i && q.2.category == 2)) = lv') (kk : xR G Y em (pc + 2) lv' st S F) : xR G Y em pc lv (.int x :: st) S F := fun r hr p e R s m args below meth c H locs ls hF hP hS hl => lv_istore hF.1 hF.2.1 hd hl hn hv (fun ls hl => kk r hr p e R s m args below meth c H locs ls hF hP hS hl)
theorem xR_lsn (pc : Nat) {k : Fin 4} {i : Nat} {x : Int64} (lv' : List (Nat × Value)) (hd : decode (xb Y) pc = .ok (.lstore_n k, 1)) (hi : (k : Nat) = i) (hn : i + 1 < xL Y) (hv : (i, Value.long x) :: lv.filter (fun q => !(q.1 == i) && (!(q.1 == i + 1) && !(q.1 + 1 == i && q.2.category == 2))) = lv') (kk : xR G Y em (pc + 1) lv' st S F) : xR G Y em pc lv (.long x :: st) S F := fun r hr p e R s m args below meth c H locs ls hF hP hS hl => lv_lstore_n hF.1 hF.2.1 hd hi hl hn hv (fun ls hl => kk r hr p e R s m args below meth c H locs ls hF hP hS hl)
theorem xR_ls (pc : Nat) {i : Nat} {x : Int64} (lv' : List (Nat × Value)) (hd : decode (xb Y) pc = .ok (.lstore i, 2)) (hn : i + 1 < xL Y) (hv : (i, Value.long x) :: lv.filter (fun q => !(q.1 == i) && (!(q.1 == i + 1) && !(q.1 + 1 == i && q.2.category == 2))) = lv') (kk : xR G Y em (pc + 2) lv' st S F) : xR G Y em pc lv (.long x :: st) S F := fun r hr p e R s m args below meth c H locs ls hF hP hS hl => lv_lstore hF.1 hF.2.1 hd hl hn hv (fun ls hl => kk r hr p e R s m args below meth c H locs ls hF hP hS hl)
theorem xR_asn (pc : Nat) {k : Fin 4} {i : Nat} {x : Nat} (lv' : List (Nat × Value)) (hd : decode (xb Y) pc = .ok (.astore_n k, 1)) (hi : (k : Nat) = i) (hn : i < xL Y) (hv : (i, Value.ref x) :: lv.filter (fun q => !(q.1 == i) && !(q.1 + 1 == i && q.2.category == 2)) = lv') (kk : xR G Y em (pc + 1) lv' st S F) : xR G Y em pc lv (.ref x :: st) S F := fun r hr p e R s m args below meth c H locs ls hF hP hS hl => lv_astore_n hF.1 hF.2.1 hd hi hl hn hv (fun ls hl => kk r hr p e R s m args below meth c H locs ls hF hP hS hl)
theorem xR_as (pc : Nat) {i : Nat} {x : Nat} (lv' : List (Nat × Value)) (hd : decode (xb Y) pc = .ok (.astore i, 2)) (hn : i < xL Y) (hv : (i, Value.ref x) :: lv.filter (fun q => !(q.1 == i) && !(q.1 + 1 == i && q.2.category == 2)) = lv') (kk : xR G Y em (pc + 2) lv' st S F) : xR G Y em pc lv (.ref x :: st) S F := fun r hr p e R s m args below meth c H locs ls hF hP hS hl => lv_astore hF.1 hF.2.1 hd hl hn hv (fun ls hl => kk r hr p e R s m args below meth c H locs ls hF hP hS hl)
theorem xR_iinc (pc : Nat) {i : Nat} {n : Int} {x : Int32} (j : Nat) (v : Int32) (lv' : List (Nat × Value)) (hd : decode (xb Y) pc = .ok (.iinc i n, 3)) (hj : lv[j]? = some (i, .int x)) (hx : x + Int32.ofInt n = v) (hn : i < xL Y) (hv : (i, Value.int v) :: lv.filter (fun q => !(q.1 == i) && !(q.1 + 1 == i && q.2.category == 2)) = lv') (kk : xR G Y em (pc + 3) lv' st S F) : xR G Y em pc lv st S F := fun r hr p e R s m args below meth c H locs ls hF hP hS hl => lv_iinc hF.1 hF.2.1 hd hl hj hx hn hv (fun ls hl => kk r hr p e R s m args below meth c H locs ls hF hP hS hl)
theorem xR_iadd (pc : Nat) {x y : Int32} (hd : decode (xb Y) pc = .ok (.iadd, 1))  (kk : xR G Y em (pc + 1) lv (.int (x + y) :: st) S F) : xR G Y em pc lv (.int y :: .int x :: st) S F := fun r hr p e R s m args below meth c H locs ls hF hP hS hl => lv_iadd hF.1 hF.2.1 hd  (kk r hr p e R s m args below meth c H locs ls hF hP hS hl)
theorem xR_isub (pc : Nat) {x y : Int32} (hd : decode (xb Y) pc = .ok (.isub, 1))  (kk : xR G Y em (pc + 1) lv (.int (x - y) :: st) S F) : xR G Y em pc lv (.int y :: .int x :: st) S F := fun r hr p e R s m args below meth c H locs ls hF hP hS hl => lv_isub hF.1 hF.2.1 hd  (kk r hr p e R s m args below meth c H locs ls hF hP hS hl)
theorem xR_imul (pc : Nat) {x y : Int32} (hd : decode (xb Y) pc = .ok (.imul, 1))  (kk : xR G Y em (pc + 1) lv (.int (x * y) :: st) S F) : xR G Y em pc lv (.int y :: .int x :: st) S F := fun r hr p e R s m args below meth c H locs ls hF hP hS hl => lv_imul hF.1 hF.2.1 hd  (kk r hr p e R s m args below meth c H locs ls hF hP hS hl)
theorem xR_iand (pc : Nat) {x y : Int32} (hd : decode (xb Y) pc = .ok (.iand, 1))  (kk : xR G Y em (pc + 1) lv (.int (x &&& y) :: st) S F) : xR G Y em pc lv (.int y :: .int x :: st) S F := fun r hr p e R s m args below meth c H locs ls hF hP hS hl => lv_iand hF.1 hF.2.1 hd  (kk r hr p e R s m args below meth c H locs ls hF hP hS hl)
theorem xR_ior (pc : Nat) {x y : Int32} (hd : decode (xb Y) pc = .ok (.ior, 1))  (kk : xR G Y em (pc + 1) lv (.int (x ||| y) :: st) S F) : xR G Y em pc lv (.int y :: .int x :: st) S F := fun r hr p e R s m args below meth c H locs ls hF hP hS hl => lv_ior hF.1 hF.2.1 hd  (kk r hr p e R s m args below meth c H locs ls hF hP hS hl)
theorem xR_ixor (pc : Nat) {x y : Int32} (hd : decode (xb Y) pc = .ok (.ixor, 1))  (kk : xR G Y em (pc + 1) lv (.int (x ^^^ y) :: st) S F) : xR G Y em pc lv (.int y :: .int x :: st) S F := fun r hr p e R s m args below meth c H locs ls hF hP hS hl => lv_ixor hF.1 hF.2.1 hd  (kk r hr p e R s m args below meth c H locs ls hF hP hS hl)
theorem xR_ishl (pc : Nat) {x y : Int32} (hd : decode (xb Y) pc = .ok (.ishl, 1))  (kk : xR G Y em (pc + 1) lv (.int (x <<< (y &&& 31)) :: st) S F) : xR G Y em pc lv (.int y :: .int x :: st) S F := fun r hr p e R s m args below meth c H locs ls hF hP hS hl => lv_ishl hF.1 hF.2.1 hd  (kk r hr p e R s m args below meth c H locs ls hF hP hS hl)
theorem xR_ishr (pc : Nat) {x y : Int32} (hd : decode (xb Y) pc = .ok (.ishr, 1))  (kk : xR G Y em (pc + 1) lv (.int (x >>> (y &&& 31)) :: st) S F) : xR G Y em pc lv (.int y :: .int x :: st) S F := fun r hr p e R s m args below meth c H locs ls hF hP hS hl => lv_ishr hF.1 hF.2.1 hd  (kk r hr p e R s m args below meth c H locs ls hF hP hS hl)
theorem xR_iushr (pc : Nat) {x y : Int32} (hd : decode (xb Y) pc = .ok (.iushr, 1))  (kk : xR G Y em (pc + 1) lv (.int (x.toUInt32 >>> (y.toUInt32 &&& Int32.toUInt32 31)).toInt32 :: st) S F) : xR G Y em pc lv (.int y :: .int x :: st) S F := fun r hr p e R s m args below meth c H locs ls hF hP hS hl => lv_iushr hF.1 hF.2.1 hd rfl (kk r hr p e R s m args below meth c H locs ls hF hP hS hl)
theorem xR_ineg (pc : Nat) {x : Int32} (hd : decode (xb Y) pc = .ok (.ineg, 1))  (kk : xR G Y em (pc + 1) lv (.int (-x) :: st) S F) : xR G Y em pc lv (.int x :: st) S F := fun r hr p e R s m args below meth c H locs ls hF hP hS hl => lv_ineg hF.1 hF.2.1 hd  (kk r hr p e R s m args below meth c H locs ls hF hP hS hl)
theorem xR_idiv (pc : Nat) {x y : Int32} (hd : decode (xb Y) pc = .ok (.idiv, 1)) (hne : ¬ y = 0) (kk : xR G Y em (pc + 1) lv (.int (x / y) :: st) S F) : xR G Y em pc lv (.int y :: .int x :: st) S F := fun r hr p e R s m args below meth c H locs ls hF hP hS hl => lv_idiv hF.1 hF.2.1 hd hne (kk r hr p e R s m args below meth c H locs ls hF hP hS hl)
theorem xR_irem (pc : Nat) {x y : Int32} (hd : decode (xb Y) pc = .ok (.irem, 1)) (hne : ¬ y = 0) (kk : xR G Y em (pc + 1) lv (.int (x - x / y * y) :: st) S F) : xR G Y em pc lv (.int y :: .int x :: st) S F := fun r hr p e R s m args below meth c H locs ls hF hP hS hl => lv_irem hF.1 hF.2.1 hd hne (kk r hr p e R s m args below meth c H locs ls hF hP hS hl)
theorem xR_ldiv (pc : Nat) {x y : Int64} (hd : decode (xb Y) pc = .ok (.ldiv, 1)) (hne : ¬ y = 0) (kk : xR G Y em (pc + 1) lv (.long (x / y) :: st) S F) : xR G Y em pc lv (.long y :: .long x :: st) S F := fun r hr p e R s m args below meth c H locs ls hF hP hS hl => lv_ldiv hF.1 hF.2.1 hd hne (kk r hr p e R s m args below meth c H locs ls hF hP hS hl)
theorem xR_lrem (pc : Nat) {x y : Int64} (hd : decode (xb Y) pc = .ok (.lrem, 1)) (hne : ¬ y = 0) (kk : xR G Y em (pc + 1) lv (.long (x - x / y * y) :: st) S F) : xR G Y em pc lv (.long y :: .long x :: st) S F := fun r hr p e R s m args below meth c H locs ls hF hP hS hl => lv_lrem hF.1 hF.2.1 hd hne (kk r hr p e R s m args below meth c H locs ls hF hP hS hl)
theorem xR_ladd (pc : Nat) {x y : Int64} (hd : decode (xb Y) pc = .ok (.ladd, 1))  (kk : xR G Y em (pc + 1) lv (.long (x + y) :: st) S F) : xR G Y em pc lv (.long y :: .long x :: st) S F := fun r hr p e R s m args below meth c H locs ls hF hP hS hl => lv_ladd hF.1 hF.2.1 hd  (kk r hr p e R s m args below meth c H locs ls hF hP hS hl)
theorem xR_lsub (pc : Nat) {x y : Int64} (hd : decode (xb Y) pc = .ok (.lsub, 1))  (kk : xR G Y em (pc + 1) lv (.long (x - y) :: st) S F) : xR G Y em pc lv (.long y :: .long x :: st) S F := fun r hr p e R s m args below meth c H locs ls hF hP hS hl => lv_lsub hF.1 hF.2.1 hd  (kk r hr p e R s m args below meth c H locs ls hF hP hS hl)
theorem xR_lmul (pc : Nat) {x y : Int64} (hd : decode (xb Y) pc = .ok (.lmul, 1))  (kk : xR G Y em (pc + 1) lv (.long (x * y) :: st) S F) : xR G Y em pc lv (.long y :: .long x :: st) S F := fun r hr p e R s m args below meth c H locs ls hF hP hS hl => lv_lmul hF.1 hF.2.1 hd  (kk r hr p e R s m args below meth c H locs ls hF hP hS hl)
theorem xR_i2l (pc : Nat) {x : Int32} (hd : decode (xb Y) pc = .ok (.i2l, 1))  (kk : xR G Y em (pc + 1) lv (.long x.toInt64 :: st) S F) : xR G Y em pc lv (.int x :: st) S F := fun r hr p e R s m args below meth c H locs ls hF hP hS hl => lv_i2l hF.1 hF.2.1 hd rfl (kk r hr p e R s m args below meth c H locs ls hF hP hS hl)
theorem xR_l2i (pc : Nat) {x : Int64} (hd : decode (xb Y) pc = .ok (.l2i, 1))  (kk : xR G Y em (pc + 1) lv (.int x.toInt32 :: st) S F) : xR G Y em pc lv (.long x :: st) S F := fun r hr p e R s m args below meth c H locs ls hF hP hS hl => lv_l2i hF.1 hF.2.1 hd rfl (kk r hr p e R s m args below meth c H locs ls hF hP hS hl)
theorem xR_lcmp (pc : Nat) {x y : Int64} (hd : decode (xb Y) pc = .ok (.lcmp, 1))  (kk : xR G Y em (pc + 1) lv (.int (lg_cmp x y) :: st) S F) : xR G Y em pc lv (.long y :: .long x :: st) S F := fun r hr p e R s m args below meth c H locs ls hF hP hS hl => W.lcmp hF.1 hF.2.1 hd  (kk r hr p e R s m args below meth c H locs ls hF hP hS hl)
theorem xR_dup (pc : Nat) {v : Value} (hd : decode (xb Y) pc = .ok (.dup, 1)) (hv : v.category = 1) (kk : xR G Y em (pc + 1) lv (v :: v :: st) S F) : xR G Y em pc lv (v :: st) S F := fun r hr p e R s m args below meth c H locs ls hF hP hS hl => lv_dup hF.1 hF.2.1 hd hv (kk r hr p e R s m args below meth c H locs ls hF hP hS hl)
theorem xR_pop (pc : Nat) {v : Value} (hd : decode (xb Y) pc = .ok (.pop, 1)) (hv : v.category = 1) (kk : xR G Y em (pc + 1) lv (st) S F) : xR G Y em pc lv (v :: st) S F := fun r hr p e R s m args below meth c H locs ls hF hP hS hl => lv_pop hF.1 hF.2.1 hd hv (kk r hr p e R s m args below meth c H locs ls hF hP hS hl)
theorem xR_dup2 (pc : Nat) {v w : Value} (hd : decode (xb Y) pc = .ok (.dup2, 1)) (hv : v.category = 1) (hw : w.category = 1) (kk : xR G Y em (pc + 1) lv (v :: w :: v :: w :: st) S F) : xR G Y em pc lv (v :: w :: st) S F := fun r hr p e R s m args below meth c H locs ls hF hP hS hl => lv_dup2_11 hF.1 hF.2.1 hd hv hw (kk r hr p e R s m args below meth c H locs ls hF hP hS hl)
theorem xR_dup2l (pc : Nat) {v : Value} (hd : decode (xb Y) pc = .ok (.dup2, 1)) (hv : v.category = 2) (kk : xR G Y em (pc + 1) lv (v :: v :: st) S F) : xR G Y em pc lv (v :: st) S F := fun r hr p e R s m args below meth c H locs ls hF hP hS hl => lv_dup2_2 hF.1 hF.2.1 hd hv (kk r hr p e R s m args below meth c H locs ls hF hP hS hl)
theorem xR_dup_x1 (pc : Nat) {v w : Value} (hd : decode (xb Y) pc = .ok (.dup_x1, 1)) (hv : v.category = 1) (hw : w.category = 1) (kk : xR G Y em (pc + 1) lv (v :: w :: v :: st) S F) : xR G Y em pc lv (v :: w :: st) S F := fun r hr p e R s m args below meth c H locs ls hF hP hS hl => lv_dup_x1 hF.1 hF.2.1 hd hv hw (kk r hr p e R s m args below meth c H locs ls hF hP hS hl)
theorem xR_ifeq (pc tgt : Nat) {x : Int32} {off : Int} {F1 F2 : Option ρ} (hd : decode (xb Y) pc = .ok (.ifCond .eq off, 3)) (ht : (pc : Int) + off = (tgt : Int)) (kt : xR G Y em tgt lv st S F1) (kf : xR G Y em (pc + 3) lv st S F2) : xR G Y em pc lv (.int x :: st) S (if x = 0 then F1 else F2) := fun r hr p e R s m args below meth c H locs ls hF hP hS hl => lv_if_eq hF.1 hF.2.1 hd ht (fun h => kt r (by rw [if_pos h] at hr; exact hr) p e R s m args below meth c H locs ls hF hP hS hl) (fun h => kf r (by rw [if_neg h] at hr; exact hr) p e R s m args below meth c H locs ls hF hP hS hl)
theorem xR_ifne (pc tgt : Nat) {x : Int32} {off : Int} {F1 F2 : Option ρ} (hd : decode (xb Y) pc = .ok (.ifCond .ne off, 3)) (ht : (pc : Int) + off = (tgt : Int)) (kt : xR G Y em tgt lv st S F1) (kf : xR G Y em (pc + 3) lv st S F2) : xR G Y em pc lv (.int x :: st) S (if x = 0 then F2 else F1) := fun r hr p e R s m args below meth c H locs ls hF hP hS hl => lv_if_ne hF.1 hF.2.1 hd ht (fun h => kt r (by rw [if_neg h] at hr; exact hr) p e R s m args below meth c H locs ls hF hP hS hl) (fun h => kf r (by rw [if_pos h] at hr; exact hr) p e R s m args below meth c H locs ls hF hP hS hl)
theorem xR_iflt (pc tgt : Nat) {x : Int32} {off : Int} {F1 F2 : Option ρ} (hd : decode (xb Y) pc = .ok (.ifCond .lt off, 3)) (ht : (pc : Int) + off = (tgt : Int)) (kt : xR G Y em tgt lv st S F1) (kf : xR G Y em (pc + 3) lv st S F2) : xR G Y em pc lv (.int x :: st) S (if x < 0 then F1 else F2) := fun r hr p e R s m args below meth c H locs ls hF hP hS hl => lv_if_lt hF.1 hF.2.1 hd ht (fun h => kt r (by rw [if_pos h] at hr; exact hr) p e R s m args below meth c H locs ls hF hP hS hl) (fun h => kf r (by rw [if_neg h] at hr; exact hr) p e R s m args below meth c H locs ls hF hP hS hl)
theorem xR_ifge (pc tgt : Nat) {x : Int32} {off : Int} {F1 F2 : Option ρ} (hd : decode (xb Y) pc = .ok (.ifCond .ge off, 3)) (ht : (pc : Int) + off = (tgt : Int)) (kt : xR G Y em tgt lv st S F1) (kf : xR G Y em (pc + 3) lv st S F2) : xR G Y em pc lv (.int x :: st) S (if 0 ≤ x then F1 else F2) := fun r hr p e R s m args below meth c H locs ls hF hP hS hl => lv_if_ge hF.1 hF.2.1 hd ht (fun h => kt r (by rw [if_pos h] at hr; exact hr) p e R s m args below meth c H locs ls hF hP hS hl) (fun h => kf r (by rw [if_neg h] at hr; exact hr) p e R s m args below meth c H locs ls hF hP hS hl)
theorem xR_ifgt (pc tgt : Nat) {x : Int32} {off : Int} {F1 F2 : Option ρ} (hd : decode (xb Y) pc = .ok (.ifCond .gt off, 3)) (ht : (pc : Int) + off = (tgt : Int)) (kt : xR G Y em tgt lv st S F1) (kf : xR G Y em (pc + 3) lv st S F2) : xR G Y em pc lv (.int x :: st) S (if 0 < x then F1 else F2) := fun r hr p e R s m args below meth c H locs ls hF hP hS hl => lv_if_gt hF.1 hF.2.1 hd ht (fun h => kt r (by rw [if_pos h] at hr; exact hr) p e R s m args below meth c H locs ls hF hP hS hl) (fun h => kf r (by rw [if_neg h] at hr; exact hr) p e R s m args below meth c H locs ls hF hP hS hl)
theorem xR_ifle (pc tgt : Nat) {x : Int32} {off : Int} {F1 F2 : Option ρ} (hd : decode (xb Y) pc = .ok (.ifCond .le off, 3)) (ht : (pc : Int) + off = (tgt : Int)) (kt : xR G Y em tgt lv st S F1) (kf : xR G Y em (pc + 3) lv st S F2) : xR G Y em pc lv (.int x :: st) S (if x ≤ 0 then F1 else F2) := fun r hr p e R s m args below meth c H locs ls hF hP hS hl => lv_if_le hF.1 hF.2.1 hd ht (fun h => kt r (by rw [if_pos h] at hr; exact hr) p e R s m args below meth c H locs ls hF hP hS hl) (fun h => kf r (by rw [if_neg h] at hr; exact hr) p e R s m args below meth c H locs ls hF hP hS hl)
theorem xR_iceq (pc tgt : Nat) {x y : Int32} {off : Int} {F1 F2 : Option ρ} (hd : decode (xb Y) pc = .ok (.if_icmp .eq off, 3)) (ht : (pc : Int) + off = (tgt : Int)) (kt : xR G Y em tgt lv st S F1) (kf : xR G Y em (pc + 3) lv st S F2) : xR G Y em pc lv (.int y :: .int x :: st) S (if x = y then F1 else F2) := fun r hr p e R s m args below meth c H locs ls hF hP hS hl => lv_icmp_eq hF.1 hF.2.1 hd ht (fun h => kt r (by rw [if_pos h] at hr; exact hr) p e R s m args below meth c H locs ls hF hP hS hl) (fun h => kf r (by rw [if_neg h] at hr; exact hr) p e R s m args below meth c H locs ls hF hP hS hl)
theorem xR_icne (pc tgt : Nat) {x y : Int32} {off : Int} {F1 F2 : Option ρ} (hd : decode (xb Y) pc = .ok (.if_icmp .ne off, 3)) (ht : (pc : Int) + off = (tgt : Int)) (kt : xR G Y em tgt lv st S F1) (kf : xR G Y em (pc + 3) lv st S F2) : xR G Y em pc lv (.int y :: .int x :: st) S (if x = y then F2 else F1) := fun r hr p e R s m args below meth c H locs ls hF hP hS hl => lv_icmp_ne hF.1 hF.2.1 hd ht (fun h => kt r (by rw [if_neg h] at hr; exact hr) p e R s m args below meth c H locs ls hF hP hS hl) (fun h => kf r (by rw [if_pos h] at hr; exact hr) p e R s m args below meth c H locs ls hF hP hS hl)
theorem xR_iclt (pc tgt : Nat) {x y : Int32} {off : Int} {F1 F2 : Option ρ} (hd : decode (xb Y) pc = .ok (.if_icmp .lt off, 3)) (ht : (pc : Int) + off = (tgt : Int)) (kt : xR G Y em tgt lv st S F1) (kf : xR G Y em (pc + 3) lv st S F2) : xR G Y em pc lv (.int y :: .int x :: st) S (if x < y then F1 else F2) := fun r hr p e R s m args below meth c H locs ls hF hP hS hl => lv_icmp_lt hF.1 hF.2.1 hd ht (fun h => kt r (by rw [if_pos h] at hr; exact hr) p e R s m args below meth c H locs ls hF hP hS hl) (fun h => kf r (by rw [if_neg h] at hr; exact hr) p e R s m args below meth c H locs ls hF hP hS hl)
theorem xR_icge (pc tgt : Nat) {x y : Int32} {off : Int} {F1 F2 : Option ρ} (hd : decode (xb Y) pc = .ok (.if_icmp .ge off, 3)) (ht : (pc : Int) + off = (tgt : Int)) (kt : xR G Y em tgt lv st S F1) (kf : xR G Y em (pc + 3) lv st S F2) : xR G Y em pc lv (.int y :: .int x :: st) S (if y ≤ x then F1 else F2) := fun r hr p e R s m args below meth c H locs ls hF hP hS hl => lv_icmp_ge hF.1 hF.2.1 hd ht (fun h => kt r (by rw [if_pos h] at hr; exact hr) p e R s m args below meth c H locs ls hF hP hS hl) (fun h => kf r (by rw [if_neg h] at hr; exact hr) p e R s m args below meth c H locs ls hF hP hS hl)
theorem xR_icgt (pc tgt : Nat) {x y : Int32} {off : Int} {F1 F2 : Option ρ} (hd : decode (xb Y) pc = .ok (.if_icmp .gt off, 3)) (ht : (pc : Int) + off = (tgt : Int)) (kt : xR G Y em tgt lv st S F1) (kf : xR G Y em (pc + 3) lv st S F2) : xR G Y em pc lv (.int y :: .int x :: st) S (if y < x then F1 else F2) := fun r hr p e R s m args below meth c H locs ls hF hP hS hl => lv_icmp_gt hF.1 hF.2.1 hd ht (fun h => kt r (by rw [if_pos h] at hr; exact hr) p e R s m args below meth c H locs ls hF hP hS hl) (fun h => kf r (by rw [if_neg h] at hr; exact hr) p e R s m args below meth c H locs ls hF hP hS hl)
theorem xR_icle (pc tgt : Nat) {x y : Int32} {off : Int} {F1 F2 : Option ρ} (hd : decode (xb Y) pc = .ok (.if_icmp .le off, 3)) (ht : (pc : Int) + off = (tgt : Int)) (kt : xR G Y em tgt lv st S F1) (kf : xR G Y em (pc + 3) lv st S F2) : xR G Y em pc lv (.int y :: .int x :: st) S (if x ≤ y then F1 else F2) := fun r hr p e R s m args below meth c H locs ls hF hP hS hl => lv_icmp_le hF.1 hF.2.1 hd ht (fun h => kt r (by rw [if_pos h] at hr; exact hr) p e R s m args below meth c H locs ls hF hP hS hl) (fun h => kf r (by rw [if_neg h] at hr; exact hr) p e R s m args below meth c H locs ls hF hP hS hl)
theorem xR_goto (pc tgt : Nat) {off : Int} (hd : decode (xb Y) pc = .ok (.goto off, 3)) (ht : (pc : Int) + off = (tgt : Int)) (kk : xR G Y em tgt lv st S F) : xR G Y em pc lv st S F := fun r hr p e R s m args below meth c H locs ls hF hP hS hl => lv_goto hF.1 hF.2.1 hd ht (kk r hr p e R s m args below meth c H locs ls hF hP hS hl)
/-- fewer locals -/
theorem xR_sub {lv' : List (Nat × Value)} (ks : List Nat) (hv : lv_pick lv ks = lv') {pc : Nat} (kk : xR G Y em pc lv' st S F) : xR G Y em pc lv st S F := fun r hr p e R s m args below meth c H locs ls hF hP hS hl => kk r hr p e R s m args below meth c H locs ls hF hP hS (lv_sub hl ks hv)
theorem xR_bind {α : Type} {g : Option α} {Kt : α → Option ρ} {pc : Nat} (h : ∀ a, g = some a → xR G Y em pc lv st S (Kt a)) : xR G Y em pc lv st S (g.bind Kt) := by
  intro r hr
  cases hg : g with
  | none => rw [hg] at hr; cases hr
  | some a => rw [hg] at hr; exact h a hg r hr
theorem xw_of {w : Cond} (h : w ∈ lw_tb) : w ∈ xw Y := List.mem_cons_of_mem _ h
/-- a divisor that may be 0 -/
def xdv (y : Int32) {ρ : Type} (F : Option ρ) : Option ρ := if y = 0 then none else F
def xdl (y : Int64) {ρ : Type} (F : Option ρ) : Option ρ := if y = 0 then none else F
theorem xR_dv {y : Int32} {pc : Nat} (h : ¬ y = 0 → xR G Y em pc lv st S F) : xR G Y em pc lv st S (xdv y F) := by
  by_cases hy : y = 0
  · unfold xdv; rw [if_pos hy]; exact xR_none
  · unfold xdv; rw [if_neg hy]; exact h hy
theorem xR_dl {y : Int64} {pc : Nat} (h : ¬ y = 0 → xR G Y em pc lv st S F) : xR G Y em pc lv st S (xdl y F) := by
  by_cases hy : y = 0
  · unfold xdl; rw [if_pos hy]; exact xR_none
  · unfold xdl; rw [if_neg hy]; exact h hy
/-- an index that may be out of its row -/
def xck (n : Nat) (i : Int32) {ρ : Type} (F : Option ρ) : Option ρ := if i < 0 ∨ n ≤ i.toNatClampNeg then none else F
theorem xR_ck {n : Nat} {i : Int32} {pc : Nat} (h : vp_in i n → xR G Y em pc lv st S F) : xR G Y em pc lv st S (xck n i F) := by
  by_cases hy : i < 0 ∨ n ≤ i.toNatClampNeg
  · unfold xck; rw [if_pos hy]; exact xR_none
  · unfold xck; rw [if_neg hy]; exact h hy
theorem xR_iald (pc k : Nat) (hk : k < 92) {n : Nat} {f : Nat → Int32} (hc : xC G S k = .inl (xI G, n, .inl f)) {i : Int32} (hd : decode (xb Y) pc = .ok (.iaload, 1)) (kk : xR G Y em (pc + 1) lv (.int (f i.toNatClampNeg) :: st) S F) : xR G Y em pc lv (.int i :: .ref (xa G k) :: st) S (xck n i F) :=
  xR_ck fun hin r hr p e R s m args below meth c H locs ls hF hP hS hl => va_iald hF.1 hF.2.1 hF.2.2.2.2.2.2.2.2.2.1.1 hP k 0 (by rw [xCL_at hk, hc]) rfl hin hd (kk r hr p e R s m args below meth c H locs ls hF hP hS hl)
theorem xR_zald (pc k : Nat) (hk : k < 92) {n : Nat} {f : Nat → Int32} (hc : xC G S k = .inl (xZ G, n, .inl f)) {i : Int32} (hd : decode (xb Y) pc = .ok (.baload, 1)) (kk : xR G Y em (pc + 1) lv (.int (f i.toNatClampNeg) :: st) S F) : xR G Y em pc lv (.int i :: .ref (xa G k) :: st) S (xck n i F) :=
  xR_ck fun hin r hr p e R s m args below meth c H locs ls hF hP hS hl => va_zald hF.1 hF.2.1 hF.2.2.2.2.2.2.2.2.2.1.1 hP k 1 (by rw [xCL_at hk, hc]) rfl hin hd (kk r hr p e R s m args below meth c H locs ls hF hP hS hl)
/-- a write of the k-th cell: what it holds behind it, all others as before -/
def xWr (G : xG) (S S' : xS) (k : Nat) (e : va_E) : Prop := xC G S' k = e ∧ ∀ j, j < 92 → j ≠ k → xC G S j = xC G S' j
theorem xWr.P {S S' : xS} {k : Nat} {e : va_E} {H : Heap} (h : xWr G S S' k e) (hk : k < 92) (hP : va_P (xD G) xcl ((xCL G S).set k (xa G k, e)) H) : va_P (xD G) xcl (xCL G S') H := by rw [xCL_set hk h.1 h.2] at hP; exact hP
theorem xR_iast (pc k : Nat) (hk : k < 92) {n : Nat} {f : Nat → Int32} (hc : xC G S k = .inl (xI G, n, .inl f)) {i x : Int32} (S' : xS) (hw : xWr G S S' k (.inl (xI G, n, .inl (upd f i.toNatClampNeg x)))) (hd : decode (xb Y) pc = .ok (.iastore, 1)) (kk : xR G Y em (pc + 1) lv st S' F) : xR G Y em pc lv (.int x :: .int i :: .ref (xa G k) :: st) S (xck n i F) :=
  xR_ck fun hin r hr p e R s m args below meth c H locs ls hF hP hS hl => va_iast hF.1 hF.2.1 hF.2.2.2.2.2.2.2.2.2.1.1 hP (xDD S hF.2.2.2.2.2.2.2.2.2.1.2.1) hS k 0 (by rw [xCL_at hk, hc]) rfl hin hd (fun H1 locs1 hP1 _ hS1 => kk r hr p e R s m args below meth c H1 locs1 ls hF (hw.P hk hP1) hS1 hl)
theorem xR_zast (pc k : Nat) (hk : k < 92) {n : Nat} {f : Nat → Int32} (hc : xC G S k = .inl (xZ G, n, .inl f)) {i x : Int32} (S' : xS) (hw : xWr G S S' k (.inl (xZ G, n, .inl (upd f i.toNatClampNeg (vp_nar .boolean x))))) (hd : decode (xb Y) pc = .ok (.bastore, 1)) (kk : xR G Y em (pc + 1) lv st S' F) : xR G Y em pc lv (.int x :: .int i :: .ref (xa G k) :: st) S (xck n i F) :=
  xR_ck fun hin r hr p e R s m args below meth c H locs ls hF hP hS hl => va_zast hF.1 hF.2.1 hF.2.2.2.2.2.2.2.2.2.1.1 hP (xDD S hF.2.2.2.2.2.2.2.2.2.1.2.1) hS k 1 (by rw [xCL_at hk, hc]) rfl hin hd (fun H1 locs1 hP1 _ hS1 => kk r hr p e R s m args below meth c H1 locs1 ls hF (hw.P hk hP1) hS1 hl)
theorem xR_alen (pc k : Nat) (hk : k < 92) {x : vp_A} (hc : xC G S k = .inl (xI G, x)) (hd : decode (xb Y) pc = .ok (.arraylength, 1)) (kk : xR G Y em (pc + 1) lv (.int (Int32.ofNat x.1) :: st) S F) : xR G Y em pc lv (.ref (xa G k) :: st) S F :=
  fun r hr p e R s m args below meth c H locs ls hF hP hS hl => va_alen hF.1 hF.2.1 hF.2.2.2.2.2.2.2.2.2.1.1 hP k 0 (by rw [xCL_at hk, hc]) rfl rfl hd (kk r hr p e R s m args below meth c H locs ls hF hP hS hl)
/-- a class: its words stand in the tables, its fields' types, its fields are its own and apart -/
def xcf (ci : Nat) (C : String) (T : u_T) (N : Nat) (ty : Nat → FieldType) : Prop := xcl[ci]? = some (C, T, N) ∧ (∀ w ∈ u_ws C T N, w ∈ lw_tb) ∧ (∀ k, k < N → parseFieldDescriptor (T k).2.2.1 = some (ty k)) ∧ (∀ a, a < N → ∀ b, b < N → a ≠ b → (T a).2.1 ≠ (T b).2.1) ∧ ∀ k, k < N → (T k).1 = C
theorem xR_getf (pc : Nat) {idx ci N : Nat} {C : String} {T : u_T} {ty : Nat → FieldType} (hcf : xcf ci C T N ty) (j k : Nat) (hj : j < N) (hk : k < 92) {fs : List Value} (hc : xC G S k = .inr (ci, fs)) {v : Value} (hv : fs[j]? = some v) (hl : Cond.fieldLink (xn Y).cls idx C (T j).2.1 (T j).2.2.1 ∈ lw_tb) (hd : decode (xb Y) pc = .ok (.getfield idx, 3)) (kk : xR G Y em (pc + 3) lv (v :: st) S F) : xR G Y em pc lv (.ref (xa G k) :: st) S F :=
  fun r hr p e R s m args below meth c H locs ls hF hP hS hlv => va_get (own := (xn Y).cls) (ref := C) (Ts := xw Y) hF.1 hF.2.1 hF.2.2.2.2.1 (fun w hw => xw_of (hcf.2.1 w hw)) hF.2.2.2.1 hF.2.2.2.2.2.2.2.2.2.1.1 hP k (by rw [xCL_at hk, hc]) hcf.1 j hj (hF.2.2.2.2.1 _ (xw_of hl)) (fun x h => by rw [hcf.2.2.2.2 j hj] at h; exact h) hv hd (kk r hr p e R s m args below meth c H locs ls hF hP hS hlv)
theorem xR_putf (pc : Nat) {idx ci N : Nat} {C : String} {T : u_T} {ty : Nat → FieldType} (hcf : xcf ci C T N ty) (j k : Nat) (hj : j < N) (hk : k < 92) {fs : List Value} (hc : xC G S k = .inr (ci, fs)) {v : Value} (hfin : (T j).2.2.2 = false) (hn : narrow (ty j) v = v) (hfit : fits (ty j) v = true) (hlen : j < fs.length) (S' : xS) (hw : xWr G S S' k (.inr (ci, fs.set j v))) (hl : Cond.fieldLink (xn Y).cls idx C (T j).2.1 (T j).2.2.1 ∈ lw_tb) (hd : decode (xb Y) pc = .ok (.putfield idx, 3)) (kk : xR G Y em (pc + 3) lv st S' F) : xR G Y em pc lv (v :: .ref (xa G k) :: st) S F :=
  fun r hr p e R s m args below meth c H locs ls hF hP hS hlv => va_put (own := (xn Y).cls) (ref := C) (Ts := xw Y) hF.1 hF.2.1 hF.2.2.2.2.1 (fun w hw => xw_of (hcf.2.1 w hw)) ty hcf.2.2.1 hcf.2.2.2.1 hF.2.2.2.1 hF.2.2.2.2.2.2.2.2.2.1.1 hP (xDD S hF.2.2.2.2.2.2.2.2.2.1.2.1) hS k (by rw [xCL_at hk, hc]) hcf.1 j hj (hF.2.2.2.2.1 _ (xw_of hl)) (fun x h => by rw [hcf.2.2.2.2 j hj] at h; exact h) hfin (hcf.2.2.1 j hj) hn hfit hlen hd (fun H1 locs1 hP1 _ hS1 => kk r hr p e R s m args below meth c H1 locs1 ls hF (hw.P hk hP1) hS1 hlv)
/-- an end with an int, a long, nothing -/
theorem xR_iret (pc : Nat) {v : Int32} {r0 : ρ} (ht : xt Y = some .int) (he : em r0 = (some (.int v), S)) (hd : decode (xb Y) pc = .ok (.ireturn, 1)) : xR G Y em pc lv [.int v] S (some r0) :=
  fun r hr p e R s m args below meth c H locs ls hF hP hS hlv => by
    cases hr
    rw [he]
    exact W.iret hF.1 hF.2.1 (hF.2.2.2.2.2.1.trans ht) (fun t h1 hW => ⟨rfl, by rw [h1]; exact hP, hS.F h1⟩) hS.2.2 hd hF.2.2.2.2.2.2.1
/-- an end with a boolean: what isn't 0 or 1 is cut to its last bit -/
def xnb (v : Int32) : Int32 := v &&& 1
theorem xW_zret {p : Program} {l : Launch} {e : Env} {R : Room} {s : State} {m : MethodId} {args : Array Value} {below : List Frame} {meth : Method} {c : Code} {H : Heap} {locs : List Loc} {cells slots : Nat} {cc : ByteArray} {Qc : Array Value → State → Outcome → State → Prop} {free : Addr → Prop} {v : Int32} (hexec : p.tables.exec = Jvm.exec) (hb : c.code = cc) (hr : meth.sig.returnType = some .boolean)
    (hq : ∀ t : State, t.heap = H → s.WarmedH t.vm → Qc args s (.returned (some (.int (xnb v)))) t) (hf : ∀ q ∈ locs, free q.base)
    {pc : Nat} {ls : Array Slot} (hdg : decode cc pc = .ok (.ireturn, 1)) (hlocks : meth.locks = false) : W p l e R s m args below meth c H locs cells slots (MQ below Qc args s cells slots free) (F0 m pc ls [.int v]) := by
  intro T hT X
  obtain ⟨fs, hret, hrun, hended, hW, hframe⟩ := X.leave (v := some (.int (xnb v))) (fun h => by rw [hr] at h; cases h)
  have hmeth' : T.vm.method? m = some meth := X.method'
  have hn : narrow .boolean (.int v) = .int (xnb v) := rfl
  refine ⟨T.setFrames fs, ?_, .returned (some (.int (xnb v))), hrun, hended, hq _ hT hW, locs, ⟨⟨_, rfl⟩, hW, hframe⟩, hf⟩
  jvm_step X.here [X.here.top, hexec, hb, hdg, hmeth', hr, hn]
  (try refine ⟨rfl, ?_⟩); (try refine ⟨rfl, ?_⟩)
  first | (intro acts; rw [hret _ acts rfl rfl rfl]) | rw [hret _ _ rfl rfl rfl]
  exact Steps.refl _
theorem xR_zret (pc : Nat) {v : Int32} {r0 : ρ} (ht : xt Y = some .boolean) (he : em r0 = (some (.int (xnb v)), S)) (hd : decode (xb Y) pc = .ok (.ireturn, 1)) : xR G Y em pc lv [.int v] S (some r0) :=
  fun r hr p e R s m args below meth c H locs ls hF hP hS hlv => by
    cases hr
    rw [he]
    exact xW_zret hF.1 hF.2.1 (hF.2.2.2.2.2.1.trans ht) (fun t h1 hW => ⟨rfl, by rw [h1]; exact hP, hS.F h1⟩) hS.2.2 hd hF.2.2.2.2.2.2.1
theorem xR_lret (pc : Nat) {v : Int64} {r0 : ρ} (ht : xt Y = some .long) (he : em r0 = (some (.long v), S)) (hd : decode (xb Y) pc = .ok (.lreturn, 1)) : xR G Y em pc lv [.long v] S (some r0) :=
  fun r hr p e R s m args below meth c H locs ls hF hP hS hlv => by
    cases hr
    rw [he]
    exact W.lret hF.1 hF.2.1 (hF.2.2.2.2.2.1.trans ht) (fun t h1 hW => ⟨rfl, by rw [h1]; exact hP, hS.F h1⟩) hS.2.2 hd hF.2.2.2.2.2.2.1
theorem xR_vret (pc : Nat) {r0 : ρ} (ht : xt Y = none) (he : em r0 = (none, S)) (hd : decode (xb Y) pc = .ok (.return_, 1)) : xR G Y em pc lv [] S (some r0) :=
  fun r hr p e R s m args below meth c H locs ls hF hP hS hlv => by
    cases hr
    rw [he]
    exact W.vret hF.1 hF.2.1 (hF.2.2.2.2.2.1.trans ht) (fun t h1 hW => ⟨rfl, by rw [h1]; exact hP, hS.F h1⟩) hS.2.2 hd hF.2.2.2.2.2.2.1

/-- a called method: its words stand in the tables; n parameters -/
def xcw (Y2 : xY) (n : Nat) : Prop := Cond.code (xn Y2) (xb Y2) (xL Y2) (xt Y2) ∈ lw_tb ∧ Cond.initialized (xn Y2).cls ∈ lw_tb ∧ ((xn Y2).cls ≠ "java/lang/invoke/MethodHandle" ∧ (xn Y2).cls ≠ "java/lang/invoke/VarHandle") ∧ (parseMethodDescriptor (xn Y2).desc).map (fun d => d.parameters.length) = some n
def xcv (Y2 : xY) (n : Nat) : Prop := xcw Y2 n ∧ Cond.instanceMethod (xn Y2) ∈ lw_tb ∧ Cond.selects (xn Y2).cls (xn Y2) (xn Y2) ∈ lw_tb
def xcs (Y2 : xY) (n : Nat) : Prop := xcw Y2 n ∧ Cond.static (xn Y2) ∈ lw_tb
theorem xw_good {Y2 : xY} {n : Nat} (h : xcw Y2 n) : GoodIn (xw Y) (xw Y2) := by
  intro w hw
  have hm : w ∈ lw_tb := by
    rcases List.mem_cons.mp hw with rfl | h1
    · exact h.1
    · exact h1
  exact ⟨xw_of hm, good_of_word (lw_tb_good w hm)⟩
theorem xblind {av : List Value} : FrameBlind (va_Pc av (fun U => va_P (xD G) xcl (xCL G S) U.heap ∧ xK G U ∧ xE G U U.heap)) := by
  intro a U g mk h
  obtain ⟨h1, h2, h3, h4⟩ := h
  exact ⟨h1, h2, h3.same (u := U) (U := U.calling g mk a) rfl, h3.2.2.2.1 U (U.calling g mk a) _ rfl h4⟩
theorem xE_at {Y : xY} {p : Program} {R : Room} {s : State} {m : MethodId} {args : Array Value} {meth : Method} {c : Code} {H : Heap} {locs : List Loc} (hF : xF G Y p R s m args meth c) (hS : va_S (xA G) s.heap H locs) : xE G s H := hF.2.2.2.2.2.2.2.2.2.1.2.2.2.2.1 s s.heap H hF.2.2.2.2.2.2.2.2.2.2 hS.2.1
theorem xpre {Y : xY} {p : Program} {R : Room} {s : State} {m : MethodId} {args : Array Value} {meth : Method} {c : Code} {H : Heap} {locs : List Loc} (hF : xF G Y p R s m args meth c) (hP : va_P (xD G) xcl (xCL G S) H) (hS : va_S (xA G) s.heap H locs) (av : List Value) : ∀ U : State, U.heap = H → s.WarmedH U.vm → va_Pc av (fun U => va_P (xD G) xcl (xCL G S) U.heap ∧ xK G U ∧ xE G U U.heap) av.toArray U :=
  fun U hU hW => ⟨rfl, by rw [hU]; exact hP, hF.2.2.2.2.2.2.2.2.2.1.warm hW, by rw [hU]; exact hF.2.2.2.2.2.2.2.2.2.1.2.2.1 s U H hW (xE_at hF hS)⟩
/-- behind a call -/
theorem xR_back {ρ2 : Type} {em2 : ρ2 → Option Value × xS} {a : ρ2} {r : ρ} {rest st0 : List Value} {pc : Nat} {Kt : Option ρ} {av : Array Value}
    {p : Program} {e : Env} {R : Room} {s : State} {m : MethodId} {args : Array Value} {below : List Frame} {meth : Method} {c : Code} {H : Heap} {locs : List Loc} {ls : Array Slot}
    (hrun : va_Run p (xl G) e R s m args below meth c H locs 0 0 0 0 (F0 m pc ls st0) rest (xQ G (em2 a).1 (em2 a).2 av) (xA G)) (kk : xR G Y em (pc + 3) lv ((em2 a).1.toList ++ rest) (em2 a).2 Kt) (hK : Kt = some r)
    (hF : xF G Y p R s m args meth c) (hS : va_S (xA G) s.heap H locs) (hl : lv_has ls (xL Y) lv) :
    W p (xl G) e R s m args below meth c H locs 0 0 (MQ below (xQ G (em r).1 (em r).2) args s 0 0 (xA G)) (F0 m pc ls st0) := by
  intro T hT X
  obtain ⟨v, st₀, t, T', L, h0, X', hL, e1, e2, ⟨hv, hP1, hFr⟩, stp⟩ := hrun T hT X
  have hv : v = (em2 a).1 := Outcome.returned.inj hv
  subst hv
  have hz := hFr.1
  have hk := hFr.2
  rw [h0] at hz hk
  obtain ⟨t2, a1, b1⟩ := kk r hK p e R s m args below meth c T'.heap (locs ++ L) ls hF (by rw [e1]; exact hP1)
    ⟨Nat.le_trans hS.1 (by rw [e1]; exact hz), fun q h1 h2 => by rw [e1, hk q (Nat.lt_of_lt_of_le h1 hS.1) h2]; exact hS.2.1 q h1 h2, fun q hq => by
      rcases List.mem_append.mp hq with h | h
      · exact hS.2.2 q h
      · exact hL q h⟩ hl T' rfl X'
  exact ⟨t2, stp t2 a1, b1⟩
/-- a call of an instance method -/
theorem xR_callV (pc : Nat) {idx n ci N : Nat} {C : String} {Tt : u_T} {ty : Nat → FieldType} {Y2 : xY} (hcv : xcv Y2 n) (hl : Cond.methodLink (xn Y).cls idx (xn Y2) ∈ lw_tb) (hroom : xf Y2 + 1 ≤ xf Y ∧ 8 + (xL Y2 + 11) + xo Y2 ≤ xo Y) (hcf : xcf ci C Tt N ty) (hC : (xn Y2).cls = C) (k : Nat) (hk : k < 92) {fs : List Value} (hc : xC G S k = .inr (ci, fs)) (As : List Value) {rest st0 : List Value} (hn : As.length = n) (hst : st0 = As.reverse ++ .ref (xa G k) :: rest) (hr8 : (rest.map fun v => v.category).sum ≤ 8) (hd : decode (xb Y) pc = .ok (.invokevirtual idx, 3))
    {ρ2 : Type} {em2 : ρ2 → Option Value × xS} {g : Option ρ2} {Kt : ρ2 → Option ρ} (hcon : ∀ a, g = some a → xCt G Y2 (.ref (xa G k) :: As) S (em2 a).1 (em2 a).2) (kk : ∀ a, xR G Y em (pc + 3) lv ((em2 a).1.toList ++ rest) (em2 a).2 (Kt a)) : xR G Y em pc lv st0 S (g.bind Kt) := by
  intro r hr p e R s m args below meth c H locs ls hF hP hS hlv
  cases hg : g with
  | none => rw [hg] at hr; cases hr
  | some a =>
    rw [hg] at hr
    have hK : Kt a = some r := hr
    obtain ⟨hx, hb, hml, hown, hts, hret, hlk, hfr, hlo, hKK, hE⟩ := id hF
    have hG := xw_good (Y := Y) hcv.1
    have tb : ∀ w ∈ lw_tb, w.before args s = true := fun w hw => hts w (xw_of hw)
    have cb : CallB R s args (xn Y).cls idx (xn Y2) (xb Y2) (xL Y2) (xt Y2) (xw Y2) (xrm Y2) 0 0 n := callB_of n hts hG rfl rfl rfl (tb _ hcv.1.2.1) (tb _ hl) ⟨hcv.1.2.2.1.1, hcv.1.2.2.1.2, hcv.1.2.2.2⟩ ⟨Nat.le_trans hroom.1 hfr, Nat.le_trans hroom.2 hlo⟩
    exact xR_back (va_runV (As := As) (rest := rest) (C := C) (b := xa G k) ⟨hx, hb, hml, hown, hts⟩ (hcon a hg) ⟨cb, tb _ hcv.2.1, by rw [← hC]; exact tb _ hcv.2.2⟩ ⟨xblind, va_recv hKK.1 hP hcf.1 (by rw [xCL_at hk, hc]), xpre hF hP hS _⟩ rfl hn hlv.1 hst (lv_room hr8) hd ⟨Nat.zero_le _, Nat.zero_le _⟩) (kk a) hK hF hS hlv
/-- a call of a static method -/
theorem xR_callS (pc : Nat) {idx n : Nat} {Y2 : xY} (hcs : xcs Y2 n) (hl : Cond.methodLink (xn Y).cls idx (xn Y2) ∈ lw_tb) (hroom : xf Y2 + 1 ≤ xf Y ∧ 8 + (xL Y2 + 11) + xo Y2 ≤ xo Y) (As : List Value) {rest st0 : List Value} (hn : As.length = n) (hst : st0 = As.reverse ++ rest) (hr8 : (rest.map fun v => v.category).sum ≤ 8) (hd : decode (xb Y) pc = .ok (.invokestatic idx, 3))
    {ρ2 : Type} {em2 : ρ2 → Option Value × xS} {g : Option ρ2} {Kt : ρ2 → Option ρ} (hcon : ∀ a, g = some a → xCt G Y2 As S (em2 a).1 (em2 a).2) (kk : ∀ a, xR G Y em (pc + 3) lv ((em2 a).1.toList ++ rest) (em2 a).2 (Kt a)) : xR G Y em pc lv st0 S (g.bind Kt) := by
  intro r hr p e R s m args below meth c H locs ls hF hP hS hlv
  cases hg : g with
  | none => rw [hg] at hr; cases hr
  | some a =>
    rw [hg] at hr
    have hK : Kt a = some r := hr
    obtain ⟨hx, hb, hml, hown, hts, hret, hlk, hfr, hlo, hKK, hE⟩ := id hF
    have hG := xw_good (Y := Y) hcs.1
    have tb : ∀ w ∈ lw_tb, w.before args s = true := fun w hw => hts w (xw_of hw)
    have cb : CallB R s args (xn Y).cls idx (xn Y2) (xb Y2) (xL Y2) (xt Y2) (xw Y2) (xrm Y2) 0 0 n := callB_of n hts hG rfl rfl rfl (tb _ hcs.1.2.1) (tb _ hl) ⟨hcs.1.2.2.1.1, hcs.1.2.2.1.2, hcs.1.2.2.2⟩ ⟨Nat.le_trans hroom.1 hfr, Nat.le_trans hroom.2 hlo⟩
    exact xR_back (va_runS (As := As) (rest := rest) ⟨hx, hb, hml, hown, hts⟩ (hcon a hg) ⟨cb, tb _ hcs.2⟩ ⟨xblind, xpre hF hP hS _⟩ rfl hn hlv.1 hst (lv_room hr8) hd ⟨Nat.zero_le _, Nat.zero_le _⟩) (kk a) hK hF hS hlv
/-- a call of a nest mate's private static method -/
theorem xR_callSN (pc : Nat) {idx n : Nat} {host : String} {Y2 : xY} (hcs : xcs Y2 n) (hl : ((xn Y).cls, idx, xn Y2, host) ∈ xnl) (hroom : xf Y2 + 1 ≤ xf Y ∧ 8 + (xL Y2 + 11) + xo Y2 ≤ xo Y) (As : List Value) {rest st0 : List Value} (hn : As.length = n) (hst : st0 = As.reverse ++ rest) (hr8 : (rest.map fun v => v.category).sum ≤ 8) (hd : decode (xb Y) pc = .ok (.invokestatic idx, 3))
    {ρ2 : Type} {em2 : ρ2 → Option Value × xS} {g : Option ρ2} {Kt : ρ2 → Option ρ} (hcon : ∀ a, g = some a → xCt G Y2 As S (em2 a).1 (em2 a).2) (kk : ∀ a, xR G Y em (pc + 3) lv ((em2 a).1.toList ++ rest) (em2 a).2 (Kt a)) : xR G Y em pc lv st0 S (g.bind Kt) := by
  intro r hr p e R s m args below meth c H locs ls hF hP hS hlv
  cases hg : g with
  | none => rw [hg] at hr; cases hr
  | some a =>
    rw [hg] at hr
    have hK : Kt a = some r := hr
    obtain ⟨hx, hb, hml, hown, hts, hret, hlk, hfr, hlo, hKK, hE⟩ := id hF
    have hG := xw_good (Y := Y) hcs.1
    have tb : ∀ w ∈ lw_tb, w.before args s = true := fun w hw => hts w (xw_of hw)
    have cb : va_CN R s args (xn Y).cls idx (xn Y2) host (xb Y2) (xL Y2) (xt Y2) (xw Y2) (xrm Y2) 0 0 n := va_cnB n hts hG rfl rfl rfl (hKK.2.2.2.2.2 _ hl) (tb _ hcs.1.2.1) ⟨hcs.1.2.2.1.1, hcs.1.2.2.1.2, hcs.1.2.2.2⟩ ⟨Nat.le_trans hroom.1 hfr, Nat.le_trans hroom.2 hlo⟩
    exact xR_back (va_runSN (As := As) (rest := rest) ⟨hx, hb, hml, hown, hts⟩ (hcon a hg) ⟨cb, tb _ hcs.2, trivial⟩ ⟨xblind, xpre hF hP hS _⟩ rfl hn hlv.1 hst (lv_room hr8) hd ⟨Nat.zero_le _, Nat.zero_le _⟩) (kk a) hK hF hS hlv
end XR
end
section
/-! THE WORLD: what each cell holds, what a write of it changes -/
theorem xcf0 : xcf 0 RX0 TX0 2 tyX0 := ⟨rfl, by decide +kernel, tyX0_ok, nmX0, by decide +kernel⟩
theorem xcf1 : xcf 1 RX1 TX1 5 tyX1 := ⟨rfl, by decide +kernel, tyX1_ok, nmX1, by decide +kernel⟩
theorem xcf2 : xcf 2 RX2 TX2 5 tyX2 := ⟨rfl, by decide +kernel, tyX2_ok, nmX2, by decide +kernel⟩
theorem xcf3 : xcf 3 RX4 TX4 4 tyX4 := ⟨rfl, by decide +kernel, tyX4_ok, nmX4, by decide +kernel⟩
theorem xcf4 : xcf 4 RX5 TX5 2 tyX5 := ⟨rfl, by decide +kernel, tyX5_ok, nmX5, by decide +kernel⟩
theorem xcf5 : xcf 5 RX6 TX6 7 tyX6 := ⟨rfl, by decide +kernel, tyX6_ok, nmX6, by decide +kernel⟩
theorem xcf6 : xcf 6 RX8 TX8 16 tyX8 := ⟨rfl, by decide +kernel, tyX8_ok, nmX8, by decide +kernel⟩
theorem xcf7 : xcf 7 RX9 TX9 13 tyX9 := ⟨rfl, by decide +kernel, tyX9_ok, nmX9, by decide +kernel⟩
section XW
variable {G : xG} {S : xS} {μ ν : xM}
theorem xC_arr {t : Nat} (h : t < 36) : xC G S t = .inl (xI G, xlen t, .inl (S.1.1 t)) := by unfold xC; rw [if_pos h]
theorem xC_tab {t : Nat} (h : t < 36) : xC G S (36 + t) = .inr (3, [.int (xrows t), .int (xwid t), .ref (xa G t), .int (S.1.1 36 t)]) := by
  unfold xC
  rw [if_neg (by omega), if_pos (by omega), Nat.add_sub_cancel_left]
theorem xC_brd {b : Nat} (h : b < 5) : xC G S (72 + b) = .inr (0, [.ref (xa G (36 + xtb b)), .int (S.1.1 37 b)]) := by
  unfold xC
  rw [if_neg (by omega), if_neg (by omega), if_pos (by omega), Nat.add_sub_cancel_left]
theorem xC_twn {t : Nat} (h : t < 4) : xC G S (77 + t) = .inr (5, [.ref (xa G (72 + t)), .ref (xa G (36 + (7 * t + 1))), .ref (xa G (36 + (7 * t + 2))), .ref (xa G (36 + (7 * t + 3))), .ref (xa G (36 + (7 * t + 4))), .ref (xa G (36 + (7 * t + 5))), .ref (xa G (36 + (7 * t + 6)))]) := by
  unfold xC
  rw [if_neg (by omega), if_neg (by omega), if_neg (by omega), if_pos (by omega), Nat.add_sub_cancel_left]
  have e : ∀ a b : Nat, a = b → xa G a = xa G b := fun _ _ h => by rw [h]
  rw [e (77 + t - 5) (72 + t) (by omega), e (37 + 7 * t) (36 + (7 * t + 1)) (by omega), e (38 + 7 * t) (36 + (7 * t + 2)) (by omega), e (39 + 7 * t) (36 + (7 * t + 3)) (by omega), e (40 + 7 * t) (36 + (7 * t + 4)) (by omega), e (41 + 7 * t) (36 + (7 * t + 5)) (by omega), e (42 + 7 * t) (36 + (7 * t + 6)) (by omega)]
theorem xC_same {S' : xS} {j : Nat} (hj : j < 92) (h0 : j < 36 → S.1.1 j = S'.1.1 j) (h1 : 36 ≤ j → j < 72 → S.1.1 36 (j - 36) = S'.1.1 36 (j - 36)) (h2 : 72 ≤ j → j < 77 → S.1.1 37 (j - 72) = S'.1.1 37 (j - 72)) (h3 : j = 81 → S.1.1 38 = S'.1.1 38 ∧ S.1.2 = S'.1.2) (h4 : j = 82 → S.1.1 39 = S'.1.1 39) (h5 : j = 83 → S.1.1 40 = S'.1.1 40) (h6 : j = 84 → S.1.1 41 = S'.1.1 41) (h7 : j = 85 → S.2.1 6 = S'.2.1 6 ∧ S.2.2 = S'.2.2) (h8 : 86 ≤ j → S.2.1 (j - 86) = S'.2.1 (j - 86)) : xC G S j = xC G S' j := by
  unfold xC
  by_cases c0 : j < 36
  · rw [if_pos c0, if_pos c0, h0 c0]
  rw [if_neg c0, if_neg c0]
  by_cases c1 : j < 72
  · rw [if_pos c1, if_pos c1, h1 (by omega) c1]
  rw [if_neg c1, if_neg c1]
  by_cases c2 : j < 77
  · rw [if_pos c2, if_pos c2, h2 (by omega) c2]
  rw [if_neg c2, if_neg c2]
  by_cases c3 : j < 81
  · rw [if_pos c3, if_pos c3]
  rw [if_neg c3, if_neg c3]
  by_cases c4 : j = 81
  · rw [if_pos c4, if_pos c4, (h3 c4).1, (h3 c4).2]
  rw [if_neg c4, if_neg c4]
  by_cases c5 : j = 82
  · rw [if_pos c5, if_pos c5, h4 c5]
  rw [if_neg c5, if_neg c5]
  by_cases c6 : j = 83
  · rw [if_pos c6, if_pos c6, h5 c6]
  rw [if_neg c6, if_neg c6]
  by_cases c7 : j = 84
  · rw [if_pos c7, if_pos c7, h6 c7]
  rw [if_neg c7, if_neg c7]
  by_cases c8 : j = 85
  · rw [if_pos c8, if_pos c8, (h7 c8).1, (h7 c8).2]
  rw [if_neg c8, if_neg c8]
  have h9 := h8 (by omega)
  by_cases c9 : j = 86
  · subst c9; rw [if_pos rfl, if_pos rfl, show S.2.1 0 = S'.2.1 0 from h9]
  rw [if_neg c9, if_neg c9]
  by_cases c10 : j = 87
  · subst c10; rw [if_pos rfl, if_pos rfl, show S.2.1 1 = S'.2.1 1 from h9]
  rw [if_neg c10, if_neg c10]
  by_cases c11 : j = 88
  · subst c11; rw [if_pos rfl, if_pos rfl, show S.2.1 2 = S'.2.1 2 from h9]
  rw [if_neg c11, if_neg c11]
  by_cases c12 : j = 89
  · subst c12; rw [if_pos rfl, if_pos rfl, show S.2.1 3 = S'.2.1 3 from h9]
  rw [if_neg c12, if_neg c12]
  by_cases c13 : j = 90
  · subst c13; rw [if_pos rfl, if_pos rfl, show S.2.1 4 = S'.2.1 4 from h9]
  rw [if_neg c13, if_neg c13]
  have c14 : j = 91 := by omega
  subst c14; rw [show S.2.1 5 = S'.2.1 5 from h9]
theorem xup_ne {m : Nat → Nat → Int32} {a i b : Nat} {v : Int32} (h : b ≠ a) : m b = xup m a i v b := by funext j; simp [xup, h]
theorem xup_nx (m : Nat → Nat → Int32) (a i b : Nat) (v : Int32) (h : b ≠ a) : m b = xup m a i v b := xup_ne h
theorem xup_at {m : Nat → Nat → Int32} {a i : Nat} {v : Int32} : xup m a i v a = upd (m a) i v := by funext j; simp [xup, upd]
theorem xup_nj {m : Nat → Nat → Int32} {a i j : Nat} {v : Int32} (h : j ≠ i) (b : Nat) : m b j = xup m a i v b j := by simp [xup, h]
theorem xup_eq {m : Nat → Nat → Int32} {a i : Nat} {v : Int32} : xup m a i v a i = v := by simp [xup]
/-- writes of the class's memory -/
theorem xW_arr {t i : Nat} {v : Int32} (h : t < 36) : xWr G (μ, ν) ((xup μ.1 t i v, μ.2), ν) t (.inl (xI G, xlen t, .inl (upd (μ.1 t) i v))) :=
  ⟨by rw [xC_arr h]; show Sum.inl (_, _, Sum.inl (xup μ.1 t i v t)) = _; rw [xup_at], fun j hj hne => xC_same hj (fun _ => xup_ne hne) (fun _ _ => congrFun (xup_ne (by omega)) _) (fun _ _ => congrFun (xup_ne (by omega)) _) (fun _ => ⟨xup_ne (by omega), rfl⟩) (fun _ => xup_ne (by omega)) (fun _ => xup_ne (by omega)) (fun _ => xup_ne (by omega)) (fun _ => ⟨rfl, rfl⟩) (fun _ => rfl)⟩
theorem xW_used {t : Nat} {v : Int32} (h : t < 36) : xWr G (μ, ν) ((xup μ.1 36 t v, μ.2), ν) (36 + t) (.inr (3, [.int (xrows t), .int (xwid t), .ref (xa G t), .int v])) :=
  ⟨by rw [xC_tab h]; show Sum.inr (3, [_, _, _, Value.int (xup μ.1 36 t v 36 t)]) = _; rw [xup_eq], fun j hj hne => xC_same hj (fun h => xup_nx μ.1 36 t j v (by omega)) (fun _ _ => xup_nj (by omega) _) (fun _ _ => congrFun (xup_nx μ.1 36 t 37 v (by omega)) _) (fun _ => ⟨xup_nx μ.1 36 t 38 v (by omega), rfl⟩) (fun _ => xup_nx μ.1 36 t 39 v (by omega)) (fun _ => xup_nx μ.1 36 t 40 v (by omega)) (fun _ => xup_nx μ.1 36 t 41 v (by omega)) (fun _ => ⟨rfl, rfl⟩) (fun _ => rfl)⟩
theorem xW_year {b : Nat} {v : Int32} (h : b < 5) : xWr G (μ, ν) ((xup μ.1 37 b v, μ.2), ν) (72 + b) (.inr (0, [.ref (xa G (36 + xtb b)), .int v])) :=
  ⟨by rw [xC_brd h]; show Sum.inr (0, [_, Value.int (xup μ.1 37 b v 37 b)]) = _; rw [xup_eq], fun j hj hne => xC_same hj (fun h => xup_nx μ.1 37 b j v (by omega)) (fun _ _ => congrFun (xup_nx μ.1 37 b 36 v (by omega)) _) (fun _ _ => xup_nj (by omega) _) (fun _ => ⟨xup_nx μ.1 37 b 38 v (by omega), rfl⟩) (fun _ => xup_nx μ.1 37 b 39 v (by omega)) (fun _ => xup_nx μ.1 37 b 40 v (by omega)) (fun _ => xup_nx μ.1 37 b 41 v (by omega)) (fun _ => ⟨rfl, rfl⟩) (fun _ => rfl)⟩
/-- a write of block a, 38 and on: cell a + 43 alone reads it -/
theorem xW_blk {a i : Nat} {v : Int32} (h : 38 ≤ a) (h2 : a ≤ 41) {e : va_E} (he : xC G ((xup μ.1 a i v, μ.2), ν) (a + 43) = e) : xWr G (μ, ν) ((xup μ.1 a i v, μ.2), ν) (a + 43) e :=
  ⟨he, fun j hj hne => xC_same hj (fun h => xup_ne (by omega)) (fun _ _ => congrFun (xup_ne (by omega)) _) (fun _ _ => congrFun (xup_ne (by omega)) _) (fun _ => ⟨xup_ne (by omega), rfl⟩) (fun _ => xup_ne (by omega)) (fun _ => xup_ne (by omega)) (fun _ => xup_ne (by omega)) (fun _ => ⟨rfl, rfl⟩) (fun _ => rfl)⟩
theorem xW_lng {i : Nat} {v : Int64} {e : va_E} (he : xC G ((μ.1, xul μ.2 i v), ν) 81 = e) : xWr G (μ, ν) ((μ.1, xul μ.2 i v), ν) 81 e :=
  ⟨he, fun j hj hne => xC_same hj (fun _ => rfl) (fun _ _ => rfl) (fun _ _ => rfl) (fun h => absurd h hne) (fun _ => rfl) (fun _ => rfl) (fun _ => rfl) (fun _ => ⟨rfl, rfl⟩) (fun _ => rfl)⟩
/-- writes of the reference's memory -/
theorem xW_mrow {a i : Nat} {v : Int32} (h : a < 6) {e : va_E} (he : xC G (μ, (xup ν.1 a i v, ν.2)) (86 + a) = e) : xWr G (μ, ν) (μ, (xup ν.1 a i v, ν.2)) (86 + a) e :=
  ⟨he, fun j hj hne => xC_same hj (fun _ => rfl) (fun _ _ => rfl) (fun _ _ => rfl) (fun _ => ⟨rfl, rfl⟩) (fun _ => rfl) (fun _ => rfl) (fun _ => rfl) (fun _ => ⟨xup_ne (by omega), rfl⟩) (fun h => xup_ne (by omega))⟩
theorem xW_mint {i : Nat} {v : Int32} {e : va_E} (he : xC G (μ, (xup ν.1 6 i v, ν.2)) 85 = e) : xWr G (μ, ν) (μ, (xup ν.1 6 i v, ν.2)) 85 e :=
  ⟨he, fun j hj hne => xC_same hj (fun _ => rfl) (fun _ _ => rfl) (fun _ _ => rfl) (fun _ => ⟨rfl, rfl⟩) (fun _ => rfl) (fun _ => rfl) (fun _ => rfl) (fun h => absurd h hne) (fun h => xup_ne (by omega))⟩
theorem xW_mlng {i : Nat} {v : Int64} {e : va_E} (he : xC G (μ, (ν.1, xul ν.2 i v)) 85 = e) : xWr G (μ, ν) (μ, (ν.1, xul ν.2 i v)) 85 e :=
  ⟨he, fun j hj hne => xC_same hj (fun _ => rfl) (fun _ _ => rfl) (fun _ _ => rfl) (fun _ => ⟨rfl, rfl⟩) (fun _ => rfl) (fun _ => rfl) (fun _ => rfl) (fun h => absurd h hne) (fun _ => rfl)⟩
end XW
/-! answers -/
def emi (S : xS) : Int32 → Option Value × xS := fun v => (some (.int v), S)
def eml (S : xS) : Int64 → Option Value × xS := fun v => (some (.long v), S)
def emic (ν : xM) : Int32 × xM → Option Value × xS := fun q => (some (.int q.1), (q.2, ν))
def emlc (ν : xM) : Int64 × xM → Option Value × xS := fun q => (some (.long q.1), (q.2, ν))
def emvc (ν : xM) : xM → Option Value × xS := fun q => (none, (q, ν))
def emim (μ : xM) : Int32 × xM → Option Value × xS := fun q => (some (.int q.1), (μ, q.2))
def emlm (μ : xM) : Int64 × xM → Option Value × xS := fun q => (some (.long q.1), (μ, q.2))
def emvm (μ : xM) : xM → Option Value × xS := fun q => (none, (μ, q))
section XM
variable {ρ : Type} {G : xG} {Y : xY} {em : ρ → Option Value × xS} {lv : List (Nat × Value)} {st : List Value} {S : xS} {F : Option ρ}
def xmax (x y : Int32) : Int32 := if x < y then y else x
def xmin (x y : Int32) : Int32 := if y < x then y else x
def xabs (x : Int32) : Int32 := if 0 ≤ x then x else 0 - x
theorem xmw_max : Cond.static Lib.Math.max.name ∈ lw_tb ∧ Cond.initialized "java/lang/Math" ∈ lw_tb ∧ Cond.code Lib.Math.max.name Lib.Math.max.code 2 (some .int) ∈ lw_tb := by decide +kernel
theorem xmw_min : Cond.static Lib.Math.min.name ∈ lw_tb ∧ Cond.initialized "java/lang/Math" ∈ lw_tb ∧ Cond.code Lib.Math.min.name Lib.Math.min.code 2 (some .int) ∈ lw_tb := by decide +kernel
theorem xmw_abs : Cond.static Lib.Math.abs.name ∈ lw_tb ∧ Cond.initialized "java/lang/Math" ∈ lw_tb ∧ Cond.code Lib.Math.abs.name Lib.Math.abs.code 1 (some .int) ∈ lw_tb := by decide +kernel
theorem xR_mmax (pc : Nat) {idx : Nat} {x y : Int32} (hl : Cond.methodLink (xn Y).cls idx Lib.Math.max.name ∈ lw_tb) (hroom : 1 ≤ xf Y ∧ (st.map fun v => v.category).sum + 13 ≤ xo Y) (hd : decode (xb Y) pc = .ok (.invokestatic idx, 3)) (kk : xR G Y em (pc + 3) lv (.int (xmax x y) :: st) S F) : xR G Y em pc lv (.int y :: .int x :: st) S F :=
  fun r hr p e R s m args below meth c H locs ls hF hP hS hlv => va_mmax hF.1 hF.2.1 (hF.2.2.1.trans hlv.1.symm) hF.2.2.2.1 (hF.2.2.2.2.1 _ (xw_of hl)) (hF.2.2.2.2.1 _ (xw_of xmw_max.1)) (hF.2.2.2.2.1 _ (xw_of xmw_max.2.1)) (hF.2.2.2.2.1 _ (xw_of xmw_max.2.2)) (Nat.le_trans hroom.1 hF.2.2.2.2.2.2.2.1) (Nat.le_trans hroom.2 hF.2.2.2.2.2.2.2.2.1) (Nat.zero_le _) (Nat.zero_le _) hd (kk r hr p e R s m args below meth c H locs ls hF hP hS hlv)
theorem xR_mmin (pc : Nat) {idx : Nat} {x y : Int32} (hl : Cond.methodLink (xn Y).cls idx Lib.Math.min.name ∈ lw_tb) (hroom : 1 ≤ xf Y ∧ (st.map fun v => v.category).sum + 13 ≤ xo Y) (hd : decode (xb Y) pc = .ok (.invokestatic idx, 3)) (kk : xR G Y em (pc + 3) lv (.int (xmin x y) :: st) S F) : xR G Y em pc lv (.int y :: .int x :: st) S F :=
  fun r hr p e R s m args below meth c H locs ls hF hP hS hlv => va_mmin hF.1 hF.2.1 (hF.2.2.1.trans hlv.1.symm) hF.2.2.2.1 (hF.2.2.2.2.1 _ (xw_of hl)) (hF.2.2.2.2.1 _ (xw_of xmw_min.1)) (hF.2.2.2.2.1 _ (xw_of xmw_min.2.1)) (hF.2.2.2.2.1 _ (xw_of xmw_min.2.2)) (Nat.le_trans hroom.1 hF.2.2.2.2.2.2.2.1) (Nat.le_trans hroom.2 hF.2.2.2.2.2.2.2.2.1) (Nat.zero_le _) (Nat.zero_le _) hd (kk r hr p e R s m args below meth c H locs ls hF hP hS hlv)
theorem xR_mabs (pc : Nat) {idx : Nat} {x : Int32} (hl : Cond.methodLink (xn Y).cls idx Lib.Math.abs.name ∈ lw_tb) (hroom : 1 ≤ xf Y ∧ (st.map fun v => v.category).sum + 13 ≤ xo Y) (hd : decode (xb Y) pc = .ok (.invokestatic idx, 3)) (kk : xR G Y em (pc + 3) lv (.int (xabs x) :: st) S F) : xR G Y em pc lv (.int x :: st) S F :=
  fun r hr p e R s m args below meth c H locs ls hF hP hS hlv => va_mabs hF.1 hF.2.1 (hF.2.2.1.trans hlv.1.symm) hF.2.2.2.1 (hF.2.2.2.2.1 _ (xw_of hl)) (hF.2.2.2.2.1 _ (xw_of xmw_abs.1)) (hF.2.2.2.2.1 _ (xw_of xmw_abs.2.1)) (hF.2.2.2.2.1 _ (xw_of xmw_abs.2.2)) (Nat.le_trans hroom.1 hF.2.2.2.2.2.2.2.1) (Nat.le_trans hroom.2 hF.2.2.2.2.2.2.2.2.1) (Nat.zero_le _) (Nat.zero_le _) hd (kk r hr p e R s m args below meth c H locs ls hF hP hS hlv)
theorem xR_ldc (pc : Nat) {idx : Nat} {v : Int32} (hl : Cond.constant (xn Y).cls idx v ∈ lw_tb) (hd : decode (xb Y) pc = .ok (.ldc idx, 2)) (kk : xR G Y em (pc + 2) lv (.int v :: st) S F) : xR G Y em pc lv st S F :=
  fun r hr p e R s m args below meth c H locs ls hF hP hS hlv => lv_ldc hF.1 hF.2.1 hF.2.2.2.1 (hF.2.2.2.2.1 _ (xw_of hl)) hd (kk r hr p e R s m args below meth c H locs ls hF hP hS hlv)
theorem xR_ldc2 (pc : Nat) {idx : Nat} {v : Int64} (hl : Cond.constantLong (xn Y).cls idx v ∈ lw_tb) (hd : decode (xb Y) pc = .ok (.ldc2_w idx, 3)) (kk : xR G Y em (pc + 3) lv (.long v :: st) S F) : xR G Y em pc lv st S F :=
  fun r hr p e R s m args below meth c H locs ls hF hP hS hlv => lv_ldc2 hF.1 hF.2.1 hF.2.2.2.1 (hF.2.2.2.2.1 _ (xw_of hl)) hd (kk r hr p e R s m args below meth c H locs ls hF hP hS hlv)
/-- a switch: the number is the table's j-th; the number is none of them -/
theorem xR_tsw (pc tgt : Nat) {dflt lo hi : Int} {offs : Array Int} {len : Nat} {x : Int32} (v : Int32) {off : Int} (hd : decode (xb Y) pc = .ok (.tableswitch dflt lo hi offs, len)) (h1 : ¬ v.toInt < lo) (h2 : ¬ hi < v.toInt) (ho : offs[(v.toInt - lo).toNat]? = some off) (ht : (pc : Int) + off = (tgt : Int)) {F1 F2 : Option ρ} (kk : xR G Y em tgt lv st S F1) (kf : ¬ x = v → xR G Y em pc lv (.int x :: st) S F2) : xR G Y em pc lv (.int x :: st) S (if x = v then F1 else F2) := by
  by_cases hx : x = v
  · subst hx
    rw [if_pos rfl]
    exact fun r hr p e R s m args below meth c H locs ls hF hP hS hlv => lv_tableIn hF.1 hF.2.1 hd h1 h2 ho ht (kk r hr p e R s m args below meth c H locs ls hF hP hS hlv)
  · rw [if_neg hx]
    exact kf hx
theorem xR_tso (pc tgt : Nat) {dflt lo hi : Int} {offs : Array Int} {len : Nat} {x : Int32} (hd : decode (xb Y) pc = .ok (.tableswitch dflt lo hi offs, len)) (h : x.toInt < lo ∨ hi < x.toInt) (ht : (pc : Int) + dflt = (tgt : Int)) (kk : xR G Y em tgt lv st S F) : xR G Y em pc lv (.int x :: st) S F :=
  fun r hr p e R s m args below meth c H locs ls hF hP hS hlv => lv_tableOut hF.1 hF.2.1 hd h ht (kk r hr p e R s m args below meth c H locs ls hF hP hS hlv)
/-- System.arraycopy between int rows -/
def xcpy (n0 n1 : Nat) (sp dp n : Int32) {ρ : Type} (F : Option ρ) : Option ρ := if ¬ sp < 0 ∧ ¬ dp < 0 ∧ ¬ n < 0 ∧ sp.toNatClampNeg + n.toNatClampNeg ≤ n0 ∧ dp.toNatClampNeg + n.toNatClampNeg ≤ n1 then F else none
theorem xaw : Cond.native arraycopyName ∈ lw_tb ∧ Cond.static arraycopyName ∈ lw_tb ∧ Cond.initialized "java/lang/System" ∈ lw_tb := by decide +kernel
theorem xR_copy (pc : Nat) {idx : Nat} (hl : Cond.methodLink (xn Y).cls idx arraycopyName ∈ lw_tb) (k0 k1 : Nat) (hk0 : k0 < 92) (hk1 : k1 < 92) {n0 n1 : Nat} {f g : Nat → Int32} (hc0 : xC G S k0 = .inl (xI G, n0, .inl f)) (hc1 : xC G S k1 = .inl (xI G, n1, .inl g)) {sp dp n : Int32} (S' : xS) (hw : xWr G S S' k1 (.inl (xI G, n1, .inl (va_cpy f g sp.toNatClampNeg dp.toNatClampNeg n.toNatClampNeg)))) (hroom : 1 ≤ xf Y ∧ (st.map fun v => v.category).sum + 18 ≤ xo Y) (hd : decode (xb Y) pc = .ok (.invokestatic idx, 3)) (kk : xR G Y em (pc + 3) lv st S' F) : xR G Y em pc lv (.int n :: .int dp :: .ref (xa G k1) :: .int sp :: .ref (xa G k0) :: st) S (xcpy n0 n1 sp dp n F) := by
  by_cases h : ¬ sp < 0 ∧ ¬ dp < 0 ∧ ¬ n < 0 ∧ sp.toNatClampNeg + n.toNatClampNeg ≤ n0 ∧ dp.toNatClampNeg + n.toNatClampNeg ≤ n1
  · unfold xcpy
    rw [if_pos h]
    obtain ⟨h1, h2, h3, h4, h5⟩ := h
    exact fun r hr p e R s m args below meth c H locs ls hF hP hS hlv => va_copyi hF.1 hF.2.1 (hF.2.2.1.trans hlv.1.symm) hF.2.2.2.1 (hF.2.2.2.2.1 _ (xw_of hl)) (hF.2.2.2.2.1 _ (xw_of xaw.1)) (hF.2.2.2.2.1 _ (xw_of xaw.2.1)) (hF.2.2.2.2.1 _ (xw_of xaw.2.2)) hF.2.2.2.2.2.2.2.2.2.1.1 hP (xDD S hF.2.2.2.2.2.2.2.2.2.1.2.1) hS k0 k1 0 0 (by rw [xCL_at hk0, hc0]) (by rw [xCL_at hk1, hc1]) rfl rfl (ty := .int) rfl h1 h2 h3 h4 h5 (fun _ _ => rfl) (Nat.le_trans hroom.1 hF.2.2.2.2.2.2.2.1) (Nat.le_trans (by show _ + 18 ≤ _; exact hroom.2) hF.2.2.2.2.2.2.2.2.1) hd (fun H1 locs1 hP1 _ hS1 => kk r hr p e R s m args below meth c H1 locs1 ls hF (hw.P hk1 hP1) hS1 hlv)
  · unfold xcpy
    rw [if_neg h]
    exact xR_none
end XM
end
section
/-! MORE ROWS: sets of memories, calls by what they answer -/
def xset (m : xM) (a i : Nat) (v : Int32) : xM := (xup m.1 a i v, m.2)
def xsel (m : xM) (i : Nat) (v : Int64) : xM := (m.1, xul m.2 i v)
/-- how often a loop may turn -/
def xfu : Nat := 100000
theorem xk_T {t : Nat} (h : t < 36) : 36 + t < 92 := by omega
theorem xk_A {t : Nat} (h : t < 36) : t < 92 := by omega
theorem xk_B {t : Nat} (h : t < 5) : 72 + t < 92 := by omega
theorem xk_W {t : Nat} (h : t < 4) : 77 + t < 92 := by omega
theorem xtb_lt {b : Nat} (h : b < 5) : xtb b < 36 := by
  unfold xtb
  split
  · decide
  · omega
theorem xtw_lt {t : Nat} (h : t < 4) {j : Nat} (hj : j < 7) : 7 * t + j < 36 := by omega
section XW2
variable {G : xG} {μ ν : xM} {i : Nat} {v : Int32}
theorem xW_m0 : xWr G (μ, ν) (μ, xset ν 0 i v) 86 (.inl (xI G, 1752, .inl (upd (ν.1 0) i v))) := xW_mrow (a := 0) (by decide) (by show Sum.inl (_, _, Sum.inl (xup ν.1 0 i v 0)) = _; rw [xup_at])
theorem xW_m1 : xWr G (μ, ν) (μ, xset ν 1 i v) 87 (.inl (xZ G, 2, .inl (upd (ν.1 1) i v))) := xW_mrow (a := 1) (by decide) (by show Sum.inl (_, _, Sum.inl (xup ν.1 1 i v 1)) = _; rw [xup_at])
theorem xW_m2 : xWr G (μ, ν) (μ, xset ν 2 i v) 88 (.inl (xI G, 150, .inl (upd (ν.1 2) i v))) := xW_mrow (a := 2) (by decide) (by show Sum.inl (_, _, Sum.inl (xup ν.1 2 i v 2)) = _; rw [xup_at])
theorem xW_m3 : xWr G (μ, ν) (μ, xset ν 3 i v) 89 (.inl (xI G, 3, .inl (upd (ν.1 3) i v))) := xW_mrow (a := 3) (by decide) (by show Sum.inl (_, _, Sum.inl (xup ν.1 3 i v 3)) = _; rw [xup_at])
theorem xW_m4 : xWr G (μ, ν) (μ, xset ν 4 i v) 90 (.inl (xI G, 6, .inl (upd (ν.1 4) i v))) := xW_mrow (a := 4) (by decide) (by show Sum.inl (_, _, Sum.inl (xup ν.1 4 i v 4)) = _; rw [xup_at])
theorem xW_m5 : xWr G (μ, ν) (μ, xset ν 5 i v) 91 (.inl (xI G, 6, .inl (upd (ν.1 5) i v))) := xW_mrow (a := 5) (by decide) (by show Sum.inl (_, _, Sum.inl (xup ν.1 5 i v 5)) = _; rw [xup_at])
end XW2
section XCALLS
variable {ρ : Type} {G : xG} {Y : xY} {em : ρ → Option Value × xS} {lv : List (Nat × Value)} {st : List Value} {S : xS} {F : Option ρ}
theorem xR_callVi (pc : Nat) {idx n ci N : Nat} {C : String} {Tt : u_T} {ty : Nat → FieldType} {Y2 : xY} (hcv : xcv Y2 n) (hl : Cond.methodLink (xn Y).cls idx (xn Y2) ∈ lw_tb) (hroom : xf Y2 + 1 ≤ xf Y ∧ 8 + (xL Y2 + 11) + xo Y2 ≤ xo Y) (hcf : xcf ci C Tt N ty) (hC : (xn Y2).cls = C) (k : Nat) (hk : k < 92) {fs : List Value} (hc : xC G S k = .inr (ci, fs)) (As : List Value) {rest st0 : List Value} (hn : As.length = n) (hst : st0 = As.reverse ++ .ref (xa G k) :: rest) (hr8 : (rest.map fun v => v.category).sum ≤ 8) (hd : decode (xb Y) pc = .ok (.invokevirtual idx, 3)) {g : Option (Int32)} {Kt : (Int32) → Option ρ} (hcon : ∀ a, g = some a → xCt G Y2 (.ref (xa G k) :: As) S (some (.int a)) S) (kk : ∀ a, xR G Y em (pc + 3) lv (.int a :: rest) S (Kt a)) : xR G Y em pc lv st0 S (g.bind Kt) := xR_callV (em2 := emi S) pc hcv hl hroom hcf hC k hk hc As hn hst hr8 hd hcon kk
theorem xR_callVl (pc : Nat) {idx n ci N : Nat} {C : String} {Tt : u_T} {ty : Nat → FieldType} {Y2 : xY} (hcv : xcv Y2 n) (hl : Cond.methodLink (xn Y).cls idx (xn Y2) ∈ lw_tb) (hroom : xf Y2 + 1 ≤ xf Y ∧ 8 + (xL Y2 + 11) + xo Y2 ≤ xo Y) (hcf : xcf ci C Tt N ty) (hC : (xn Y2).cls = C) (k : Nat) (hk : k < 92) {fs : List Value} (hc : xC G S k = .inr (ci, fs)) (As : List Value) {rest st0 : List Value} (hn : As.length = n) (hst : st0 = As.reverse ++ .ref (xa G k) :: rest) (hr8 : (rest.map fun v => v.category).sum ≤ 8) (hd : decode (xb Y) pc = .ok (.invokevirtual idx, 3)) {g : Option (Int64)} {Kt : (Int64) → Option ρ} (hcon : ∀ a, g = some a → xCt G Y2 (.ref (xa G k) :: As) S (some (.long a)) S) (kk : ∀ a, xR G Y em (pc + 3) lv (.long a :: rest) S (Kt a)) : xR G Y em pc lv st0 S (g.bind Kt) := xR_callV (em2 := eml S) pc hcv hl hroom hcf hC k hk hc As hn hst hr8 hd hcon kk
theorem xR_callVic (pc : Nat) {μ ν : xM} {idx n ci N : Nat} {C : String} {Tt : u_T} {ty : Nat → FieldType} {Y2 : xY} (hcv : xcv Y2 n) (hl : Cond.methodLink (xn Y).cls idx (xn Y2) ∈ lw_tb) (hroom : xf Y2 + 1 ≤ xf Y ∧ 8 + (xL Y2 + 11) + xo Y2 ≤ xo Y) (hcf : xcf ci C Tt N ty) (hC : (xn Y2).cls = C) (k : Nat) (hk : k < 92) {fs : List Value} (hc : xC G (μ, ν) k = .inr (ci, fs)) (As : List Value) {rest st0 : List Value} (hn : As.length = n) (hst : st0 = As.reverse ++ .ref (xa G k) :: rest) (hr8 : (rest.map fun v => v.category).sum ≤ 8) (hd : decode (xb Y) pc = .ok (.invokevirtual idx, 3)) {g : Option (Int32 × xM)} {Kt : (Int32 × xM) → Option ρ} (hcon : ∀ a, g = some a → xCt G Y2 (.ref (xa G k) :: As) (μ, ν) (some (.int a.1)) (a.2, ν)) (kk : ∀ a, xR G Y em (pc + 3) lv (.int a.1 :: rest) (a.2, ν) (Kt a)) : xR G Y em pc lv st0 (μ, ν) (g.bind Kt) := xR_callV (em2 := emic ν) pc hcv hl hroom hcf hC k hk hc As hn hst hr8 hd hcon kk
theorem xR_callVlc (pc : Nat) {μ ν : xM} {idx n ci N : Nat} {C : String} {Tt : u_T} {ty : Nat → FieldType} {Y2 : xY} (hcv : xcv Y2 n) (hl : Cond.methodLink (xn Y).cls idx (xn Y2) ∈ lw_tb) (hroom : xf Y2 + 1 ≤ xf Y ∧ 8 + (xL Y2 + 11) + xo Y2 ≤ xo Y) (hcf : xcf ci C Tt N ty) (hC : (xn Y2).cls = C) (k : Nat) (hk : k < 92) {fs : List Value} (hc : xC G (μ, ν) k = .inr (ci, fs)) (As : List Value) {rest st0 : List Value} (hn : As.length = n) (hst : st0 = As.reverse ++ .ref (xa G k) :: rest) (hr8 : (rest.map fun v => v.category).sum ≤ 8) (hd : decode (xb Y) pc = .ok (.invokevirtual idx, 3)) {g : Option (Int64 × xM)} {Kt : (Int64 × xM) → Option ρ} (hcon : ∀ a, g = some a → xCt G Y2 (.ref (xa G k) :: As) (μ, ν) (some (.long a.1)) (a.2, ν)) (kk : ∀ a, xR G Y em (pc + 3) lv (.long a.1 :: rest) (a.2, ν) (Kt a)) : xR G Y em pc lv st0 (μ, ν) (g.bind Kt) := xR_callV (em2 := emlc ν) pc hcv hl hroom hcf hC k hk hc As hn hst hr8 hd hcon kk
theorem xR_callVvc (pc : Nat) {μ ν : xM} {idx n ci N : Nat} {C : String} {Tt : u_T} {ty : Nat → FieldType} {Y2 : xY} (hcv : xcv Y2 n) (hl : Cond.methodLink (xn Y).cls idx (xn Y2) ∈ lw_tb) (hroom : xf Y2 + 1 ≤ xf Y ∧ 8 + (xL Y2 + 11) + xo Y2 ≤ xo Y) (hcf : xcf ci C Tt N ty) (hC : (xn Y2).cls = C) (k : Nat) (hk : k < 92) {fs : List Value} (hc : xC G (μ, ν) k = .inr (ci, fs)) (As : List Value) {rest st0 : List Value} (hn : As.length = n) (hst : st0 = As.reverse ++ .ref (xa G k) :: rest) (hr8 : (rest.map fun v => v.category).sum ≤ 8) (hd : decode (xb Y) pc = .ok (.invokevirtual idx, 3)) {g : Option (xM)} {Kt : (xM) → Option ρ} (hcon : ∀ a, g = some a → xCt G Y2 (.ref (xa G k) :: As) (μ, ν) (none) (a, ν)) (kk : ∀ a, xR G Y em (pc + 3) lv rest (a, ν) (Kt a)) : xR G Y em pc lv st0 (μ, ν) (g.bind Kt) := xR_callV (em2 := emvc ν) pc hcv hl hroom hcf hC k hk hc As hn hst hr8 hd hcon kk
theorem xR_callVim (pc : Nat) {μ ν : xM} {idx n ci N : Nat} {C : String} {Tt : u_T} {ty : Nat → FieldType} {Y2 : xY} (hcv : xcv Y2 n) (hl : Cond.methodLink (xn Y).cls idx (xn Y2) ∈ lw_tb) (hroom : xf Y2 + 1 ≤ xf Y ∧ 8 + (xL Y2 + 11) + xo Y2 ≤ xo Y) (hcf : xcf ci C Tt N ty) (hC : (xn Y2).cls = C) (k : Nat) (hk : k < 92) {fs : List Value} (hc : xC G (μ, ν) k = .inr (ci, fs)) (As : List Value) {rest st0 : List Value} (hn : As.length = n) (hst : st0 = As.reverse ++ .ref (xa G k) :: rest) (hr8 : (rest.map fun v => v.category).sum ≤ 8) (hd : decode (xb Y) pc = .ok (.invokevirtual idx, 3)) {g : Option (Int32 × xM)} {Kt : (Int32 × xM) → Option ρ} (hcon : ∀ a, g = some a → xCt G Y2 (.ref (xa G k) :: As) (μ, ν) (some (.int a.1)) (μ, a.2)) (kk : ∀ a, xR G Y em (pc + 3) lv (.int a.1 :: rest) (μ, a.2) (Kt a)) : xR G Y em pc lv st0 (μ, ν) (g.bind Kt) := xR_callV (em2 := emim μ) pc hcv hl hroom hcf hC k hk hc As hn hst hr8 hd hcon kk
theorem xR_callVlm (pc : Nat) {μ ν : xM} {idx n ci N : Nat} {C : String} {Tt : u_T} {ty : Nat → FieldType} {Y2 : xY} (hcv : xcv Y2 n) (hl : Cond.methodLink (xn Y).cls idx (xn Y2) ∈ lw_tb) (hroom : xf Y2 + 1 ≤ xf Y ∧ 8 + (xL Y2 + 11) + xo Y2 ≤ xo Y) (hcf : xcf ci C Tt N ty) (hC : (xn Y2).cls = C) (k : Nat) (hk : k < 92) {fs : List Value} (hc : xC G (μ, ν) k = .inr (ci, fs)) (As : List Value) {rest st0 : List Value} (hn : As.length = n) (hst : st0 = As.reverse ++ .ref (xa G k) :: rest) (hr8 : (rest.map fun v => v.category).sum ≤ 8) (hd : decode (xb Y) pc = .ok (.invokevirtual idx, 3)) {g : Option (Int64 × xM)} {Kt : (Int64 × xM) → Option ρ} (hcon : ∀ a, g = some a → xCt G Y2 (.ref (xa G k) :: As) (μ, ν) (some (.long a.1)) (μ, a.2)) (kk : ∀ a, xR G Y em (pc + 3) lv (.long a.1 :: rest) (μ, a.2) (Kt a)) : xR G Y em pc lv st0 (μ, ν) (g.bind Kt) := xR_callV (em2 := emlm μ) pc hcv hl hroom hcf hC k hk hc As hn hst hr8 hd hcon kk
theorem xR_callVvm (pc : Nat) {μ ν : xM} {idx n ci N : Nat} {C : String} {Tt : u_T} {ty : Nat → FieldType} {Y2 : xY} (hcv : xcv Y2 n) (hl : Cond.methodLink (xn Y).cls idx (xn Y2) ∈ lw_tb) (hroom : xf Y2 + 1 ≤ xf Y ∧ 8 + (xL Y2 + 11) + xo Y2 ≤ xo Y) (hcf : xcf ci C Tt N ty) (hC : (xn Y2).cls = C) (k : Nat) (hk : k < 92) {fs : List Value} (hc : xC G (μ, ν) k = .inr (ci, fs)) (As : List Value) {rest st0 : List Value} (hn : As.length = n) (hst : st0 = As.reverse ++ .ref (xa G k) :: rest) (hr8 : (rest.map fun v => v.category).sum ≤ 8) (hd : decode (xb Y) pc = .ok (.invokevirtual idx, 3)) {g : Option (xM)} {Kt : (xM) → Option ρ} (hcon : ∀ a, g = some a → xCt G Y2 (.ref (xa G k) :: As) (μ, ν) (none) (μ, a)) (kk : ∀ a, xR G Y em (pc + 3) lv rest (μ, a) (Kt a)) : xR G Y em pc lv st0 (μ, ν) (g.bind Kt) := xR_callV (em2 := emvm μ) pc hcv hl hroom hcf hC k hk hc As hn hst hr8 hd hcon kk
theorem xR_callSi (pc : Nat) {idx n : Nat} {Y2 : xY} (hcs : xcs Y2 n) (hl : Cond.methodLink (xn Y).cls idx (xn Y2) ∈ lw_tb) (hroom : xf Y2 + 1 ≤ xf Y ∧ 8 + (xL Y2 + 11) + xo Y2 ≤ xo Y) (As : List Value) {rest st0 : List Value} (hn : As.length = n) (hst : st0 = As.reverse ++ rest) (hr8 : (rest.map fun v => v.category).sum ≤ 8) (hd : decode (xb Y) pc = .ok (.invokestatic idx, 3)) {g : Option (Int32)} {Kt : (Int32) → Option ρ} (hcon : ∀ a, g = some a → xCt G Y2 As S (some (.int a)) S) (kk : ∀ a, xR G Y em (pc + 3) lv (.int a :: rest) S (Kt a)) : xR G Y em pc lv st0 S (g.bind Kt) := xR_callS (em2 := emi S) pc hcs hl hroom As hn hst hr8 hd hcon kk
theorem xR_callSl (pc : Nat) {idx n : Nat} {Y2 : xY} (hcs : xcs Y2 n) (hl : Cond.methodLink (xn Y).cls idx (xn Y2) ∈ lw_tb) (hroom : xf Y2 + 1 ≤ xf Y ∧ 8 + (xL Y2 + 11) + xo Y2 ≤ xo Y) (As : List Value) {rest st0 : List Value} (hn : As.length = n) (hst : st0 = As.reverse ++ rest) (hr8 : (rest.map fun v => v.category).sum ≤ 8) (hd : decode (xb Y) pc = .ok (.invokestatic idx, 3)) {g : Option (Int64)} {Kt : (Int64) → Option ρ} (hcon : ∀ a, g = some a → xCt G Y2 As S (some (.long a)) S) (kk : ∀ a, xR G Y em (pc + 3) lv (.long a :: rest) S (Kt a)) : xR G Y em pc lv st0 S (g.bind Kt) := xR_callS (em2 := eml S) pc hcs hl hroom As hn hst hr8 hd hcon kk
theorem xR_callSNi (pc : Nat) {idx n : Nat} {host : String} {Y2 : xY} (hcs : xcs Y2 n) (hl : ((xn Y).cls, idx, xn Y2, host) ∈ xnl) (hroom : xf Y2 + 1 ≤ xf Y ∧ 8 + (xL Y2 + 11) + xo Y2 ≤ xo Y) (As : List Value) {rest st0 : List Value} (hn : As.length = n) (hst : st0 = As.reverse ++ rest) (hr8 : (rest.map fun v => v.category).sum ≤ 8) (hd : decode (xb Y) pc = .ok (.invokestatic idx, 3)) {g : Option (Int32)} {Kt : (Int32) → Option ρ} (hcon : ∀ a, g = some a → xCt G Y2 As S (some (.int a)) S) (kk : ∀ a, xR G Y em (pc + 3) lv (.int a :: rest) S (Kt a)) : xR G Y em pc lv st0 S (g.bind Kt) := xR_callSN (em2 := emi S) pc hcs hl hroom As hn hst hr8 hd hcon kk
theorem xR_callSNl (pc : Nat) {idx n : Nat} {host : String} {Y2 : xY} (hcs : xcs Y2 n) (hl : ((xn Y).cls, idx, xn Y2, host) ∈ xnl) (hroom : xf Y2 + 1 ≤ xf Y ∧ 8 + (xL Y2 + 11) + xo Y2 ≤ xo Y) (As : List Value) {rest st0 : List Value} (hn : As.length = n) (hst : st0 = As.reverse ++ rest) (hr8 : (rest.map fun v => v.category).sum ≤ 8) (hd : decode (xb Y) pc = .ok (.invokestatic idx, 3)) {g : Option (Int64)} {Kt : (Int64) → Option ρ} (hcon : ∀ a, g = some a → xCt G Y2 As S (some (.long a)) S) (kk : ∀ a, xR G Y em (pc + 3) lv (.long a :: rest) S (Kt a)) : xR G Y em pc lv st0 S (g.bind Kt) := xR_callSN (em2 := eml S) pc hcs hl hroom As hn hst hr8 hd hcon kk
end XCALLS
end
