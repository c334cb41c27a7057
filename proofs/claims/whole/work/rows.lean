section
-- ===== PART A: goes FIRST, ahead of the names: the tables' words, and 'selects' of the private methods out of them =====
/-- a private method of a class that the tables say can be made, by its rows of tables_1 -/
def lw_okq (q : MethodName × Nat) : Prop := (q.1.cls ≠ "java/lang/invoke/MethodHandle" ∧ q.1.cls ≠ "java/lang/invoke/VarHandle") ∧ Cond.instantiable q.1.cls q.2 ∈ tables_1 ∧ Cond.privateMethod q.1 ∈ tables_1 ∧ Cond.instanceMethod q.1 ∈ tables_1
theorem lw_p0 : lw_okq (⟨"HouseFiddles$Town", "dryWets", "()V"⟩, 7) := ⟨⟨by decide +kernel, by decide +kernel⟩, List.mem_of_getElem? (i := 27) (by decide +kernel), List.mem_of_getElem? (i := 75) (by decide +kernel), List.mem_of_getElem? (i := 76) (by decide +kernel)⟩
theorem lw_p1 : lw_okq (⟨"HouseFiddles", "bad", "()I"⟩, 16) := ⟨⟨by decide +kernel, by decide +kernel⟩, List.mem_of_getElem? (i := 19) (by decide +kernel), List.mem_of_getElem? (i := 273) (by decide +kernel), List.mem_of_getElem? (i := 274) (by decide +kernel)⟩
theorem lw_p2 : lw_okq (⟨"HouseFiddles", "badAs", "(I)I"⟩, 16) := ⟨⟨by decide +kernel, by decide +kernel⟩, List.mem_of_getElem? (i := 19) (by decide +kernel), List.mem_of_getElem? (i := 277) (by decide +kernel), List.mem_of_getElem? (i := 278) (by decide +kernel)⟩
theorem lw_p3 : lw_okq (⟨"HouseFiddles", "full", "()I"⟩, 16) := ⟨⟨by decide +kernel, by decide +kernel⟩, List.mem_of_getElem? (i := 19) (by decide +kernel), List.mem_of_getElem? (i := 294) (by decide +kernel), List.mem_of_getElem? (i := 295) (by decide +kernel)⟩
theorem lw_p4 : lw_okq (⟨"HouseFiddles$Tokens", "splitOne", "(LHouseFiddles$Table;I)I"⟩, 2) := ⟨⟨by decide +kernel, by decide +kernel⟩, List.mem_of_getElem? (i := 135) (by decide +kernel), List.mem_of_getElem? (i := 359) (by decide +kernel), List.mem_of_getElem? (i := 360) (by decide +kernel)⟩
theorem lw_p5 : lw_okq (⟨"HouseFiddles$Tokens", "add", "(III)V"⟩, 2) := ⟨⟨by decide +kernel, by decide +kernel⟩, List.mem_of_getElem? (i := 135) (by decide +kernel), List.mem_of_getElem? (i := 427) (by decide +kernel), List.mem_of_getElem? (i := 428) (by decide +kernel)⟩
theorem lw_p6 : lw_okq (⟨"HouseFiddles$Reader", "take", "()V"⟩, 5) := ⟨⟨by decide +kernel, by decide +kernel⟩, List.mem_of_getElem? (i := 129) (by decide +kernel), List.mem_of_getElem? (i := 436) (by decide +kernel), List.mem_of_getElem? (i := 437) (by decide +kernel)⟩
theorem lw_p7 : lw_okq (⟨"HouseFiddles$Reader", "readItem", "(Z)Z"⟩, 5) := ⟨⟨by decide +kernel, by decide +kernel⟩, List.mem_of_getElem? (i := 129) (by decide +kernel), List.mem_of_getElem? (i := 445) (by decide +kernel), List.mem_of_getElem? (i := 446) (by decide +kernel)⟩
theorem lw_p8 : lw_okq (⟨"HouseFiddles$Reader", "takeStop", "()Z"⟩, 5) := ⟨⟨by decide +kernel, by decide +kernel⟩, List.mem_of_getElem? (i := 129) (by decide +kernel), List.mem_of_getElem? (i := 449) (by decide +kernel), List.mem_of_getElem? (i := 450) (by decide +kernel)⟩
theorem lw_p9 : lw_okq (⟨"HouseFiddles$Reader", "readWets", "()Z"⟩, 5) := ⟨⟨by decide +kernel, by decide +kernel⟩, List.mem_of_getElem? (i := 129) (by decide +kernel), List.mem_of_getElem? (i := 453) (by decide +kernel), List.mem_of_getElem? (i := 454) (by decide +kernel)⟩
theorem lw_p10 : lw_okq (⟨"HouseFiddles$Reader", "readBoard", "()Z"⟩, 5) := ⟨⟨by decide +kernel, by decide +kernel⟩, List.mem_of_getElem? (i := 129) (by decide +kernel), List.mem_of_getElem? (i := 458) (by decide +kernel), List.mem_of_getElem? (i := 459) (by decide +kernel)⟩
theorem lw_p11 : lw_okq (⟨"HouseFiddles$Reader", "takeNumber", "(II)I"⟩, 5) := ⟨⟨by decide +kernel, by decide +kernel⟩, List.mem_of_getElem? (i := 129) (by decide +kernel), List.mem_of_getElem? (i := 463) (by decide +kernel), List.mem_of_getElem? (i := 464) (by decide +kernel)⟩
theorem lw_p12 : lw_okq (⟨"HouseFiddles$Reader", "readInstrument", "()Z"⟩, 5) := ⟨⟨by decide +kernel, by decide +kernel⟩, List.mem_of_getElem? (i := 129) (by decide +kernel), List.mem_of_getElem? (i := 469) (by decide +kernel), List.mem_of_getElem? (i := 470) (by decide +kernel)⟩
theorem lw_p13 : lw_okq (⟨"HouseFiddles$Reader", "readCut", "()Z"⟩, 5) := ⟨⟨by decide +kernel, by decide +kernel⟩, List.mem_of_getElem? (i := 129) (by decide +kernel), List.mem_of_getElem? (i := 475) (by decide +kernel), List.mem_of_getElem? (i := 476) (by decide +kernel)⟩
theorem lw_p14 : lw_okq (⟨"HouseFiddles$Reader", "readWorm", "()Z"⟩, 5) := ⟨⟨by decide +kernel, by decide +kernel⟩, List.mem_of_getElem? (i := 129) (by decide +kernel), List.mem_of_getElem? (i := 498) (by decide +kernel), List.mem_of_getElem? (i := 499) (by decide +kernel)⟩
theorem lw_p15 : lw_okq (⟨"HouseFiddles$Reader", "readYears", "()Z"⟩, 5) := ⟨⟨by decide +kernel, by decide +kernel⟩, List.mem_of_getElem? (i := 129) (by decide +kernel), List.mem_of_getElem? (i := 502) (by decide +kernel), List.mem_of_getElem? (i := 503) (by decide +kernel)⟩
def lw_privs_1 : List (MethodName × Nat) := [(⟨"HouseFiddles$Town", "dryWets", "()V"⟩, 7), (⟨"HouseFiddles", "bad", "()I"⟩, 16), (⟨"HouseFiddles", "badAs", "(I)I"⟩, 16), (⟨"HouseFiddles", "full", "()I"⟩, 16), (⟨"HouseFiddles$Tokens", "splitOne", "(LHouseFiddles$Table;I)I"⟩, 2), (⟨"HouseFiddles$Tokens", "add", "(III)V"⟩, 2), (⟨"HouseFiddles$Reader", "take", "()V"⟩, 5), (⟨"HouseFiddles$Reader", "readItem", "(Z)Z"⟩, 5), (⟨"HouseFiddles$Reader", "takeStop", "()Z"⟩, 5), (⟨"HouseFiddles$Reader", "readWets", "()Z"⟩, 5), (⟨"HouseFiddles$Reader", "readBoard", "()Z"⟩, 5), (⟨"HouseFiddles$Reader", "takeNumber", "(II)I"⟩, 5), (⟨"HouseFiddles$Reader", "readInstrument", "()Z"⟩, 5), (⟨"HouseFiddles$Reader", "readCut", "()Z"⟩, 5), (⟨"HouseFiddles$Reader", "readWorm", "()Z"⟩, 5), (⟨"HouseFiddles$Reader", "readYears", "()Z"⟩, 5)]
theorem lw_r1 : ∀ q ∈ lw_privs_1, lw_okq q := List.forall_mem_cons.mpr ⟨lw_p0, List.forall_mem_cons.mpr ⟨lw_p1, List.forall_mem_cons.mpr ⟨lw_p2, List.forall_mem_cons.mpr ⟨lw_p3, List.forall_mem_cons.mpr ⟨lw_p4, List.forall_mem_cons.mpr ⟨lw_p5, List.forall_mem_cons.mpr ⟨lw_p6, List.forall_mem_cons.mpr ⟨lw_p7, List.forall_mem_cons.mpr ⟨lw_p8, List.forall_mem_cons.mpr ⟨lw_p9, List.forall_mem_cons.mpr ⟨lw_p10, List.forall_mem_cons.mpr ⟨lw_p11, List.forall_mem_cons.mpr ⟨lw_p12, List.forall_mem_cons.mpr ⟨lw_p13, List.forall_mem_cons.mpr ⟨lw_p14, List.forall_mem_cons.mpr ⟨lw_p15, fun _ h => absurd h List.not_mem_nil⟩⟩⟩⟩⟩⟩⟩⟩⟩⟩⟩⟩⟩⟩⟩⟩
theorem lw_p16 : lw_okq (⟨"HouseFiddles$Boards", "wormyNext", "()I"⟩, 2) := ⟨⟨by decide +kernel, by decide +kernel⟩, List.mem_of_getElem? (i := 33) (by decide +kernel), List.mem_of_getElem? (i := 514) (by decide +kernel), List.mem_of_getElem? (i := 515) (by decide +kernel)⟩
theorem lw_p17 : lw_okq (⟨"HouseFiddles", "no", "()I"⟩, 16) := ⟨⟨by decide +kernel, by decide +kernel⟩, List.mem_of_getElem? (i := 19) (by decide +kernel), List.mem_of_getElem? (i := 580) (by decide +kernel), List.mem_of_getElem? (i := 581) (by decide +kernel)⟩
theorem lw_p18 : lw_okq (⟨"HouseFiddles", "playDried", "(III)I"⟩, 16) := ⟨⟨by decide +kernel, by decide +kernel⟩, List.mem_of_getElem? (i := 19) (by decide +kernel), List.mem_of_getElem? (i := 709) (by decide +kernel), List.mem_of_getElem? (i := 710) (by decide +kernel)⟩
theorem lw_p19 : lw_okq (⟨"HouseFiddles$Maker", "mostWithShare", "(II)I"⟩, 5) := ⟨⟨by decide +kernel, by decide +kernel⟩, List.mem_of_getElem? (i := 170) (by decide +kernel), List.mem_of_getElem? (i := 740) (by decide +kernel), List.mem_of_getElem? (i := 741) (by decide +kernel)⟩
theorem lw_p20 : lw_okq (⟨"HouseFiddles$Maker", "firstPlace", "(III)I"⟩, 5) := ⟨⟨by decide +kernel, by decide +kernel⟩, List.mem_of_getElem? (i := 170) (by decide +kernel), List.mem_of_getElem? (i := 753) (by decide +kernel), List.mem_of_getElem? (i := 754) (by decide +kernel)⟩
theorem lw_p21 : lw_okq (⟨"HouseFiddles", "areFriends", "(I)Z"⟩, 16) := ⟨⟨by decide +kernel, by decide +kernel⟩, List.mem_of_getElem? (i := 19) (by decide +kernel), List.mem_of_getElem? (i := 773) (by decide +kernel), List.mem_of_getElem? (i := 774) (by decide +kernel)⟩
theorem lw_p22 : lw_okq (⟨"HouseFiddles$Town", "soundsAsHeard", "(I)Z"⟩, 7) := ⟨⟨by decide +kernel, by decide +kernel⟩, List.mem_of_getElem? (i := 27) (by decide +kernel), List.mem_of_getElem? (i := 790) (by decide +kernel), List.mem_of_getElem? (i := 791) (by decide +kernel)⟩
theorem lw_p23 : lw_okq (⟨"HouseFiddles", "mostAlike", "(I)I"⟩, 16) := ⟨⟨by decide +kernel, by decide +kernel⟩, List.mem_of_getElem? (i := 19) (by decide +kernel), List.mem_of_getElem? (i := 798) (by decide +kernel), List.mem_of_getElem? (i := 799) (by decide +kernel)⟩
theorem lw_p24 : lw_okq (⟨"HouseFiddles", "manyLike", "(II)I"⟩, 16) := ⟨⟨by decide +kernel, by decide +kernel⟩, List.mem_of_getElem? (i := 19) (by decide +kernel), List.mem_of_getElem? (i := 802) (by decide +kernel), List.mem_of_getElem? (i := 803) (by decide +kernel)⟩
theorem lw_p25 : lw_okq (⟨"HouseFiddles$Town", "soundsAsNoted", "(II)Z"⟩, 7) := ⟨⟨by decide +kernel, by decide +kernel⟩, List.mem_of_getElem? (i := 27) (by decide +kernel), List.mem_of_getElem? (i := 826) (by decide +kernel), List.mem_of_getElem? (i := 827) (by decide +kernel)⟩
theorem lw_p26 : lw_okq (⟨"HouseFiddles$Town", "playsAsMarked", "(II)Z"⟩, 7) := ⟨⟨by decide +kernel, by decide +kernel⟩, List.mem_of_getElem? (i := 27) (by decide +kernel), List.mem_of_getElem? (i := 844) (by decide +kernel), List.mem_of_getElem? (i := 845) (by decide +kernel)⟩
theorem lw_p27 : lw_okq (⟨"HouseFiddles", "mostAlikeAsked", "(IIII)I"⟩, 16) := ⟨⟨by decide +kernel, by decide +kernel⟩, List.mem_of_getElem? (i := 19) (by decide +kernel), List.mem_of_getElem? (i := 852) (by decide +kernel), List.mem_of_getElem? (i := 853) (by decide +kernel)⟩
theorem lw_p28 : lw_okq (⟨"HouseFiddles", "playWeeping", "(III)I"⟩, 16) := ⟨⟨by decide +kernel, by decide +kernel⟩, List.mem_of_getElem? (i := 19) (by decide +kernel), List.mem_of_getElem? (i := 878) (by decide +kernel), List.mem_of_getElem? (i := 879) (by decide +kernel)⟩
theorem lw_p29 : lw_okq (⟨"HouseFiddles", "keepFraction", "(JJ)V"⟩, 16) := ⟨⟨by decide +kernel, by decide +kernel⟩, List.mem_of_getElem? (i := 19) (by decide +kernel), List.mem_of_getElem? (i := 884) (by decide +kernel), List.mem_of_getElem? (i := 885) (by decide +kernel)⟩
theorem lw_p30 : lw_okq (⟨"HouseFiddlesModel", "empties", "(I)V"⟩, 13) := ⟨⟨by decide +kernel, by decide +kernel⟩, List.mem_of_getElem? (i := 939) (by decide +kernel), List.mem_of_getElem? (i := 990) (by decide +kernel), List.mem_of_getElem? (i := 991) (by decide +kernel)⟩
theorem lw_p31 : lw_okq (⟨"HouseFiddlesModel", "bad", "(I)I"⟩, 13) := ⟨⟨by decide +kernel, by decide +kernel⟩, List.mem_of_getElem? (i := 939) (by decide +kernel), List.mem_of_getElem? (i := 1002) (by decide +kernel), List.mem_of_getElem? (i := 1003) (by decide +kernel)⟩
def lw_privs_2 : List (MethodName × Nat) := [(⟨"HouseFiddles$Boards", "wormyNext", "()I"⟩, 2), (⟨"HouseFiddles", "no", "()I"⟩, 16), (⟨"HouseFiddles", "playDried", "(III)I"⟩, 16), (⟨"HouseFiddles$Maker", "mostWithShare", "(II)I"⟩, 5), (⟨"HouseFiddles$Maker", "firstPlace", "(III)I"⟩, 5), (⟨"HouseFiddles", "areFriends", "(I)Z"⟩, 16), (⟨"HouseFiddles$Town", "soundsAsHeard", "(I)Z"⟩, 7), (⟨"HouseFiddles", "mostAlike", "(I)I"⟩, 16), (⟨"HouseFiddles", "manyLike", "(II)I"⟩, 16), (⟨"HouseFiddles$Town", "soundsAsNoted", "(II)Z"⟩, 7), (⟨"HouseFiddles$Town", "playsAsMarked", "(II)Z"⟩, 7), (⟨"HouseFiddles", "mostAlikeAsked", "(IIII)I"⟩, 16), (⟨"HouseFiddles", "playWeeping", "(III)I"⟩, 16), (⟨"HouseFiddles", "keepFraction", "(JJ)V"⟩, 16), (⟨"HouseFiddlesModel", "empties", "(I)V"⟩, 13), (⟨"HouseFiddlesModel", "bad", "(I)I"⟩, 13)]
theorem lw_r2 : ∀ q ∈ lw_privs_2, lw_okq q := List.forall_mem_cons.mpr ⟨lw_p16, List.forall_mem_cons.mpr ⟨lw_p17, List.forall_mem_cons.mpr ⟨lw_p18, List.forall_mem_cons.mpr ⟨lw_p19, List.forall_mem_cons.mpr ⟨lw_p20, List.forall_mem_cons.mpr ⟨lw_p21, List.forall_mem_cons.mpr ⟨lw_p22, List.forall_mem_cons.mpr ⟨lw_p23, List.forall_mem_cons.mpr ⟨lw_p24, List.forall_mem_cons.mpr ⟨lw_p25, List.forall_mem_cons.mpr ⟨lw_p26, List.forall_mem_cons.mpr ⟨lw_p27, List.forall_mem_cons.mpr ⟨lw_p28, List.forall_mem_cons.mpr ⟨lw_p29, List.forall_mem_cons.mpr ⟨lw_p30, List.forall_mem_cons.mpr ⟨lw_p31, fun _ h => absurd h List.not_mem_nil⟩⟩⟩⟩⟩⟩⟩⟩⟩⟩⟩⟩⟩⟩⟩⟩
theorem lw_p32 : lw_okq (⟨"HouseFiddlesModel", "full", "()I"⟩, 13) := ⟨⟨by decide +kernel, by decide +kernel⟩, List.mem_of_getElem? (i := 939) (by decide +kernel), List.mem_of_getElem? (i := 1014) (by decide +kernel), List.mem_of_getElem? (i := 1015) (by decide +kernel)⟩
theorem lw_p33 : lw_okq (⟨"HouseFiddlesModel", "adds", "(IIIII)V"⟩, 13) := ⟨⟨by decide +kernel, by decide +kernel⟩, List.mem_of_getElem? (i := 939) (by decide +kernel), List.mem_of_getElem? (i := 1018) (by decide +kernel), List.mem_of_getElem? (i := 1019) (by decide +kernel)⟩
theorem lw_p34 : lw_okq (⟨"HouseFiddlesModel", "isBoard", "(I)Z"⟩, 13) := ⟨⟨by decide +kernel, by decide +kernel⟩, List.mem_of_getElem? (i := 939) (by decide +kernel), List.mem_of_getElem? (i := 1030) (by decide +kernel), List.mem_of_getElem? (i := 1031) (by decide +kernel)⟩
theorem lw_p35 : lw_okq (⟨"HouseFiddlesModel", "blanks", "()V"⟩, 13) := ⟨⟨by decide +kernel, by decide +kernel⟩, List.mem_of_getElem? (i := 939) (by decide +kernel), List.mem_of_getElem? (i := 1047) (by decide +kernel), List.mem_of_getElem? (i := 1048) (by decide +kernel)⟩
theorem lw_p36 : lw_okq (⟨"HouseFiddlesModel", "byteAt", "(I)I"⟩, 13) := ⟨⟨by decide +kernel, by decide +kernel⟩, List.mem_of_getElem? (i := 939) (by decide +kernel), List.mem_of_getElem? (i := 1051) (by decide +kernel), List.mem_of_getElem? (i := 1052) (by decide +kernel)⟩
theorem lw_p37 : lw_okq (⟨"HouseFiddlesModel", "readsItem", "(Z)Z"⟩, 13) := ⟨⟨by decide +kernel, by decide +kernel⟩, List.mem_of_getElem? (i := 939) (by decide +kernel), List.mem_of_getElem? (i := 1055) (by decide +kernel), List.mem_of_getElem? (i := 1056) (by decide +kernel)⟩
theorem lw_p38 : lw_okq (⟨"HouseFiddlesModel", "takesWord", "()V"⟩, 13) := ⟨⟨by decide +kernel, by decide +kernel⟩, List.mem_of_getElem? (i := 939) (by decide +kernel), List.mem_of_getElem? (i := 1059) (by decide +kernel), List.mem_of_getElem? (i := 1060) (by decide +kernel)⟩
theorem lw_p39 : lw_okq (⟨"HouseFiddlesModel", "wordOf", "()I"⟩, 13) := ⟨⟨by decide +kernel, by decide +kernel⟩, List.mem_of_getElem? (i := 939) (by decide +kernel), List.mem_of_getElem? (i := 1065) (by decide +kernel), List.mem_of_getElem? (i := 1066) (by decide +kernel)⟩
theorem lw_p40 : lw_okq (⟨"HouseFiddlesModel", "isWord", "(IIIIIII)Z"⟩, 13) := ⟨⟨by decide +kernel, by decide +kernel⟩, List.mem_of_getElem? (i := 939) (by decide +kernel), List.mem_of_getElem? (i := 1069) (by decide +kernel), List.mem_of_getElem? (i := 1070) (by decide +kernel)⟩
theorem lw_p41 : lw_okq (⟨"HouseFiddlesModel", "isLetter", "(III)Z"⟩, 13) := ⟨⟨by decide +kernel, by decide +kernel⟩, List.mem_of_getElem? (i := 939) (by decide +kernel), List.mem_of_getElem? (i := 1073) (by decide +kernel), List.mem_of_getElem? (i := 1074) (by decide +kernel)⟩
theorem lw_p42 : lw_okq (⟨"HouseFiddlesModel", "readsWet", "()Z"⟩, 13) := ⟨⟨by decide +kernel, by decide +kernel⟩, List.mem_of_getElem? (i := 939) (by decide +kernel), List.mem_of_getElem? (i := 1077) (by decide +kernel), List.mem_of_getElem? (i := 1078) (by decide +kernel)⟩
theorem lw_p43 : lw_okq (⟨"HouseFiddlesModel", "takesNumber", "(II)Z"⟩, 13) := ⟨⟨by decide +kernel, by decide +kernel⟩, List.mem_of_getElem? (i := 939) (by decide +kernel), List.mem_of_getElem? (i := 1081) (by decide +kernel), List.mem_of_getElem? (i := 1082) (by decide +kernel)⟩
theorem lw_p44 : lw_okq (⟨"HouseFiddlesModel", "readsBoard", "()Z"⟩, 13) := ⟨⟨by decide +kernel, by decide +kernel⟩, List.mem_of_getElem? (i := 939) (by decide +kernel), List.mem_of_getElem? (i := 1088) (by decide +kernel), List.mem_of_getElem? (i := 1089) (by decide +kernel)⟩
theorem lw_p45 : lw_okq (⟨"HouseFiddlesModel", "readsMake", "()Z"⟩, 13) := ⟨⟨by decide +kernel, by decide +kernel⟩, List.mem_of_getElem? (i := 939) (by decide +kernel), List.mem_of_getElem? (i := 1092) (by decide +kernel), List.mem_of_getElem? (i := 1093) (by decide +kernel)⟩
theorem lw_p46 : lw_okq (⟨"HouseFiddlesModel", "readsCut", "()Z"⟩, 13) := ⟨⟨by decide +kernel, by decide +kernel⟩, List.mem_of_getElem? (i := 939) (by decide +kernel), List.mem_of_getElem? (i := 1096) (by decide +kernel), List.mem_of_getElem? (i := 1097) (by decide +kernel)⟩
theorem lw_p47 : lw_okq (⟨"HouseFiddlesModel", "boardsOf", "(II)I"⟩, 13) := ⟨⟨by decide +kernel, by decide +kernel⟩, List.mem_of_getElem? (i := 939) (by decide +kernel), List.mem_of_getElem? (i := 1100) (by decide +kernel), List.mem_of_getElem? (i := 1101) (by decide +kernel)⟩
def lw_privs_3 : List (MethodName × Nat) := [(⟨"HouseFiddlesModel", "full", "()I"⟩, 13), (⟨"HouseFiddlesModel", "adds", "(IIIII)V"⟩, 13), (⟨"HouseFiddlesModel", "isBoard", "(I)Z"⟩, 13), (⟨"HouseFiddlesModel", "blanks", "()V"⟩, 13), (⟨"HouseFiddlesModel", "byteAt", "(I)I"⟩, 13), (⟨"HouseFiddlesModel", "readsItem", "(Z)Z"⟩, 13), (⟨"HouseFiddlesModel", "takesWord", "()V"⟩, 13), (⟨"HouseFiddlesModel", "wordOf", "()I"⟩, 13), (⟨"HouseFiddlesModel", "isWord", "(IIIIIII)Z"⟩, 13), (⟨"HouseFiddlesModel", "isLetter", "(III)Z"⟩, 13), (⟨"HouseFiddlesModel", "readsWet", "()Z"⟩, 13), (⟨"HouseFiddlesModel", "takesNumber", "(II)Z"⟩, 13), (⟨"HouseFiddlesModel", "readsBoard", "()Z"⟩, 13), (⟨"HouseFiddlesModel", "readsMake", "()Z"⟩, 13), (⟨"HouseFiddlesModel", "readsCut", "()Z"⟩, 13), (⟨"HouseFiddlesModel", "boardsOf", "(II)I"⟩, 13)]
theorem lw_r3 : ∀ q ∈ lw_privs_3, lw_okq q := List.forall_mem_cons.mpr ⟨lw_p32, List.forall_mem_cons.mpr ⟨lw_p33, List.forall_mem_cons.mpr ⟨lw_p34, List.forall_mem_cons.mpr ⟨lw_p35, List.forall_mem_cons.mpr ⟨lw_p36, List.forall_mem_cons.mpr ⟨lw_p37, List.forall_mem_cons.mpr ⟨lw_p38, List.forall_mem_cons.mpr ⟨lw_p39, List.forall_mem_cons.mpr ⟨lw_p40, List.forall_mem_cons.mpr ⟨lw_p41, List.forall_mem_cons.mpr ⟨lw_p42, List.forall_mem_cons.mpr ⟨lw_p43, List.forall_mem_cons.mpr ⟨lw_p44, List.forall_mem_cons.mpr ⟨lw_p45, List.forall_mem_cons.mpr ⟨lw_p46, List.forall_mem_cons.mpr ⟨lw_p47, fun _ h => absurd h List.not_mem_nil⟩⟩⟩⟩⟩⟩⟩⟩⟩⟩⟩⟩⟩⟩⟩⟩
theorem lw_p48 : lw_okq (⟨"HouseFiddlesModel", "readsWorm", "()Z"⟩, 13) := ⟨⟨by decide +kernel, by decide +kernel⟩, List.mem_of_getElem? (i := 939) (by decide +kernel), List.mem_of_getElem? (i := 1104) (by decide +kernel), List.mem_of_getElem? (i := 1105) (by decide +kernel)⟩
theorem lw_p49 : lw_okq (⟨"HouseFiddlesModel", "readsYears", "()Z"⟩, 13) := ⟨⟨by decide +kernel, by decide +kernel⟩, List.mem_of_getElem? (i := 939) (by decide +kernel), List.mem_of_getElem? (i := 1108) (by decide +kernel), List.mem_of_getElem? (i := 1109) (by decide +kernel)⟩
theorem lw_p50 : lw_okq (⟨"HouseFiddlesModel", "passes", "(I)V"⟩, 13) := ⟨⟨by decide +kernel, by decide +kernel⟩, List.mem_of_getElem? (i := 939) (by decide +kernel), List.mem_of_getElem? (i := 1112) (by decide +kernel), List.mem_of_getElem? (i := 1113) (by decide +kernel)⟩
theorem lw_p51 : lw_okq (⟨"HouseFiddlesModel", "takesEnd", "()Z"⟩, 13) := ⟨⟨by decide +kernel, by decide +kernel⟩, List.mem_of_getElem? (i := 939) (by decide +kernel), List.mem_of_getElem? (i := 1116) (by decide +kernel), List.mem_of_getElem? (i := 1117) (by decide +kernel)⟩
theorem lw_p52 : lw_okq (⟨"HouseFiddlesModel", "copy", "(II)V"⟩, 13) := ⟨⟨by decide +kernel, by decide +kernel⟩, List.mem_of_getElem? (i := 939) (by decide +kernel), List.mem_of_getElem? (i := 1120) (by decide +kernel), List.mem_of_getElem? (i := 1121) (by decide +kernel)⟩
theorem lw_p53 : lw_okq (⟨"HouseFiddlesModel", "minds", "()V"⟩, 13) := ⟨⟨by decide +kernel, by decide +kernel⟩, List.mem_of_getElem? (i := 939) (by decide +kernel), List.mem_of_getElem? (i := 1129) (by decide +kernel), List.mem_of_getElem? (i := 1130) (by decide +kernel)⟩
theorem lw_p54 : lw_okq (⟨"HouseFiddlesModel", "sumOf", "(I)I"⟩, 13) := ⟨⟨by decide +kernel, by decide +kernel⟩, List.mem_of_getElem? (i := 939) (by decide +kernel), List.mem_of_getElem? (i := 1133) (by decide +kernel), List.mem_of_getElem? (i := 1134) (by decide +kernel)⟩
theorem lw_p55 : lw_okq (⟨"HouseFiddlesModel", "isInstrument", "(I)Z"⟩, 13) := ⟨⟨by decide +kernel, by decide +kernel⟩, List.mem_of_getElem? (i := 939) (by decide +kernel), List.mem_of_getElem? (i := 1141) (by decide +kernel), List.mem_of_getElem? (i := 1142) (by decide +kernel)⟩
theorem lw_p56 : lw_okq (⟨"HouseFiddlesModel", "no", "()I"⟩, 13) := ⟨⟨by decide +kernel, by decide +kernel⟩, List.mem_of_getElem? (i := 939) (by decide +kernel), List.mem_of_getElem? (i := 1145) (by decide +kernel), List.mem_of_getElem? (i := 1146) (by decide +kernel)⟩
theorem lw_p57 : lw_okq (⟨"HouseFiddlesModel", "ofBoard", "(II)I"⟩, 13) := ⟨⟨by decide +kernel, by decide +kernel⟩, List.mem_of_getElem? (i := 939) (by decide +kernel), List.mem_of_getElem? (i := 1168) (by decide +kernel), List.mem_of_getElem? (i := 1169) (by decide +kernel)⟩
theorem lw_p58 : lw_okq (⟨"HouseFiddlesModel", "housesOf", "(II)I"⟩, 13) := ⟨⟨by decide +kernel, by decide +kernel⟩, List.mem_of_getElem? (i := 939) (by decide +kernel), List.mem_of_getElem? (i := 1176) (by decide +kernel), List.mem_of_getElem? (i := 1177) (by decide +kernel)⟩
theorem lw_p59 : lw_okq (⟨"HouseFiddlesModel", "soundsIn", "(III)I"⟩, 13) := ⟨⟨by decide +kernel, by decide +kernel⟩, List.mem_of_getElem? (i := 939) (by decide +kernel), List.mem_of_getElem? (i := 1190) (by decide +kernel), List.mem_of_getElem? (i := 1191) (by decide +kernel)⟩
theorem lw_p60 : lw_okq (⟨"HouseFiddlesModel", "playsIn", "(III)I"⟩, 13) := ⟨⟨by decide +kernel, by decide +kernel⟩, List.mem_of_getElem? (i := 939) (by decide +kernel), List.mem_of_getElem? (i := 1210) (by decide +kernel), List.mem_of_getElem? (i := 1211) (by decide +kernel)⟩
theorem lw_p61 : lw_okq (⟨"HouseFiddlesModel", "tries", "()V"⟩, 13) := ⟨⟨by decide +kernel, by decide +kernel⟩, List.mem_of_getElem? (i := 939) (by decide +kernel), List.mem_of_getElem? (i := 1224) (by decide +kernel), List.mem_of_getElem? (i := 1225) (by decide +kernel)⟩
theorem lw_p62 : lw_okq (⟨"HouseFiddlesModel", "freeOnes", "()I"⟩, 13) := ⟨⟨by decide +kernel, by decide +kernel⟩, List.mem_of_getElem? (i := 939) (by decide +kernel), List.mem_of_getElem? (i := 1241) (by decide +kernel), List.mem_of_getElem? (i := 1242) (by decide +kernel)⟩
theorem lw_p63 : lw_okq (⟨"HouseFiddlesModel", "hasRoom", "()Z"⟩, 13) := ⟨⟨by decide +kernel, by decide +kernel⟩, List.mem_of_getElem? (i := 939) (by decide +kernel), List.mem_of_getElem? (i := 1252) (by decide +kernel), List.mem_of_getElem? (i := 1253) (by decide +kernel)⟩
def lw_privs_4 : List (MethodName × Nat) := [(⟨"HouseFiddlesModel", "readsWorm", "()Z"⟩, 13), (⟨"HouseFiddlesModel", "readsYears", "()Z"⟩, 13), (⟨"HouseFiddlesModel", "passes", "(I)V"⟩, 13), (⟨"HouseFiddlesModel", "takesEnd", "()Z"⟩, 13), (⟨"HouseFiddlesModel", "copy", "(II)V"⟩, 13), (⟨"HouseFiddlesModel", "minds", "()V"⟩, 13), (⟨"HouseFiddlesModel", "sumOf", "(I)I"⟩, 13), (⟨"HouseFiddlesModel", "isInstrument", "(I)Z"⟩, 13), (⟨"HouseFiddlesModel", "no", "()I"⟩, 13), (⟨"HouseFiddlesModel", "ofBoard", "(II)I"⟩, 13), (⟨"HouseFiddlesModel", "housesOf", "(II)I"⟩, 13), (⟨"HouseFiddlesModel", "soundsIn", "(III)I"⟩, 13), (⟨"HouseFiddlesModel", "playsIn", "(III)I"⟩, 13), (⟨"HouseFiddlesModel", "tries", "()V"⟩, 13), (⟨"HouseFiddlesModel", "freeOnes", "()I"⟩, 13), (⟨"HouseFiddlesModel", "hasRoom", "()Z"⟩, 13)]
theorem lw_r4 : ∀ q ∈ lw_privs_4, lw_okq q := List.forall_mem_cons.mpr ⟨lw_p48, List.forall_mem_cons.mpr ⟨lw_p49, List.forall_mem_cons.mpr ⟨lw_p50, List.forall_mem_cons.mpr ⟨lw_p51, List.forall_mem_cons.mpr ⟨lw_p52, List.forall_mem_cons.mpr ⟨lw_p53, List.forall_mem_cons.mpr ⟨lw_p54, List.forall_mem_cons.mpr ⟨lw_p55, List.forall_mem_cons.mpr ⟨lw_p56, List.forall_mem_cons.mpr ⟨lw_p57, List.forall_mem_cons.mpr ⟨lw_p58, List.forall_mem_cons.mpr ⟨lw_p59, List.forall_mem_cons.mpr ⟨lw_p60, List.forall_mem_cons.mpr ⟨lw_p61, List.forall_mem_cons.mpr ⟨lw_p62, List.forall_mem_cons.mpr ⟨lw_p63, fun _ h => absurd h List.not_mem_nil⟩⟩⟩⟩⟩⟩⟩⟩⟩⟩⟩⟩⟩⟩⟩⟩
theorem lw_p64 : lw_okq (⟨"HouseFiddlesModel", "poorest", "(I)I"⟩, 13) := ⟨⟨by decide +kernel, by decide +kernel⟩, List.mem_of_getElem? (i := 939) (by decide +kernel), List.mem_of_getElem? (i := 1256) (by decide +kernel), List.mem_of_getElem? (i := 1257) (by decide +kernel)⟩
theorem lw_p65 : lw_okq (⟨"HouseFiddlesModel", "areNear", "(III)Z"⟩, 13) := ⟨⟨by decide +kernel, by decide +kernel⟩, List.mem_of_getElem? (i := 939) (by decide +kernel), List.mem_of_getElem? (i := 1265) (by decide +kernel), List.mem_of_getElem? (i := 1266) (by decide +kernel)⟩
theorem lw_p66 : lw_okq (⟨"HouseFiddlesModel", "greatest", "(I)I"⟩, 13) := ⟨⟨by decide +kernel, by decide +kernel⟩, List.mem_of_getElem? (i := 939) (by decide +kernel), List.mem_of_getElem? (i := 1287) (by decide +kernel), List.mem_of_getElem? (i := 1288) (by decide +kernel)⟩
theorem lw_p67 : lw_okq (⟨"HouseFiddlesModel", "kindsOf", "(I)I"⟩, 13) := ⟨⟨by decide +kernel, by decide +kernel⟩, List.mem_of_getElem? (i := 939) (by decide +kernel), List.mem_of_getElem? (i := 1308) (by decide +kernel), List.mem_of_getElem? (i := 1309) (by decide +kernel)⟩
theorem lw_p68 : lw_okq (⟨"HouseFiddlesModel", "instrumentsOf", "(I)I"⟩, 13) := ⟨⟨by decide +kernel, by decide +kernel⟩, List.mem_of_getElem? (i := 939) (by decide +kernel), List.mem_of_getElem? (i := 1320) (by decide +kernel), List.mem_of_getElem? (i := 1321) (by decide +kernel)⟩
theorem lw_p69 : lw_okq (⟨"HouseFiddlesModel", "countOf", "(I)I"⟩, 13) := ⟨⟨by decide +kernel, by decide +kernel⟩, List.mem_of_getElem? (i := 939) (by decide +kernel), List.mem_of_getElem? (i := 1373) (by decide +kernel), List.mem_of_getElem? (i := 1374) (by decide +kernel)⟩
theorem lw_p70 : lw_okq (⟨"HouseFiddlesModel", "mix", "(J)V"⟩, 13) := ⟨⟨by decide +kernel, by decide +kernel⟩, List.mem_of_getElem? (i := 939) (by decide +kernel), List.mem_of_getElem? (i := 1382) (by decide +kernel), List.mem_of_getElem? (i := 1383) (by decide +kernel)⟩
def lw_privs_5 : List (MethodName × Nat) := [(⟨"HouseFiddlesModel", "poorest", "(I)I"⟩, 13), (⟨"HouseFiddlesModel", "areNear", "(III)Z"⟩, 13), (⟨"HouseFiddlesModel", "greatest", "(I)I"⟩, 13), (⟨"HouseFiddlesModel", "kindsOf", "(I)I"⟩, 13), (⟨"HouseFiddlesModel", "instrumentsOf", "(I)I"⟩, 13), (⟨"HouseFiddlesModel", "countOf", "(I)I"⟩, 13), (⟨"HouseFiddlesModel", "mix", "(J)V"⟩, 13)]
theorem lw_r5 : ∀ q ∈ lw_privs_5, lw_okq q := List.forall_mem_cons.mpr ⟨lw_p64, List.forall_mem_cons.mpr ⟨lw_p65, List.forall_mem_cons.mpr ⟨lw_p66, List.forall_mem_cons.mpr ⟨lw_p67, List.forall_mem_cons.mpr ⟨lw_p68, List.forall_mem_cons.mpr ⟨lw_p69, List.forall_mem_cons.mpr ⟨lw_p70, fun _ h => absurd h List.not_mem_nil⟩⟩⟩⟩⟩⟩⟩
def lw_privs : List (MethodName × Nat) := lw_privs_1 ++ (lw_privs_2 ++ (lw_privs_3 ++ (lw_privs_4 ++ (lw_privs_5))))
def lw_tbl : List Cond := k2_sels lw_privs ++ tables_1
theorem lw_privs_ok : ∀ q ∈ lw_privs, lw_okq q := by
  show ∀ q ∈ lw_privs_1 ++ (lw_privs_2 ++ (lw_privs_3 ++ (lw_privs_4 ++ (lw_privs_5)))), lw_okq q
  exact List.forall_mem_append.mpr ⟨lw_r1, List.forall_mem_append.mpr ⟨lw_r2, List.forall_mem_append.mpr ⟨lw_r3, List.forall_mem_append.mpr ⟨lw_r4, lw_r5⟩⟩⟩⟩
/-- those words of the tables that stay over a call -/
def lw_tb : List Cond := lw_tbl.filter goodWord
theorem lw_tb_of {w : Cond} (h : w ∈ lw_tbl) (hg : goodWord w = true) : w ∈ lw_tb := List.mem_filter.mpr ⟨h, hg⟩
theorem lw_tb_at {w : Cond} (i : Nat) (h : tables_1[i]? = some w) (hg : goodWord w = true) : w ∈ lw_tb := lw_tb_of (List.mem_append_right _ (List.mem_of_getElem? h)) hg
theorem lw_tb_sel {w : Cond} (i : Nat) (h : (k2_sels lw_privs)[i]? = some w) (hg : goodWord w = true) : w ∈ lw_tb := lw_tb_of (List.mem_append_left _ (List.mem_of_getElem? h)) hg
theorem lw_tb_good : ∀ w ∈ lw_tb, goodWord w = true := fun _ hw => (List.mem_filter.mp hw).2
end
section
/-! names of the classes, their fields in the order of the slots (declaring class, name, descriptor, final), their types: rows printed from the class files -/
def RX0 : String := "HouseFiddles$Boards"
def TX0 : u_T := fun k => match k with
  | 0 => ("HouseFiddles$Boards", "cells", "LHouseFiddles$Table;", true)
  | _ => ("HouseFiddles$Boards", "year", "I", false)
def tyX0 : Nat → FieldType := fun k => match k with
  | 0 => .object "HouseFiddles$Table"
  | _ => .int
theorem nmX0 : ∀ a, a < 2 → ∀ b, b < 2 → a ≠ b → (TX0 a).2.1 ≠ (TX0 b).2.1 := by decide +kernel
theorem tyX0_ok : ∀ k, k < 2 → parseFieldDescriptor (TX0 k).2.2.1 = some (tyX0 k) := by decide +kernel
def RX1 : String := "HouseFiddles$Maker"
def TX1 : u_T := fun k => match k with
  | 0 => ("HouseFiddles$Maker", "played", "LHouseFiddles$Table;", true)
  | 1 => ("HouseFiddles$Maker", "reached", "LHouseFiddles$Table;", true)
  | 2 => ("HouseFiddles$Maker", "given", "LHouseFiddles$Table;", true)
  | 3 => ("HouseFiddles$Maker", "instruments", "I", false)
  | _ => ("HouseFiddles$Maker", "free", "I", false)
def tyX1 : Nat → FieldType := fun k => match k with
  | 0 => .object "HouseFiddles$Table"
  | 1 => .object "HouseFiddles$Table"
  | 2 => .object "HouseFiddles$Table"
  | 3 => .int
  | _ => .int
theorem nmX1 : ∀ a, a < 5 → ∀ b, b < 5 → a ≠ b → (TX1 a).2.1 ≠ (TX1 b).2.1 := by decide +kernel
theorem tyX1_ok : ∀ k, k < 5 → parseFieldDescriptor (TX1 k).2.2.1 = some (tyX1 k) := by decide +kernel
def RX2 : String := "HouseFiddles$Reader"
def TX2 : u_T := fun k => match k with
  | 0 => ("HouseFiddles$Reader", "tokens", "LHouseFiddles$Tokens;", true)
  | 1 => ("HouseFiddles$Reader", "town", "LHouseFiddles$Town;", true)
  | 2 => ("HouseFiddles$Reader", "sort", "I", false)
  | 3 => ("HouseFiddles$Reader", "start", "I", false)
  | _ => ("HouseFiddles$Reader", "value", "I", false)
def tyX2 : Nat → FieldType := fun k => match k with
  | 0 => .object "HouseFiddles$Tokens"
  | 1 => .object "HouseFiddles$Town"
  | 2 => .int
  | 3 => .int
  | _ => .int
theorem nmX2 : ∀ a, a < 5 → ∀ b, b < 5 → a ≠ b → (TX2 a).2.1 ≠ (TX2 b).2.1 := by decide +kernel
theorem tyX2_ok : ∀ k, k < 5 → parseFieldDescriptor (TX2 k).2.2.1 = some (tyX2 k) := by decide +kernel
def RX3 : String := "HouseFiddles$Strings"
def TX3 : u_T := fun k => match k with
  | _ => ("", "", "", false)
def tyX3 : Nat → FieldType := fun k => match k with
  | _ => .int
theorem nmX3 : ∀ a, a < 0 → ∀ b, b < 0 → a ≠ b → (TX3 a).2.1 ≠ (TX3 b).2.1 := by decide +kernel
theorem tyX3_ok : ∀ k, k < 0 → parseFieldDescriptor (TX3 k).2.2.1 = some (tyX3 k) := by decide +kernel
def RX4 : String := "HouseFiddles$Table"
def TX4 : u_T := fun k => match k with
  | 0 => ("HouseFiddles$Table", "rows", "I", true)
  | 1 => ("HouseFiddles$Table", "width", "I", true)
  | 2 => ("HouseFiddles$Table", "cells", "[I", true)
  | _ => ("HouseFiddles$Table", "used", "I", false)
def tyX4 : Nat → FieldType := fun k => match k with
  | 0 => .int
  | 1 => .int
  | 2 => .array .int
  | _ => .int
theorem nmX4 : ∀ a, a < 4 → ∀ b, b < 4 → a ≠ b → (TX4 a).2.1 ≠ (TX4 b).2.1 := by decide +kernel
theorem tyX4_ok : ∀ k, k < 4 → parseFieldDescriptor (TX4 k).2.2.1 = some (tyX4 k) := by decide +kernel
def RX5 : String := "HouseFiddles$Tokens"
def TX5 : u_T := fun k => match k with
  | 0 => ("HouseFiddles$Tokens", "found", "LHouseFiddles$Table;", true)
  | _ => ("HouseFiddles$Tokens", "taken", "I", false)
def tyX5 : Nat → FieldType := fun k => match k with
  | 0 => .object "HouseFiddles$Table"
  | _ => .int
theorem nmX5 : ∀ a, a < 2 → ∀ b, b < 2 → a ≠ b → (TX5 a).2.1 ≠ (TX5 b).2.1 := by decide +kernel
theorem tyX5_ok : ∀ k, k < 2 → parseFieldDescriptor (TX5 k).2.2.1 = some (tyX5 k) := by decide +kernel
def RX6 : String := "HouseFiddles$Town"
def TX6 : u_T := fun k => match k with
  | 0 => ("HouseFiddles$Town", "boards", "LHouseFiddles$Boards;", true)
  | 1 => ("HouseFiddles$Town", "past", "LHouseFiddles$Table;", true)
  | 2 => ("HouseFiddles$Town", "wets", "LHouseFiddles$Table;", true)
  | 3 => ("HouseFiddles$Town", "instruments", "LHouseFiddles$Table;", true)
  | 4 => ("HouseFiddles$Town", "heardOnes", "LHouseFiddles$Table;", true)
  | 5 => ("HouseFiddles$Town", "notes", "LHouseFiddles$Table;", true)
  | _ => ("HouseFiddles$Town", "marks", "LHouseFiddles$Table;", true)
def tyX6 : Nat → FieldType := fun k => match k with
  | 0 => .object "HouseFiddles$Boards"
  | 1 => .object "HouseFiddles$Table"
  | 2 => .object "HouseFiddles$Table"
  | 3 => .object "HouseFiddles$Table"
  | 4 => .object "HouseFiddles$Table"
  | 5 => .object "HouseFiddles$Table"
  | _ => .object "HouseFiddles$Table"
theorem nmX6 : ∀ a, a < 7 → ∀ b, b < 7 → a ≠ b → (TX6 a).2.1 ≠ (TX6 b).2.1 := by decide +kernel
theorem tyX6_ok : ∀ k, k < 7 → parseFieldDescriptor (TX6 k).2.2.1 = some (tyX6 k) := by decide +kernel
def RX7 : String := "HouseFiddles$Wood"
def TX7 : u_T := fun k => match k with
  | _ => ("", "", "", false)
def tyX7 : Nat → FieldType := fun k => match k with
  | _ => .int
theorem nmX7 : ∀ a, a < 0 → ∀ b, b < 0 → a ≠ b → (TX7 a).2.1 ≠ (TX7 b).2.1 := by decide +kernel
theorem tyX7_ok : ∀ k, k < 0 → parseFieldDescriptor (TX7 k).2.2.1 = some (tyX7 k) := by decide +kernel
def RX8 : String := "HouseFiddles"
def TX8 : u_T := fun k => match k with
  | 0 => ("HouseFiddles", "now", "LHouseFiddles$Town;", true)
  | 1 => ("HouseFiddles", "firstImage", "LHouseFiddles$Town;", true)
  | 2 => ("HouseFiddles", "secondImage", "LHouseFiddles$Town;", true)
  | 3 => ("HouseFiddles", "trial", "LHouseFiddles$Boards;", true)
  | 4 => ("HouseFiddles", "text", "LHouseFiddles$Table;", true)
  | 5 => ("HouseFiddles", "reader", "LHouseFiddles$Reader;", true)
  | 6 => ("HouseFiddles", "maker", "LHouseFiddles$Maker;", true)
  | 7 => ("HouseFiddles", "alike", "LHouseFiddles$Table;", true)
  | 8 => ("HouseFiddles", "friends", "LHouseFiddles$Table;", true)
  | 9 => ("HouseFiddles", "firstKept", "Z", false)
  | 10 => ("HouseFiddles", "secondKept", "Z", false)
  | 11 => ("HouseFiddles", "above", "J", false)
  | 12 => ("HouseFiddles", "below", "J", false)
  | 13 => ("HouseFiddles", "bads", "I", false)
  | 14 => ("HouseFiddles", "nos", "I", false)
  | _ => ("HouseFiddles", "fulls", "I", false)
def tyX8 : Nat → FieldType := fun k => match k with
  | 0 => .object "HouseFiddles$Town"
  | 1 => .object "HouseFiddles$Town"
  | 2 => .object "HouseFiddles$Town"
  | 3 => .object "HouseFiddles$Boards"
  | 4 => .object "HouseFiddles$Table"
  | 5 => .object "HouseFiddles$Reader"
  | 6 => .object "HouseFiddles$Maker"
  | 7 => .object "HouseFiddles$Table"
  | 8 => .object "HouseFiddles$Table"
  | 9 => .boolean
  | 10 => .boolean
  | 11 => .long
  | 12 => .long
  | 13 => .int
  | 14 => .int
  | _ => .int
theorem nmX8 : ∀ a, a < 16 → ∀ b, b < 16 → a ≠ b → (TX8 a).2.1 ≠ (TX8 b).2.1 := by decide +kernel
theorem tyX8_ok : ∀ k, k < 16 → parseFieldDescriptor (TX8 k).2.2.1 = some (tyX8 k) := by decide +kernel
def RX9 : String := "HouseFiddlesModel"
def TX9 : u_T := fun k => match k with
  | 0 => ("HouseFiddlesModel", "w", "[I", true)
  | 1 => ("HouseFiddlesModel", "isKept", "[Z", true)
  | 2 => ("HouseFiddlesModel", "text", "[I", true)
  | 3 => ("HouseFiddlesModel", "texted", "I", false)
  | 4 => ("HouseFiddlesModel", "above", "J", false)
  | 5 => ("HouseFiddlesModel", "below", "J", false)
  | 6 => ("HouseFiddlesModel", "statuses", "[I", true)
  | 7 => ("HouseFiddlesModel", "at", "I", false)
  | 8 => ("HouseFiddlesModel", "start", "I", false)
  | 9 => ("HouseFiddlesModel", "number", "I", false)
  | 10 => ("HouseFiddlesModel", "bestIn", "[I", true)
  | 11 => ("HouseFiddlesModel", "sixOf", "[I", true)
  | _ => ("HouseFiddlesModel", "h", "J", false)
def tyX9 : Nat → FieldType := fun k => match k with
  | 0 => .array .int
  | 1 => .array .boolean
  | 2 => .array .int
  | 3 => .int
  | 4 => .long
  | 5 => .long
  | 6 => .array .int
  | 7 => .int
  | 8 => .int
  | 9 => .int
  | 10 => .array .int
  | 11 => .array .int
  | _ => .long
theorem nmX9 : ∀ a, a < 13 → ∀ b, b < 13 → a ≠ b → (TX9 a).2.1 ≠ (TX9 b).2.1 := by decide +kernel
theorem tyX9_ok : ∀ k, k < 13 → parseFieldDescriptor (TX9 k).2.2.1 = some (tyX9 k) := by decide +kernel
def RL : String := "HouseFiddlesLaw"
def RJ6 : String := "java/lang/Integer"
def RJ9 : String := "java/lang/Math"
def RJ0 : String := "java/lang/String"
def RJ1 : String := "java/lang/StringLatin1"
def RJ2 : String := "java/lang/StringUTF16"
def RJ10 : String := "java/lang/System"
def RJ3 : String := "jdk/internal/util/Preconditions"
end
section
/-! THE FRAME: the two objects' heap as one fixed list of 92 cells whose contents are two memories (the class's, the reference's); a walk over it (xAt), a walk that follows a functional program (xR), and a method's contract (xCt). -/
/-- a memory: ints by (block, place), longs by place -/
abbrev xM : Type := (Nat → Nat → Int32) × (Nat → Int64)
/-- the class's memory, the reference's -/
abbrev xS : Type := xM × xM
/-- the launch, the tables' numbers, the classes of int rows and of boolean rows, the addresses, what else is known of the heap that nobody writes -/
abbrev xG : Type := Launch × va_G × ClassId × ClassId × (Nat → Nat) × (State → Heap → Prop)
def xl (G : xG) : Launch := G.1
def xD (G : xG) : va_G := G.2.1
def xI (G : xG) : ClassId := G.2.2.1
def xZ (G : xG) : ClassId := G.2.2.2.1
def xa (G : xG) : Nat → Nat := G.2.2.2.2.1
def xE (G : xG) : State → Heap → Prop := G.2.2.2.2.2
/-- a method: name, code, locals, what it returns, frames and words of its room -/
abbrev xY : Type := MethodName × ByteArray × Nat × Option FieldType × Nat × Nat
abbrev xn (Y : xY) : MethodName := Y.1
abbrev xb (Y : xY) : ByteArray := Y.2.1
abbrev xL (Y : xY) : Nat := Y.2.2.1
abbrev xt (Y : xY) : Option FieldType := Y.2.2.2.1
abbrev xf (Y : xY) : Nat := Y.2.2.2.2.1
abbrev xo (Y : xY) : Nat := Y.2.2.2.2.2
def xw (Y : xY) : List Cond := .code (xn Y) (xb Y) (xL Y) (xt Y) :: lw_tb
def xrm (Y : xY) : Room := { frames := xf Y, cells := 0, slots := 0, locals := xo Y }
def xup (m : Nat → Nat → Int32) (a i : Nat) (v : Int32) : Nat → Nat → Int32 := fun b j => if b = a ∧ j = i then v else m b j
def xul (m : Nat → Int64) (i : Nat) (v : Int64) : Nat → Int64 := fun j => if j = i then v else m j
/-- the table of the k-th BOARDS; rows, width and length of the tables -/
def xtb (k : Nat) : Nat := if k = 4 then 28 else 7 * k
def xrows (t : Nat) : Int32 := ([6, 8, 5, 4, 6, 6, 6, 6, 8, 5, 4, 6, 6, 6, 6, 8, 5, 4, 6, 6, 6, 6, 8, 5, 4, 6, 6, 6, 6, 150, 151, 4, 64, 4, 6, 4] : List Int32).getD t 0
def xwid (t : Nat) : Int32 := ([6, 37, 1, 1, 2, 5, 6, 6, 37, 1, 1, 2, 5, 6, 6, 37, 1, 1, 2, 5, 6, 6, 37, 1, 1, 2, 5, 6, 6, 1, 3, 64, 1, 1, 1, 1] : List Int32).getD t 0
def xlen (t : Nat) : Nat := ([36, 296, 5, 4, 12, 30, 36, 36, 296, 5, 4, 12, 30, 36, 36, 296, 5, 4, 12, 30, 36, 36, 296, 5, 4, 12, 30, 36, 36, 150, 453, 256, 64, 4, 6, 4] : List Nat).getD t 0
/-- the classes -/
abbrev xcl : List vw_C := [(RX0, TX0, 2), (RX1, TX1, 5), (RX2, TX2, 5), (RX4, TX4, 4), (RX5, TX5, 2), (RX6, TX6, 7), (RX8, TX8, 16), (RX9, TX9, 13)]
/-- what the k-th cell holds: 0 .. 35 rows of tables, 36 .. 71 tables, 72 .. 76 BOARDS, 77 .. 80 towns, 81 the class, 82 maker, 83 reader, 84 tokens, 85 the reference, 86 .. 91 its rows -/
def xC (G : xG) (S : xS) (k : Nat) : va_E :=
  if k < 36 then .inl (xI G, xlen k, .inl (S.1.1 k))
  else if k < 72 then .inr (3, [.int (xrows (k - 36)), .int (xwid (k - 36)), .ref (xa G (k - 36)), .int (S.1.1 36 (k - 36))])
  else if k < 77 then .inr (0, [.ref (xa G (36 + xtb (k - 72))), .int (S.1.1 37 (k - 72))])
  else if k < 81 then .inr (5, [.ref (xa G (k - 5)), .ref (xa G (37 + 7 * (k - 77))), .ref (xa G (38 + 7 * (k - 77))), .ref (xa G (39 + 7 * (k - 77))), .ref (xa G (40 + 7 * (k - 77))), .ref (xa G (41 + 7 * (k - 77))), .ref (xa G (42 + 7 * (k - 77)))])
  else if k = 81 then .inr (6, [.ref (xa G 77), .ref (xa G 78), .ref (xa G 79), .ref (xa G 76), .ref (xa G 65), .ref (xa G 83), .ref (xa G 82), .ref (xa G 70), .ref (xa G 71), .int (S.1.1 38 0), .int (S.1.1 38 1), .long (S.1.2 0), .long (S.1.2 1), .int (S.1.1 38 2), .int (S.1.1 38 3), .int (S.1.1 38 4)])
  else if k = 82 then .inr (1, [.ref (xa G 67), .ref (xa G 68), .ref (xa G 69), .int (S.1.1 39 0), .int (S.1.1 39 1)])
  else if k = 83 then .inr (2, [.ref (xa G 84), .ref (xa G 80), .int (S.1.1 40 0), .int (S.1.1 40 1), .int (S.1.1 40 2)])
  else if k = 84 then .inr (4, [.ref (xa G 66), .int (S.1.1 41 0)])
  else if k = 85 then .inr (7, [.ref (xa G 86), .ref (xa G 87), .ref (xa G 88), .int (S.2.1 6 0), .long (S.2.2 0), .long (S.2.2 1), .ref (xa G 89), .int (S.2.1 6 1), .int (S.2.1 6 2), .int (S.2.1 6 3), .ref (xa G 90), .ref (xa G 91), .long (S.2.2 2)])
  else if k = 86 then .inl (xI G, 1752, .inl (S.2.1 0))
  else if k = 87 then .inl (xZ G, 2, .inl (S.2.1 1))
  else if k = 88 then .inl (xI G, 150, .inl (S.2.1 2))
  else if k = 89 then .inl (xI G, 3, .inl (S.2.1 3))
  else if k = 90 then .inl (xI G, 6, .inl (S.2.1 4))
  else .inl (xI G, 6, .inl (S.2.1 5))
def xCL (G : xG) (S : xS) : va_W := (List.range 92).map fun k => (xa G k, xC G S k)
def xA (G : xG) : Nat → Prop := fun q => ∃ k, k < 92 ∧ q = xa G k
/-- the links to nest mates' methods -/
def xnl : List (String × Nat × MethodName × String) := [(RX5, 60, ⟨RX8, "within", "(III)Z"⟩, RX8), (RX2, 121, ⟨RX8, "within", "(III)Z"⟩, RX8), (RX6, 96, ⟨RX8, "holdsBit", "(II)Z"⟩, RX8), (RX1, 55, ⟨RX8, "isPartOf", "(II)Z"⟩, RX8), (RX1, 82, ⟨RX8, "holdsBit", "(II)Z"⟩, RX8)]
/-- the seven texts: lengths, bytes, signs -/
def xlS : List Nat := [4, 3, 5, 4, 3, 4, 5]
def xbS : List (List Int32) := [[116, 111, 119, 110], [119, 101, 116], [98, 111, 97, 114, 100], [109, 97, 107, 101], [99, 117, 116], [119, 111, 114, 109], [121, 101, 97, 114, 115]]
def xtx (i : Nat) : String := (["town", "wet", "board", "make", "cut", "worm", "years"] : List String).getD i ""
/-- the texts stand at 100 + i, their bytes at 200 + i; two statics -/
def xS0 (G : xG) (U : State) (H : Heap) : Prop := vk_S 7 xlS xbS (fun i => xa G (100 + i)) (fun i => xa G (200 + i)) (xA G) U H ∧ (∀ i, i < 7 → vk_R RX5 (81 + 2 * i) (xtx i) (xa G (100 + i)) U) ∧
  va_Z "java/lang/String" "COMPACT_STRINGS" "Z" (.int 1) (xA G) U H ∧ va_Z "jdk/internal/util/Preconditions" "SIOOBE_FORMATTER" "Ljava/util/function/BiFunction;" (.ref (xa G 300)) (xA G) U H
/-- what the tables say, and that the addresses are apart; what else is known stays -/
def xK (G : xG) (U : State) : Prop := va_K (xD G) xcl [(xI G, .int), (xZ G, .boolean)] U ∧ (∀ i j, i < 92 → j < 92 → xa G i = xa G j → i = j) ∧
  (∀ (u V : State) (H : Heap), u.WarmedH V.vm → xE G u H → xE G V H) ∧ (∀ (u V : State) (H : Heap), V.vm = u.vm → xE G u H → xE G V H) ∧ (∀ (u : State) (H H1 : Heap), xE G u H → (∀ q : Nat, q < H.size → ¬ xA G q → H1[q]? = H[q]?) → xE G u H1) ∧
  (∀ q ∈ xnl, va_Nw (.methodLinkNest q.1 q.2.1 q.2.2.1 q.2.2.2) U) ∧ ∀ (u : State) (H : Heap), xE G u H → xS0 G u H
theorem xK.warm {G : xG} {u U : State} (hW : u.WarmedH U.vm) (h : xK G u) : xK G U := ⟨va_K.moved hW.alike h.1, h.2.1, h.2.2.1, h.2.2.2.1, h.2.2.2.2.1, fun q hq => va_Nw.warmM hW (h.2.2.2.2.2.1 q hq), h.2.2.2.2.2.2⟩
theorem xK.same {G : xG} {u U : State} (hv : U.vm = u.vm) (h : xK G u) : xK G U := ⟨va_K.moved (by rw [hv]; exact Vm.Alike.refl u.vm) h.1, h.2.1, h.2.2.1, h.2.2.2.1, h.2.2.2.2.1, fun q hq => va_Nw.same rfl hv.symm (h.2.2.2.2.2.1 q hq), h.2.2.2.2.2.2⟩
theorem xCL_at {G : xG} {S : xS} {k : Nat} (h : k < 92) : (xCL G S)[k]? = some (xa G k, xC G S k) := by simp [xCL, h]
theorem xCL_lt {G : xG} {S : xS} {k : Nat} {q : Nat × va_E} (h : (xCL G S)[k]? = some q) : k < 92 ∧ q = (xa G k, xC G S k) := by
  have h1 : k < (xCL G S).length := (List.getElem?_eq_some_iff.mp h).1
  have h2 : k < 92 := by simpa [xCL] using h1
  exact ⟨h2, Option.some.inj (h.symm.trans (xCL_at h2))⟩
theorem xCL_set {G : xG} {S S' : xS} {k : Nat} {e : va_E} (hk : k < 92) (he : xC G S' k = e) (ho : ∀ j, j < 92 → j ≠ k → xC G S j = xC G S' j) : (xCL G S).set k (xa G k, e) = xCL G S' := by
  apply List.ext_getElem?
  intro j
  rw [List.getElem?_set]
  by_cases hj : k = j
  · subst hj
    rw [if_pos rfl, if_pos (by simpa [xCL] using hk), xCL_at hk, he]
  · rw [if_neg hj]
    by_cases h : j < 92
    · rw [xCL_at h, xCL_at h, ho j h (fun e => hj e.symm)]
    · rw [List.getElem?_eq_none (by simpa [xCL] using h), List.getElem?_eq_none (by simpa [xCL] using h)]
theorem xDD {G : xG} (S : xS) (hI : ∀ i j, i < 92 → j < 92 → xa G i = xa G j → i = j) : va_D (xA G) (xCL G S) := by
  refine ⟨fun i j p q hi hj e => ?_, fun k q hk => ?_⟩
  · obtain ⟨h1, rfl⟩ := xCL_lt hi
    obtain ⟨h2, rfl⟩ := xCL_lt hj
    exact hI i j h1 h2 e
  · obtain ⟨h1, rfl⟩ := xCL_lt hk
    exact ⟨k, h1, rfl⟩
/-- what holds in a method's frame -/
def xF (G : xG) (Y : xY) (p : Program) (R : Room) (s : State) (m : MethodId) (args : Array Value) (meth : Method) (c : Code) : Prop :=
  p.tables.exec = Jvm.exec ∧ c.code = xb Y ∧ c.maxLocals = xL Y ∧ s.vm.findClass (xn Y).cls = some m.cls ∧ (∀ w ∈ xw Y, w.before args s = true) ∧ meth.sig.returnType = xt Y ∧ meth.locks = false ∧ xf Y ≤ R.frames ∧ xo Y ≤ R.locals ∧ xK G s ∧ xE G s s.heap
def xQ (G : xG) (r : Option Value) (S : xS) : Array Value → State → Outcome → State → Prop := fun _ st oc t => oc = .returned r ∧ va_P (xD G) xcl (xCL G S) t.heap ∧ va_F (xA G) st t
/-- a walk: from this place, with these locals (some of them) and this stack, over the world of S, the method comes to its end with the answer r and the world of S' -/
def xAt (G : xG) (Y : xY) (pc : Nat) (lv : List (Nat × Value)) (st : List Value) (S : xS) (r : Option Value) (S' : xS) : Prop :=
  ∀ (p : Program) (e : Env) (R : Room) (s : State) (m : MethodId) (args : Array Value) (below : List Frame) (meth : Method) (c : Code) (H : Heap) (locs : List Loc) (ls : Array Slot),
    xF G Y p R s m args meth c → va_P (xD G) xcl (xCL G S) H → va_S (xA G) s.heap H locs → lv_has ls (xL Y) lv →
    W p (xl G) e R s m args below meth c H locs 0 0 (MQ below (xQ G r S') args s 0 0 (xA G)) (F0 m pc ls st)
/-- a method's contract: from the world of S with these arguments it answers r and leaves the world of S' -/
def xCt (G : xG) (Y : xY) (av : List Value) (S : xS) (r : Option Value) (S' : xS) : Prop :=
  Met (xl G) (xn Y) (xw Y) (xrm Y) (va_Pc av (fun U => va_P (xD G) xcl (xCL G S) U.heap ∧ xK G U ∧ xE G U U.heap)) (xQ G r S') 0 0 (xA G)
/-- a walk that follows a functional program: where the program has a value, the method comes to it -/
def xR {ρ : Type} (G : xG) (Y : xY) (em : ρ → Option Value × xS) (pc : Nat) (lv : List (Nat × Value)) (st : List Value) (S : xS) (F : Option ρ) : Prop :=
  ∀ r : ρ, F = some r → xAt G Y pc lv st S (em r).1 (em r).2
theorem xR_none {ρ : Type} {G : xG} {Y : xY} {em : ρ → Option Value × xS} {pc : Nat} {lv : List (Nat × Value)} {st : List Value} {S : xS} : xR G Y em pc lv st S none := fun _ h => by cases h
theorem xCt_of {G : xG} {Y : xY} {av : List Value} {S S' : xS} {r : Option Value} (hy : plainName (xn Y).cls = true) (hn : (lg_sl av).length ≤ xL Y) (h : xAt G Y 0 (lv_args 0 av) [] S r S') : xCt G Y av S r S' := by
  refine Met.ofW (cc := xb Y) (maxL := xL Y) (ret := xt Y) hy rfl ?_
  intro p e s m args below meth c s₁ B hml hv
  obtain ⟨rfl, hP, hK, hE⟩ := hv
  have hl := lv_entry av (n := xL Y) hn
  rw [lg_entry_eq]
  exact h p e _ s m _ below meth c s.heap [] _ ⟨B.exec, B.bytes, hml, findClass_of_methodNamed B.named, atoms_spec (ws := xw Y) B.pre, B.returns, B.notSynchronized, Nat.le_refl _, Nat.le_refl _, hK, hE⟩ hP va_S.rf hl
/-- a contract out of a walk that follows a program -/
theorem xR_ct {ρ : Type} {G : xG} {Y : xY} {em : ρ → Option Value × xS} {av : List Value} {S : xS} {F : Option ρ} (hy : plainName (xn Y).cls = true) (hn : (lg_sl av).length ≤ xL Y) (h : xR G Y em 0 (lv_args 0 av) [] S F) : ∀ r : ρ, F = some r → xCt G Y av S (em r).1 (em r).2 := fun r hr => xCt_of hy hn (h r hr)
end
section
/-! RULES: an instruction, a row over xR (written by gen_rules.py out of the kit's rows) -/
section XR
variable {ρ : Type} {G : xG} {Y : xY} {em : ρ → Option Value × xS} {lv : List (Nat × Value)} {st : List Value} {S : xS} {F : Option ρ}
theorem xR_ic (pc : Nat) {n : Int} (v : Int32) (hd : decode (xb Y) pc = .ok (.iconst n, 1)) (hv : Int32.ofInt n = v) (kk : xR G Y em (pc + 1) lv (.int v :: st) S F) : xR G Y em pc lv (st) S F := fun r hr p e R s m args below meth c H locs ls hF hP hS hl => lv_iconst hF.1 hF.2.1 hd hv (kk r hr p e R s m args below meth c H locs ls hF hP hS hl)
theorem xR_bp (pc : Nat) {n : Int} (v : Int32) (hd : decode (xb Y) pc = .ok (.bipush n, 2)) (hv : (Int8.ofInt n).toInt32 = v) (kk : xR G Y em (pc + 2) lv (.int v :: st) S F) : xR G Y em pc lv (st) S F := fun r hr p e R s m args below meth c H locs ls hF hP hS hl => lv_bipush hF.1 hF.2.1 hd hv (kk r hr p e R s m args below meth c H locs ls hF hP hS hl)
theorem xR_sp (pc : Nat) {n : Int} (v : Int32) (hd : decode (xb Y) pc = .ok (.sipush n, 3)) (hv : (Int16.ofInt n).toInt32 = v) (kk : xR G Y em (pc + 3) lv (.int v :: st) S F) : xR G Y em pc lv (st) S F := fun r hr p e R s m args below meth c H locs ls hF hP hS hl => lv_sipush hF.1 hF.2.1 hd hv (kk r hr p e R s m args below meth c H locs ls hF hP hS hl)
theorem xR_lc (pc : Nat) {n : Fin 2} (v : Int64) (hd : decode (xb Y) pc = .ok (.lconst n, 1)) (hv : Int64.ofNat (n : Nat) = v) (kk : xR G Y em (pc + 1) lv (.long v :: st) S F) : xR G Y em pc lv (st) S F := fun r hr p e R s m args below meth c H locs ls hF hP hS hl => lv_lconst hF.1 hF.2.1 hd hv (kk r hr p e R s m args below meth c H locs ls hF hP hS hl)
theorem xR_iln (pc : Nat) {k : Fin 4} {i : Nat} {x : Int32} (j : Nat) (hd : decode (xb Y) pc = .ok (.iload_n k, 1)) (hi : (k : Nat) = i) (hj : lv[j]? = some (i, .int x)) (kk : xR G Y em (pc + 1) lv (.int x :: st) S F) : xR G Y em pc lv (st) S F := fun r hr p e R s m args below meth c H locs ls hF hP hS hl => lv_iload_n hF.1 hF.2.1 hd hi (lv_at hl j hj) (kk r hr p e R s m args below meth c H locs ls hF hP hS hl)
theorem xR_il (pc : Nat) {i : Nat} {x : Int32} (j : Nat) (hd : decode (xb Y) pc = .ok (.iload i, 2)) (hj : lv[j]? = some (i, .int x)) (kk : xR G Y em (pc + 2) lv (.int x :: st) S F) : xR G Y em pc lv (st) S F := fun r hr p e R s m args below meth c H locs ls hF hP hS hl => lv_iload hF.1 hF.2.1 hd (lv_at hl j hj) (kk r hr p e R s m args below meth c H locs ls hF hP hS hl)
theorem xR_lln (pc : Nat) {k : Fin 4} {i : Nat} {x : Int64} (j : Nat) (hd : decode (xb Y) pc = .ok (.lload_n k, 1)) (hi : (k : Nat) = i) (hj : lv[j]? = some (i, .long x)) (kk : xR G Y em (pc + 1) lv (.long x :: st) S F) : xR G Y em pc lv (st) S F := fun r hr p e R s m args below meth c H locs ls hF hP hS hl => lv_lload_n hF.1 hF.2.1 hd hi (lv_at hl j hj) (kk r hr p e R s m args below meth c H locs ls hF hP hS hl)
theorem xR_ll (pc : Nat) {i : Nat} {x : Int64} (j : Nat) (hd : decode (xb Y) pc = .ok (.lload i, 2)) (hj : lv[j]? = some (i, .long x)) (kk : xR G Y em (pc + 2) lv (.long x :: st) S F) : xR G Y em pc lv (st) S F := fun r hr p e R s m args below meth c H locs ls hF hP hS hl => lv_lload hF.1 hF.2.1 hd (lv_at hl j hj) (kk r hr p e R s m args below meth c H locs ls hF hP hS hl)
theorem xR_aln (pc : Nat) {k : Fin 4} {i : Nat} {x : Nat} (j : Nat) (hd : decode (xb Y) pc = .ok (.aload_n k, 1)) (hi : (k : Nat) = i) (hj : lv[j]? = some (i, .ref x)) (kk : xR G Y em (pc + 1) lv (.ref x :: st) S F) : xR G Y em pc lv (st) S F := fun r hr p e R s m args below meth c H locs ls hF hP hS hl => lv_aload_n hF.1 hF.2.1 hd hi (lv_at hl j hj) (kk r hr p e R s m args below meth c H locs ls hF hP hS hl)
theorem xR_al (pc : Nat) {i : Nat} {x : Nat} (j : Nat) (hd : decode (xb Y) pc = .ok (.aload i, 2)) (hj : lv[j]? = some (i, .ref x)) (kk : xR G Y em (pc + 2) lv (.ref x :: st) S F) : xR G Y em pc lv (st) S F := fun r hr p e R s m args below meth c H locs ls hF hP hS hl => lv_aload hF.1 hF.2.1 hd (lv_at hl j hj) (kk r hr p e R s m args below meth c H locs ls hF hP hS hl)
theorem xR_isn (pc : Nat) {k : Fin 4} {i : Nat} {x : Int32} (lv' : List (Nat × Value)) (hd : decode (xb Y) pc = .ok (.istore_n k, 1)) (hi : (k : Nat) = i) (hn : i < xL Y) (hv : (i, Value.int x) :: lv.filter (fun q => !(q.1 == i) && !(q.1 + 1 == i && q.2.category == 2)) = lv') (kk : xR G Y em (pc + 1) lv' st S F) : xR G Y em pc lv (.int x :: st) S F := fun r hr p e R s m args below meth c H locs ls hF hP hS hl => lv_istore_n hF.1 hF.2.1 hd hi hl hn hv (fun ls hl => kk r hr p e R s m args below meth c H locs ls hF hP hS hl)
theorem xR_is (pc : Nat) {i : Nat} {x : Int32} (lv' : List (Nat × Value)) (hd : decode (xb Y) pc = .ok (.istore i, 2)) (hn : i < xL Y) (hv : (i, Value.int x) :: lv.filter (fun q => !(q.1 == i) && !(q.1 + 1 == i && q.2.category == 2)) = lv') (kk : xR G Y em (pc + 2) lv' st S F) : xR G Y em pc lv (.int x :: st) S F := fun r hr p e R s m args below meth c H locs ls hF hP hS hl => lv_istore hF.1 hF.2.1 hd hl hn hv (fun ls hl => kk r hr p e R s m args below meth c H locs ls hF hP hS hl)
theorem xR_lsn (pc : Nat) {k : Fin 4} {i : Nat} {x : Int64} (lv' : List (Nat × Value)) (hd : decode (xb Y) pc = .ok (.lstore_n k, 1)) (hi : (k : Nat) = i) (hn : i + 1 < xL Y) (hv : (i, Value.long x) :: lv.filter (fun q => !(q.1 == i) && (!(q.1 == i + 1) && !(q.1 + 1 == i && q.2.category == 2))) = lv') (kk : xR G Y em (pc + 1) lv' st S F) : xR G Y em pc lv (.long x :: st) S F := fun r hr p e R s m args below meth c H locs ls hF hP hS hl => lv_lstore_n hF.1 hF.2.1 hd hi hl hn hv (fun ls hl => kk r hr p e R s m args below meth c H locs ls hF hP hS hl)
theorem xR_ls (pc : Nat) {i : Nat} {x : Int64} (lv' : List (Nat × Value)) (hd : decode (xb Y) pc = .ok (.lstore i, 2)) (hn : i + 1 < xL Y) (hv : (i, Value.long x) :: lv.filter (fun q => !(q.1 == i) && (!(q.1 == i + 1) && !(q.1 + 1 == i && q.2.category == 2))) = lv') (kk : xR G Y em (pc + 2) lv' st S F) : xR G Y em pc lv (.long x :: st) S F := fun r hr p e R s m args below meth c H locs ls hF hP hS hl => lv_lstore hF.1 hF.2.1 hd hl hn hv (fun ls hl => kk r hr p e R s m args below meth c H locs ls hF hP hS hl)
theorem xR_asn (pc : Nat) {k : Fin 4} {i : Nat} {x : Nat} (lv' : List (Nat × Value)) (hd : decode (xb Y) pc = .ok (.astore_n k, 1)) (hi : (k : Nat) = i) (hn : i < xL Y) (hv : (i, Value.ref x) :: lv.filter (fun q => !(q.1 == i) && !(q.1 + 1 == i && q.2.category == 2)) = lv') (kk : xR G Y em (pc + 1) lv' st S F) : xR G Y em pc lv (.ref x :: st) S F := fun r hr p e R s m args below meth c H locs ls hF hP hS hl => lv_astore_n hF.1 hF.2.1 hd hi hl hn hv (fun ls hl => kk r hr p e R s m args below meth c H locs ls hF hP hS hl)
theorem xR_as (pc : Nat) {i : Nat} {x : Nat} (lv' : List (Nat × Value)) (hd : decode (xb Y) pc = .ok (.astore i, 2)) (hn : i < xL Y) (hv : (i, Value.ref x) :: lv.filter (fun q => !(q.1 == i) && !(q.1 + 1 == i && q.2.category == 2)) = lv') (kk : xR G Y em (pc + 2) lv' st S F) : xR G Y em pc lv (.ref x :: st) S F := fun r hr p e R s m args below meth c H locs ls hF hP hS hl => lv_astore hF.1 hF.2.1 hd hl hn hv (fun ls hl => kk r hr p e R s m args below meth c H locs ls hF hP hS hl)
theorem xR_iinc (pc : Nat) {i : Nat} {n : Int} {x : Int32} (j : Nat) (v : Int32) (lv' : List (Nat × Value)) (hd : decode (xb Y) pc = .ok (.iinc i n, 3)) (hj : lv[j]? = some (i, .int x)) (hx : x + Int32.ofInt n = v) (hn : i < xL Y) (hv : (i, Value.int v) :: lv.filter (fun q => !(q.1 == i) && !(q.1 + 1 == i && q.2.category == 2)) = lv') (kk : xR G Y em (pc + 3) lv' st S F) : xR G Y em pc lv st S F := fun r hr p e R s m args below meth c H locs ls hF hP hS hl => lv_iinc hF.1 hF.2.1 hd hl hj hx hn hv (fun ls hl => kk r hr p e R s m args below meth c H locs ls hF hP hS hl)
theorem xR_iadd (pc : Nat) {x y : Int32} (hd : decode (xb Y) pc = .ok (.iadd, 1))  (kk : xR G Y em (pc + 1) lv (.int (x + y) :: st) S F) : xR G Y em pc lv (.int y :: .int x :: st) S F := fun r hr p e R s m args below meth c H locs ls hF hP hS hl => lv_iadd hF.1 hF.2.1 hd  (kk r hr p e R s m args below meth c H locs ls hF hP hS hl)
theorem xR_isub (pc : Nat) {x y : Int32} (hd : decode (xb Y) pc = .ok (.isub, 1))  (kk : xR G Y em (pc + 1) lv (.int (x - y) :: st) S F) : xR G Y em pc lv (.int y :: .int x :: st) S F := fun r hr p e R s m args below meth c H locs ls hF hP hS hl => lv_isub hF.1 hF.2.1 hd  (kk r hr p e R s m args below meth c H locs ls hF hP hS hl)
theorem xR_imul (pc : Nat) {x y : Int32} (hd : decode (xb Y) pc = .ok (.imul, 1))  (kk : xR G Y em (pc + 1) lv (.int (x * y) :: st) S F) : xR G Y em pc lv (.int y :: .int x :: st) S F := fun r hr p e R s m args below meth c H locs ls hF hP hS hl => lv_imul hF.1 hF.2.1 hd  (kk r hr p e R s m args below meth c H locs ls hF hP hS hl)
theorem xR_iand (pc : Nat) {x y : Int32} (hd : decode (xb Y) pc = .ok (.iand, 1))  (kk : xR G Y em (pc + 1) lv (.int (x &&& y) :: st) S F) : xR G Y em pc lv (.int y :: .int x :: st) S F := fun r hr p e R s m args below meth c H locs ls hF hP hS hl => lv_iand hF.1 hF.2.1 hd  (kk r hr p e R s m args below meth c H locs ls hF hP hS hl)
theorem xR_ior (pc : Nat) {x y : Int32} (hd : decode (xb Y) pc = .ok (.ior, 1))  (kk : xR G Y em (pc + 1) lv (.int (x ||| y) :: st) S F) : xR G Y em pc lv (.int y :: .int x :: st) S F := fun r hr p e R s m args below meth c H locs ls hF hP hS hl => lv_ior hF.1 hF.2.1 hd  (kk r hr p e R s m args below meth c H locs ls hF hP hS hl)
theorem xR_ixor (pc : Nat) {x y : Int32} (hd : decode (xb Y) pc = .ok (.ixor, 1))  (kk : xR G Y em (pc + 1) lv (.int (x ^^^ y) :: st) S F) : xR G Y em pc lv (.int y :: .int x :: st) S F := fun r hr p e R s m args below meth c H locs ls hF hP hS hl => lv_ixor hF.1 hF.2.1 hd  (kk r hr p e R s m args below meth c H locs ls hF hP hS hl)
theorem xR_ishl (pc : Nat) {x y : Int32} (hd : decode (xb Y) pc = .ok (.ishl, 1))  (kk : xR G Y em (pc + 1) lv (.int (x <<< (y &&& 31)) :: st) S F) : xR G Y em pc lv (.int y :: .int x :: st) S F := fun r hr p e R s m args below meth c H locs ls hF hP hS hl => lv_ishl hF.1 hF.2.1 hd  (kk r hr p e R s m args below meth c H locs ls hF hP hS hl)
theorem xR_ishr (pc : Nat) {x y : Int32} (hd : decode (xb Y) pc = .ok (.ishr, 1))  (kk : xR G Y em (pc + 1) lv (.int (x >>> (y &&& 31)) :: st) S F) : xR G Y em pc lv (.int y :: .int x :: st) S F := fun r hr p e R s m args below meth c H locs ls hF hP hS hl => lv_ishr hF.1 hF.2.1 hd  (kk r hr p e R s m args below meth c H locs ls hF hP hS hl)
theorem xR_iushr (pc : Nat) {x y : Int32} (hd : decode (xb Y) pc = .ok (.iushr, 1))  (kk : xR G Y em (pc + 1) lv (.int (x.toUInt32 >>> (y.toUInt32 &&& Int32.toUInt32 31)).toInt32 :: st) S F) : xR G Y em pc lv (.int y :: .int x :: st) S F := fun r hr p e R s m args below meth c H locs ls hF hP hS hl => lv_iushr hF.1 hF.2.1 hd rfl (kk r hr p e R s m args below meth c H locs ls hF hP hS hl)
theorem xR_ineg (pc : Nat) {x : Int32} (hd : decode (xb Y) pc = .ok (.ineg, 1))  (kk : xR G Y em (pc + 1) lv (.int (-x) :: st) S F) : xR G Y em pc lv (.int x :: st) S F := fun r hr p e R s m args below meth c H locs ls hF hP hS hl => lv_ineg hF.1 hF.2.1 hd  (kk r hr p e R s m args below meth c H locs ls hF hP hS hl)
theorem xR_idiv (pc : Nat) {x y : Int32} (hd : decode (xb Y) pc = .ok (.idiv, 1)) (hne : ¬ y = 0) (kk : xR G Y em (pc + 1) lv (.int (x / y) :: st) S F) : xR G Y em pc lv (.int y :: .int x :: st) S F := fun r hr p e R s m args below meth c H locs ls hF hP hS hl => lv_idiv hF.1 hF.2.1 hd hne (kk r hr p e R s m args below meth c H locs ls hF hP hS hl)
theorem xR_irem (pc : Nat) {x y : Int32} (hd : decode (xb Y) pc = .ok (.irem, 1)) (hne : ¬ y = 0) (kk : xR G Y em (pc + 1) lv (.int (x - x / y * y) :: st) S F) : xR G Y em pc lv (.int y :: .int x :: st) S F := fun r hr p e R s m args below meth c H locs ls hF hP hS hl => lv_irem hF.1 hF.2.1 hd hne (kk r hr p e R s m args below meth c H locs ls hF hP hS hl)
theorem xR_ldiv (pc : Nat) {x y : Int64} (hd : decode (xb Y) pc = .ok (.ldiv, 1)) (hne : ¬ y = 0) (kk : xR G Y em (pc + 1) lv (.long (x / y) :: st) S F) : xR G Y em pc lv (.long y :: .long x :: st) S F := fun r hr p e R s m args below meth c H locs ls hF hP hS hl => lv_ldiv hF.1 hF.2.1 hd hne (kk r hr p e R s m args below meth c H locs ls hF hP hS hl)
theorem xR_lrem (pc : Nat) {x y : Int64} (hd : decode (xb Y) pc = .ok (.lrem, 1)) (hne : ¬ y = 0) (kk : xR G Y em (pc + 1) lv (.long (x - x / y * y) :: st) S F) : xR G Y em pc lv (.long y :: .long x :: st) S F := fun r hr p e R s m args below meth c H locs ls hF hP hS hl => lv_lrem hF.1 hF.2.1 hd hne (kk r hr p e R s m args below meth c H locs ls hF hP hS hl)
theorem xR_ladd (pc : Nat) {x y : Int64} (hd : decode (xb Y) pc = .ok (.ladd, 1))  (kk : xR G Y em (pc + 1) lv (.long (x + y) :: st) S F) : xR G Y em pc lv (.long y :: .long x :: st) S F := fun r hr p e R s m args below meth c H locs ls hF hP hS hl => lv_ladd hF.1 hF.2.1 hd  (kk r hr p e R s m args below meth c H locs ls hF hP hS hl)
theorem xR_lsub (pc : Nat) {x y : Int64} (hd : decode (xb Y) pc = .ok (.lsub, 1))  (kk : xR G Y em (pc + 1) lv (.long (x - y) :: st) S F) : xR G Y em pc lv (.long y :: .long x :: st) S F := fun r hr p e R s m args below meth c H locs ls hF hP hS hl => lv_lsub hF.1 hF.2.1 hd  (kk r hr p e R s m args below meth c H locs ls hF hP hS hl)
theorem xR_lmul (pc : Nat) {x y : Int64} (hd : decode (xb Y) pc = .ok (.lmul, 1))  (kk : xR G Y em (pc + 1) lv (.long (x * y) :: st) S F) : xR G Y em pc lv (.long y :: .long x :: st) S F := fun r hr p e R s m args below meth c H locs ls hF hP hS hl => lv_lmul hF.1 hF.2.1 hd  (kk r hr p e R s m args below meth c H locs ls hF hP hS hl)
theorem xR_i2l (pc : Nat) {x : Int32} (hd : decode (xb Y) pc = .ok (.i2l, 1))  (kk : xR G Y em (pc + 1) lv (.long x.toInt64 :: st) S F) : xR G Y em pc lv (.int x :: st) S F := fun r hr p e R s m args below meth c H locs ls hF hP hS hl => lv_i2l hF.1 hF.2.1 hd rfl (kk r hr p e R s m args below meth c H locs ls hF hP hS hl)
theorem xR_l2i (pc : Nat) {x : Int64} (hd : decode (xb Y) pc = .ok (.l2i, 1))  (kk : xR G Y em (pc + 1) lv (.int x.toInt32 :: st) S F) : xR G Y em pc lv (.long x :: st) S F := fun r hr p e R s m args below meth c H locs ls hF hP hS hl => lv_l2i hF.1 hF.2.1 hd rfl (kk r hr p e R s m args below meth c H locs ls hF hP hS hl)
theorem xR_i2c (pc : Nat) {x : Int32} (hd : decode (xb Y) pc = .ok (.i2c, 1))  (kk : xR G Y em (pc + 1) lv (.int (x.toUInt32 % 65536).toInt32 :: st) S F) : xR G Y em pc lv (.int x :: st) S F := fun r hr p e R s m args below meth c H locs ls hF hP hS hl => lv_i2c hF.1 hF.2.1 hd rfl (kk r hr p e R s m args below meth c H locs ls hF hP hS hl)
theorem xR_lcmp (pc : Nat) {x y : Int64} (hd : decode (xb Y) pc = .ok (.lcmp, 1))  (kk : xR G Y em (pc + 1) lv (.int (lg_cmp x y) :: st) S F) : xR G Y em pc lv (.long y :: .long x :: st) S F := fun r hr p e R s m args below meth c H locs ls hF hP hS hl => W.lcmp hF.1 hF.2.1 hd  (kk r hr p e R s m args below meth c H locs ls hF hP hS hl)
theorem xR_dup (pc : Nat) {v : Value} (hd : decode (xb Y) pc = .ok (.dup, 1)) (hv : v.category = 1) (kk : xR G Y em (pc + 1) lv (v :: v :: st) S F) : xR G Y em pc lv (v :: st) S F := fun r hr p e R s m args below meth c H locs ls hF hP hS hl => lv_dup hF.1 hF.2.1 hd hv (kk r hr p e R s m args below meth c H locs ls hF hP hS hl)
theorem xR_pop (pc : Nat) {v : Value} (hd : decode (xb Y) pc = .ok (.pop, 1)) (hv : v.category = 1) (kk : xR G Y em (pc + 1) lv (st) S F) : xR G Y em pc lv (v :: st) S F := fun r hr p e R s m args below meth c H locs ls hF hP hS hl => lv_pop hF.1 hF.2.1 hd hv (kk r hr p e R s m args below meth c H locs ls hF hP hS hl)
theorem xR_dup2 (pc : Nat) {v w : Value} (hd : decode (xb Y) pc = .ok (.dup2, 1)) (hv : v.category = 1) (hw : w.category = 1) (kk : xR G Y em (pc + 1) lv (v :: w :: v :: w :: st) S F) : xR G Y em pc lv (v :: w :: st) S F := fun r hr p e R s m args below meth c H locs ls hF hP hS hl => lv_dup2_11 hF.1 hF.2.1 hd hv hw (kk r hr p e R s m args below meth c H locs ls hF hP hS hl)
theorem xR_dup2l (pc : Nat) {v : Value} (hd : decode (xb Y) pc = .ok (.dup2, 1)) (hv : v.category = 2) (kk : xR G Y em (pc + 1) lv (v :: v :: st) S F) : xR G Y em pc lv (v :: st) S F := fun r hr p e R s m args below meth c H locs ls hF hP hS hl => lv_dup2_2 hF.1 hF.2.1 hd hv (kk r hr p e R s m args below meth c H locs ls hF hP hS hl)
theorem xR_dup_x1 (pc : Nat) {v w : Value} (hd : decode (xb Y) pc = .ok (.dup_x1, 1)) (hv : v.category = 1) (hw : w.category = 1) (kk : xR G Y em (pc + 1) lv (v :: w :: v :: st) S F) : xR G Y em pc lv (v :: w :: st) S F := fun r hr p e R s m args below meth c H locs ls hF hP hS hl => lv_dup_x1 hF.1 hF.2.1 hd hv hw (kk r hr p e R s m args below meth c H locs ls hF hP hS hl)
theorem xR_ifeq (pc tgt : Nat) {x : Int32} {off : Int} {F1 F2 : Option ρ} (hd : decode (xb Y) pc = .ok (.ifCond .eq off, 3)) (ht : (pc : Int) + off = (tgt : Int)) (kt : xR G Y em tgt lv st S F1) (kf : xR G Y em (pc + 3) lv st S F2) : xR G Y em pc lv (.int x :: st) S (if x = 0 then F1 else F2) := fun r hr p e R s m args below meth c H locs ls hF hP hS hl => lv_if_eq hF.1 hF.2.1 hd ht (fun h => kt r (by rw [if_pos h] at hr; exact hr) p e R s m args below meth c H locs ls hF hP hS hl) (fun h => kf r (by rw [if_neg h] at hr; exact hr) p e R s m args below meth c H locs ls hF hP hS hl)
theorem xR_ifne (pc tgt : Nat) {x : Int32} {off : Int} {F1 F2 : Option ρ} (hd : decode (xb Y) pc = .ok (.ifCond .ne off, 3)) (ht : (pc : Int) + off = (tgt : Int)) (kt : xR G Y em tgt lv st S F1) (kf : xR G Y em (pc + 3) lv st S F2) : xR G Y em pc lv (.int x :: st) S (if x = 0 then F2 else F1) := fun r hr p e R s m args below meth c H locs ls hF hP hS hl => lv_if_ne hF.1 hF.2.1 hd ht (fun h => kt r (by rw [if_neg h] at hr; exact hr) p e R s m args below meth c H locs ls hF hP hS hl) (fun h => kf r (by rw [if_pos h] at hr; exact hr) p e R s m args below meth c H locs ls hF hP hS hl)
theorem xR_iflt (pc tgt : Nat) {x : Int32} {off : Int} {F1 F2 : Option ρ} (hd : decode (xb Y) pc = .ok (.ifCond .lt off, 3)) (ht : (pc : Int) + off = (tgt : Int)) (kt : xR G Y em tgt lv st S F1) (kf : xR G Y em (pc + 3) lv st S F2) : xR G Y em pc lv (.int x :: st) S (if x < 0 then F1 else F2) := fun r hr p e R s m args below meth c H locs ls hF hP hS hl => lv_if_lt hF.1 hF.2.1 hd ht (fun h => kt r (by rw [if_pos h] at hr; exact hr) p e R s m args below meth c H locs ls hF hP hS hl) (fun h => kf r (by rw [if_neg h] at hr; exact hr) p e R s m args below meth c H locs ls hF hP hS hl)
theorem xR_ifge (pc tgt : Nat) {x : Int32} {off : Int} {F1 F2 : Option ρ} (hd : decode (xb Y) pc = .ok (.ifCond .ge off, 3)) (ht : (pc : Int) + off = (tgt : Int)) (kt : xR G Y em tgt lv st S F1) (kf : xR G Y em (pc + 3) lv st S F2) : xR G Y em pc lv (.int x :: st) S (if 0 ≤ x then F1 else F2) := fun r hr p e R s m args below meth c H locs ls hF hP hS hl => lv_if_ge hF.1 hF.2.1 hd ht (fun h => kt r (by rw [if_pos h] at hr; exact hr) p e R s m args below meth c H locs ls hF hP hS hl) (fun h => kf r (by rw [if_neg h] at hr; exact hr) p e R s m args below meth c H locs ls hF hP hS hl)
theorem xR_ifgt (pc tgt : Nat) {x : Int32} {off : Int} {F1 F2 : Option ρ} (hd : decode (xb Y) pc = .ok (.ifCond .gt off, 3)) (ht : (pc : Int) + off = (tgt : Int)) (kt : xR G Y em tgt lv st S F1) (kf : xR G Y em (pc + 3) lv st S F2) : xR G Y em pc lv (.int x :: st) S (if 0 < x then F1 else F2) := fun r hr p e R s m args below meth c H locs ls hF hP hS hl => lv_if_gt hF.1 hF.2.1 hd ht (fun h => kt r (by rw [if_pos h] at hr; exact hr) p e R s m args below meth c H locs ls hF hP hS hl) (fun h => kf r (by rw [if_neg h] at hr; exact hr) p e R s m args below meth c H locs ls hF hP hS hl)
theorem xR_ifle (pc tgt : Nat) {x : Int32} {off : Int} {F1 F2 : Option ρ} (hd : decode (xb Y) pc = .ok (.ifCond .le off, 3)) (ht : (pc : Int) + off = (tgt : Int)) (kt : xR G Y em tgt lv st S F1) (kf : xR G Y em (pc + 3) lv st S F2) : xR G Y em pc lv (.int x :: st) S (if x ≤ 0 then F1 else F2) := fun r hr p e R s m args below meth c H locs ls hF hP hS hl => lv_if_le hF.1 hF.2.1 hd ht (fun h => kt r (by rw [if_pos h] at hr; exact hr) p e R s m args below meth c H locs ls hF hP hS hl) (fun h => kf r (by rw [if_neg h] at hr; exact hr) p e R s m args below meth c H locs ls hF hP hS hl)
theorem xR_iceq (pc tgt : Nat) {x y : Int32} {off : Int} {F1 F2 : Option ρ} (hd : decode (xb Y) pc = .ok (.if_icmp .eq off, 3)) (ht : (pc : Int) + off = (tgt : Int)) (kt : xR G Y em tgt lv st S F1) (kf : xR G Y em (pc + 3) lv st S F2) : xR G Y em pc lv (.int y :: .int x :: st) S (if x = y then F1 else F2) := fun r hr p e R s m args below meth c H locs ls hF hP hS hl => lv_icmp_eq hF.1 hF.2.1 hd ht (fun h => kt r (by rw [if_pos h] at hr; exact hr) p e R s m args below meth c H locs ls hF hP hS hl) (fun h => kf r (by rw [if_neg h] at hr; exact hr) p e R s m args below meth c H locs ls hF hP hS hl)
theorem xR_icne (pc tgt : Nat) {x y : Int32} {off : Int} {F1 F2 : Option ρ} (hd : decode (xb Y) pc = .ok (.if_icmp .ne off, 3)) (ht : (pc : Int) + off = (tgt : Int)) (kt : xR G Y em tgt lv st S F1) (kf : xR G Y em (pc + 3) lv st S F2) : xR G Y em pc lv (.int y :: .int x :: st) S (if x = y then F2 else F1) := fun r hr p e R s m args below meth c H locs ls hF hP hS hl => lv_icmp_ne hF.1 hF.2.1 hd ht (fun h => kt r (by rw [if_neg h] at hr; exact hr) p e R s m args below meth c H locs ls hF hP hS hl) (fun h => kf r (by rw [if_pos h] at hr; exact hr) p e R s m args below meth c H locs ls hF hP hS hl)
theorem xR_iclt (pc tgt : Nat) {x y : Int32} {off : Int} {F1 F2 : Option ρ} (hd : decode (xb Y) pc = .ok (.if_icmp .lt off, 3)) (ht : (pc : Int) + off = (tgt : Int)) (kt : xR G Y em tgt lv st S F1) (kf : xR G Y em (pc + 3) lv st S F2) : xR G Y em pc lv (.int y :: .int x :: st) S (if x < y then F1 else F2) := fun r hr p e R s m args below meth c H locs ls hF hP hS hl => lv_icmp_lt hF.1 hF.2.1 hd ht (fun h => kt r (by rw [if_pos h] at hr; exact hr) p e R s m args below meth c H locs ls hF hP hS hl) (fun h => kf r (by rw [if_neg h] at hr; exact hr) p e R s m args below meth c H locs ls hF hP hS hl)
theorem xR_icge (pc tgt : Nat) {x y : Int32} {off : Int} {F1 F2 : Option ρ} (hd : decode (xb Y) pc = .ok (.if_icmp .ge off, 3)) (ht : (pc : Int) + off = (tgt : Int)) (kt : xR G Y em tgt lv st S F1) (kf : xR G Y em (pc + 3) lv st S F2) : xR G Y em pc lv (.int y :: .int x :: st) S (if y ≤ x then F1 else F2) := fun r hr p e R s m args below meth c H locs ls hF hP hS hl => lv_icmp_ge hF.1 hF.2.1 hd ht (fun h => kt r (by rw [if_pos h] at hr; exact hr) p e R s m args below meth c H locs ls hF hP hS hl) (fun h => kf r (by rw [if_neg h] at hr; exact hr) p e R s m args below meth c H locs ls hF hP hS hl)
theorem xR_icgt (pc tgt : Nat) {x y : Int32} {off : Int} {F1 F2 : Option ρ} (hd : decode (xb Y) pc = .ok (.if_icmp .gt off, 3)) (ht : (pc : Int) + off = (tgt : Int)) (kt : xR G Y em tgt lv st S F1) (kf : xR G Y em (pc + 3) lv st S F2) : xR G Y em pc lv (.int y :: .int x :: st) S (if y < x then F1 else F2) := fun r hr p e R s m args below meth c H locs ls hF hP hS hl => lv_icmp_gt hF.1 hF.2.1 hd ht (fun h => kt r (by rw [if_pos h] at hr; exact hr) p e R s m args below meth c H locs ls hF hP hS hl) (fun h => kf r (by rw [if_neg h] at hr; exact hr) p e R s m args below meth c H locs ls hF hP hS hl)
theorem xR_icle (pc tgt : Nat) {x y : Int32} {off : Int} {F1 F2 : Option ρ} (hd : decode (xb Y) pc = .ok (.if_icmp .le off, 3)) (ht : (pc : Int) + off = (tgt : Int)) (kt : xR G Y em tgt lv st S F1) (kf : xR G Y em (pc + 3) lv st S F2) : xR G Y em pc lv (.int y :: .int x :: st) S (if x ≤ y then F1 else F2) := fun r hr p e R s m args below meth c H locs ls hF hP hS hl => lv_icmp_le hF.1 hF.2.1 hd ht (fun h => kt r (by rw [if_pos h] at hr; exact hr) p e R s m args below meth c H locs ls hF hP hS hl) (fun h => kf r (by rw [if_neg h] at hr; exact hr) p e R s m args below meth c H locs ls hF hP hS hl)
theorem xR_goto (pc tgt : Nat) {off : Int} (hd : decode (xb Y) pc = .ok (.goto off, 3)) (ht : (pc : Int) + off = (tgt : Int)) (kk : xR G Y em tgt lv st S F) : xR G Y em pc lv st S F := fun r hr p e R s m args below meth c H locs ls hF hP hS hl => lv_goto hF.1 hF.2.1 hd ht (kk r hr p e R s m args below meth c H locs ls hF hP hS hl)
/-- fewer locals -/
theorem xR_sub {lv' : List (Nat × Value)} (ks : List Nat) (hv : lv_pick lv ks = lv') {pc : Nat} (kk : xR G Y em pc lv' st S F) : xR G Y em pc lv st S F := fun r hr p e R s m args below meth c H locs ls hF hP hS hl => kk r hr p e R s m args below meth c H locs ls hF hP hS (lv_sub hl ks hv)
theorem xR_bind {α : Type} {g : Option α} {Kt : α → Option ρ} {pc : Nat} (h : ∀ a, g = some a → xR G Y em pc lv st S (Kt a)) : xR G Y em pc lv st S (g.bind Kt) := by
  intro r hr
  cases hg : g with
  | none => rw [hg] at hr; cases hr
  | some a => rw [hg] at hr; exact h a hg r hr
theorem xw_of {w : Cond} (h : w ∈ lw_tb) : w ∈ xw Y := List.mem_cons_of_mem _ h
/-- a divisor that may be 0 -/
def xdv (y : Int32) {ρ : Type} (F : Option ρ) : Option ρ := if y = 0 then none else F
def xdl (y : Int64) {ρ : Type} (F : Option ρ) : Option ρ := if y = 0 then none else F
theorem xR_dv {y : Int32} {pc : Nat} (h : ¬ y = 0 → xR G Y em pc lv st S F) : xR G Y em pc lv st S (xdv y F) := by
  by_cases hy : y = 0
  · unfold xdv; rw [if_pos hy]; exact xR_none
  · unfold xdv; rw [if_neg hy]; exact h hy
theorem xR_dl {y : Int64} {pc : Nat} (h : ¬ y = 0 → xR G Y em pc lv st S F) : xR G Y em pc lv st S (xdl y F) := by
  by_cases hy : y = 0
  · unfold xdl; rw [if_pos hy]; exact xR_none
  · unfold xdl; rw [if_neg hy]; exact h hy
/-- an index that may be out of its row -/
def xck (n : Nat) (i : Int32) {ρ : Type} (F : Option ρ) : Option ρ := if i < 0 ∨ n ≤ i.toNatClampNeg then none else F
theorem xR_ck {n : Nat} {i : Int32} {pc : Nat} (h : vp_in i n → xR G Y em pc lv st S F) : xR G Y em pc lv st S (xck n i F) := by
  by_cases hy : i < 0 ∨ n ≤ i.toNatClampNeg
  · unfold xck; rw [if_pos hy]; exact xR_none
  · unfold xck; rw [if_neg hy]; exact h hy
theorem xR_iald (pc k : Nat) (hk : k < 92) {n : Nat} {f : Nat → Int32} (hc : xC G S k = .inl (xI G, n, .inl f)) {i : Int32} (hd : decode (xb Y) pc = .ok (.iaload, 1)) (kk : xR G Y em (pc + 1) lv (.int (f i.toNatClampNeg) :: st) S F) : xR G Y em pc lv (.int i :: .ref (xa G k) :: st) S (xck n i F) :=
  xR_ck fun hin r hr p e R s m args below meth c H locs ls hF hP hS hl => va_iald hF.1 hF.2.1 hF.2.2.2.2.2.2.2.2.2.1.1 hP k 0 (by rw [xCL_at hk, hc]) rfl hin hd (kk r hr p e R s m args below meth c H locs ls hF hP hS hl)
theorem xR_zald (pc k : Nat) (hk : k < 92) {n : Nat} {f : Nat → Int32} (hc : xC G S k = .inl (xZ G, n, .inl f)) {i : Int32} (hd : decode (xb Y) pc = .ok (.baload, 1)) (kk : xR G Y em (pc + 1) lv (.int (f i.toNatClampNeg) :: st) S F) : xR G Y em pc lv (.int i :: .ref (xa G k) :: st) S (xck n i F) :=
  xR_ck fun hin r hr p e R s m args below meth c H locs ls hF hP hS hl => va_zald hF.1 hF.2.1 hF.2.2.2.2.2.2.2.2.2.1.1 hP k 1 (by rw [xCL_at hk, hc]) rfl hin hd (kk r hr p e R s m args below meth c H locs ls hF hP hS hl)
/-- a write of the k-th cell: what it holds behind it, all others as before -/
def xWr (G : xG) (S S' : xS) (k : Nat) (e : va_E) : Prop := xC G S' k = e ∧ ∀ j, j < 92 → j ≠ k → xC G S j = xC G S' j
theorem xWr.P {S S' : xS} {k : Nat} {e : va_E} {H : Heap} (h : xWr G S S' k e) (hk : k < 92) (hP : va_P (xD G) xcl ((xCL G S).set k (xa G k, e)) H) : va_P (xD G) xcl (xCL G S') H := by rw [xCL_set hk h.1 h.2] at hP; exact hP
theorem xR_iast (pc k : Nat) (hk : k < 92) {n : Nat} {f : Nat → Int32} (hc : xC G S k = .inl (xI G, n, .inl f)) {i x : Int32} (S' : xS) (hw : xWr G S S' k (.inl (xI G, n, .inl (upd f i.toNatClampNeg x)))) (hd : decode (xb Y) pc = .ok (.iastore, 1)) (kk : xR G Y em (pc + 1) lv st S' F) : xR G Y em pc lv (.int x :: .int i :: .ref (xa G k) :: st) S (xck n i F) :=
  xR_ck fun hin r hr p e R s m args below meth c H locs ls hF hP hS hl => va_iast hF.1 hF.2.1 hF.2.2.2.2.2.2.2.2.2.1.1 hP (xDD S hF.2.2.2.2.2.2.2.2.2.1.2.1) hS k 0 (by rw [xCL_at hk, hc]) rfl hin hd (fun H1 locs1 hP1 _ hS1 => kk r hr p e R s m args below meth c H1 locs1 ls hF (hw.P hk hP1) hS1 hl)
theorem xR_zast (pc k : Nat) (hk : k < 92) {n : Nat} {f : Nat → Int32} (hc : xC G S k = .inl (xZ G, n, .inl f)) {i x : Int32} (S' : xS) (hw : xWr G S S' k (.inl (xZ G, n, .inl (upd f i.toNatClampNeg (vp_nar .boolean x))))) (hd : decode (xb Y) pc = .ok (.bastore, 1)) (kk : xR G Y em (pc + 1) lv st S' F) : xR G Y em pc lv (.int x :: .int i :: .ref (xa G k) :: st) S (xck n i F) :=
  xR_ck fun hin r hr p e R s m args below meth c H locs ls hF hP hS hl => va_zast hF.1 hF.2.1 hF.2.2.2.2.2.2.2.2.2.1.1 hP (xDD S hF.2.2.2.2.2.2.2.2.2.1.2.1) hS k 1 (by rw [xCL_at hk, hc]) rfl hin hd (fun H1 locs1 hP1 _ hS1 => kk r hr p e R s m args below meth c H1 locs1 ls hF (hw.P hk hP1) hS1 hl)
theorem xR_alen (pc k : Nat) (hk : k < 92) {x : vp_A} (hc : xC G S k = .inl (xI G, x)) (hd : decode (xb Y) pc = .ok (.arraylength, 1)) (kk : xR G Y em (pc + 1) lv (.int (Int32.ofNat x.1) :: st) S F) : xR G Y em pc lv (.ref (xa G k) :: st) S F :=
  fun r hr p e R s m args below meth c H locs ls hF hP hS hl => va_alen hF.1 hF.2.1 hF.2.2.2.2.2.2.2.2.2.1.1 hP k 0 (by rw [xCL_at hk, hc]) rfl rfl hd (kk r hr p e R s m args below meth c H locs ls hF hP hS hl)
/-- a class: its words stand in the tables, its fields' types, its fields are its own and apart -/
def xcf (ci : Nat) (C : String) (T : u_T) (N : Nat) (ty : Nat → FieldType) : Prop := xcl[ci]? = some (C, T, N) ∧ (∀ w ∈ u_ws C T N, w ∈ lw_tb) ∧ (∀ k, k < N → parseFieldDescriptor (T k).2.2.1 = some (ty k)) ∧ (∀ a, a < N → ∀ b, b < N → a ≠ b → (T a).2.1 ≠ (T b).2.1) ∧ ∀ k, k < N → (T k).1 = C
theorem xR_getf (pc : Nat) {idx ci N : Nat} {C : String} {T : u_T} {ty : Nat → FieldType} (hcf : xcf ci C T N ty) (j k : Nat) (hj : j < N) (hk : k < 92) {fs : List Value} (hc : xC G S k = .inr (ci, fs)) {v : Value} (hv : fs[j]? = some v) (hl : Cond.fieldLink (xn Y).cls idx C (T j).2.1 (T j).2.2.1 ∈ lw_tb) (hd : decode (xb Y) pc = .ok (.getfield idx, 3)) (kk : xR G Y em (pc + 3) lv (v :: st) S F) : xR G Y em pc lv (.ref (xa G k) :: st) S F :=
  fun r hr p e R s m args below meth c H locs ls hF hP hS hlv => va_get (own := (xn Y).cls) (ref := C) (Ts := xw Y) hF.1 hF.2.1 hF.2.2.2.2.1 (fun w hw => xw_of (hcf.2.1 w hw)) hF.2.2.2.1 hF.2.2.2.2.2.2.2.2.2.1.1 hP k (by rw [xCL_at hk, hc]) hcf.1 j hj (hF.2.2.2.2.1 _ (xw_of hl)) (fun x h => by rw [hcf.2.2.2.2 j hj] at h; exact h) hv hd (kk r hr p e R s m args below meth c H locs ls hF hP hS hlv)
theorem xR_putf (pc : Nat) {idx ci N : Nat} {C : String} {T : u_T} {ty : Nat → FieldType} (hcf : xcf ci C T N ty) (j k : Nat) (hj : j < N) (hk : k < 92) {fs : List Value} (hc : xC G S k = .inr (ci, fs)) {v : Value} (hfin : (T j).2.2.2 = false) (hn : narrow (ty j) v = v) (hfit : fits (ty j) v = true) (hlen : j < fs.length) (S' : xS) (hw : xWr G S S' k (.inr (ci, fs.set j v))) (hl : Cond.fieldLink (xn Y).cls idx C (T j).2.1 (T j).2.2.1 ∈ lw_tb) (hd : decode (xb Y) pc = .ok (.putfield idx, 3)) (kk : xR G Y em (pc + 3) lv st S' F) : xR G Y em pc lv (v :: .ref (xa G k) :: st) S F :=
  fun r hr p e R s m args below meth c H locs ls hF hP hS hlv => va_put (own := (xn Y).cls) (ref := C) (Ts := xw Y) hF.1 hF.2.1 hF.2.2.2.2.1 (fun w hw => xw_of (hcf.2.1 w hw)) ty hcf.2.2.1 hcf.2.2.2.1 hF.2.2.2.1 hF.2.2.2.2.2.2.2.2.2.1.1 hP (xDD S hF.2.2.2.2.2.2.2.2.2.1.2.1) hS k (by rw [xCL_at hk, hc]) hcf.1 j hj (hF.2.2.2.2.1 _ (xw_of hl)) (fun x h => by rw [hcf.2.2.2.2 j hj] at h; exact h) hfin (hcf.2.2.1 j hj) hn hfit hlen hd (fun H1 locs1 hP1 _ hS1 => kk r hr p e R s m args below meth c H1 locs1 ls hF (hw.P hk hP1) hS1 hlv)
/-- an end with an int, a long, nothing -/
theorem xR_iret (pc : Nat) {v : Int32} {r0 : ρ} (ht : xt Y = some .int) (he : em r0 = (some (.int v), S)) (hd : decode (xb Y) pc = .ok (.ireturn, 1)) : xR G Y em pc lv [.int v] S (some r0) :=
  fun r hr p e R s m args below meth c H locs ls hF hP hS hlv => by
    cases hr
    rw [he]
    exact W.iret hF.1 hF.2.1 (hF.2.2.2.2.2.1.trans ht) (fun t h1 hW => ⟨rfl, by rw [h1]; exact hP, hS.F h1⟩) hS.2.2 hd hF.2.2.2.2.2.2.1
/-- an end with a boolean: what isn't 0 or 1 is cut to its last bit -/
def xnb (v : Int32) : Int32 := v &&& 1
theorem xW_zret {p : Program} {l : Launch} {e : Env} {R : Room} {s : State} {m : MethodId} {args : Array Value} {below : List Frame} {meth : Method} {c : Code} {H : Heap} {locs : List Loc} {cells slots : Nat} {cc : ByteArray} {Qc : Array Value → State → Outcome → State → Prop} {free : Addr → Prop} {v : Int32} (hexec : p.tables.exec = Jvm.exec) (hb : c.code = cc) (hr : meth.sig.returnType = some .boolean)
    (hq : ∀ t : State, t.heap = H → s.WarmedH t.vm → Qc args s (.returned (some (.int (xnb v)))) t) (hf : ∀ q ∈ locs, free q.base)
    {pc : Nat} {ls : Array Slot} (hdg : decode cc pc = .ok (.ireturn, 1)) (hlocks : meth.locks = false) : W p l e R s m args below meth c H locs cells slots (MQ below Qc args s cells slots free) (F0 m pc ls [.int v]) := by
  intro T hT X
  obtain ⟨fs, hret, hrun, hended, hW, hframe⟩ := X.leave (v := some (.int (xnb v))) (fun h => by rw [hr] at h; cases h)
  have hmeth' : T.vm.method? m = some meth := X.method'
  have hn : narrow .boolean (.int v) = .int (xnb v) := rfl
  refine ⟨T.setFrames fs, ?_, .returned (some (.int (xnb v))), hrun, hended, hq _ hT hW, locs, ⟨⟨_, rfl⟩, hW, hframe⟩, hf⟩
  jvm_step X.here [X.here.top, hexec, hb, hdg, hmeth', hr, hn]
  (try refine ⟨rfl, ?_⟩); (try refine ⟨rfl, ?_⟩)
  first | (intro acts; rw [hret _ acts rfl rfl rfl]) | rw [hret _ _ rfl rfl rfl]
  exact Steps.refl _
theorem xR_zret (pc : Nat) {v : Int32} {r0 : ρ} (ht : xt Y = some .boolean) (he : em r0 = (some (.int (xnb v)), S)) (hd : decode (xb Y) pc = .ok (.ireturn, 1)) : xR G Y em pc lv [.int v] S (some r0) :=
  fun r hr p e R s m args below meth c H locs ls hF hP hS hlv => by
    cases hr
    rw [he]
    exact xW_zret hF.1 hF.2.1 (hF.2.2.2.2.2.1.trans ht) (fun t h1 hW => ⟨rfl, by rw [h1]; exact hP, hS.F h1⟩) hS.2.2 hd hF.2.2.2.2.2.2.1
theorem xR_lret (pc : Nat) {v : Int64} {r0 : ρ} (ht : xt Y = some .long) (he : em r0 = (some (.long v), S)) (hd : decode (xb Y) pc = .ok (.lreturn, 1)) : xR G Y em pc lv [.long v] S (some r0) :=
  fun r hr p e R s m args below meth c H locs ls hF hP hS hlv => by
    cases hr
    rw [he]
    exact W.lret hF.1 hF.2.1 (hF.2.2.2.2.2.1.trans ht) (fun t h1 hW => ⟨rfl, by rw [h1]; exact hP, hS.F h1⟩) hS.2.2 hd hF.2.2.2.2.2.2.1
theorem xR_vret (pc : Nat) {r0 : ρ} (ht : xt Y = none) (he : em r0 = (none, S)) (hd : decode (xb Y) pc = .ok (.return_, 1)) : xR G Y em pc lv [] S (some r0) :=
  fun r hr p e R s m args below meth c H locs ls hF hP hS hlv => by
    cases hr
    rw [he]
    exact W.vret hF.1 hF.2.1 (hF.2.2.2.2.2.1.trans ht) (fun t h1 hW => ⟨rfl, by rw [h1]; exact hP, hS.F h1⟩) hS.2.2 hd hF.2.2.2.2.2.2.1

/-- a called method: its words stand in the tables; n parameters -/
def xcw (Y2 : xY) (n : Nat) : Prop := Cond.code (xn Y2) (xb Y2) (xL Y2) (xt Y2) ∈ lw_tb ∧ Cond.initialized (xn Y2).cls ∈ lw_tb ∧ ((xn Y2).cls ≠ "java/lang/invoke/MethodHandle" ∧ (xn Y2).cls ≠ "java/lang/invoke/VarHandle") ∧ (parseMethodDescriptor (xn Y2).desc).map (fun d => d.parameters.length) = some n
def xcv (Y2 : xY) (n : Nat) : Prop := xcw Y2 n ∧ Cond.instanceMethod (xn Y2) ∈ lw_tb ∧ Cond.selects (xn Y2).cls (xn Y2) (xn Y2) ∈ lw_tb
def xcs (Y2 : xY) (n : Nat) : Prop := xcw Y2 n ∧ Cond.static (xn Y2) ∈ lw_tb
theorem xw_good {Y2 : xY} {n : Nat} (h : xcw Y2 n) : GoodIn (xw Y) (xw Y2) := by
  intro w hw
  have hm : w ∈ lw_tb := by
    rcases List.mem_cons.mp hw with rfl | h1
    · exact h.1
    · exact h1
  exact ⟨xw_of hm, good_of_word (lw_tb_good w hm)⟩
theorem xblind {av : List Value} : FrameBlind (va_Pc av (fun U => va_P (xD G) xcl (xCL G S) U.heap ∧ xK G U ∧ xE G U U.heap)) := by
  intro a U g mk h
  obtain ⟨h1, h2, h3, h4⟩ := h
  exact ⟨h1, h2, h3.same (u := U) (U := U.calling g mk a) rfl, h3.2.2.2.1 U (U.calling g mk a) _ rfl h4⟩
theorem xE_at {Y : xY} {p : Program} {R : Room} {s : State} {m : MethodId} {args : Array Value} {meth : Method} {c : Code} {H : Heap} {locs : List Loc} (hF : xF G Y p R s m args meth c) (hS : va_S (xA G) s.heap H locs) : xE G s H := hF.2.2.2.2.2.2.2.2.2.1.2.2.2.2.1 s s.heap H hF.2.2.2.2.2.2.2.2.2.2 hS.2.1
theorem xpre {Y : xY} {p : Program} {R : Room} {s : State} {m : MethodId} {args : Array Value} {meth : Method} {c : Code} {H : Heap} {locs : List Loc} (hF : xF G Y p R s m args meth c) (hP : va_P (xD G) xcl (xCL G S) H) (hS : va_S (xA G) s.heap H locs) (av : List Value) : ∀ U : State, U.heap = H → s.WarmedH U.vm → va_Pc av (fun U => va_P (xD G) xcl (xCL G S) U.heap ∧ xK G U ∧ xE G U U.heap) av.toArray U :=
  fun U hU hW => ⟨rfl, by rw [hU]; exact hP, hF.2.2.2.2.2.2.2.2.2.1.warm hW, by rw [hU]; exact hF.2.2.2.2.2.2.2.2.2.1.2.2.1 s U H hW (xE_at hF hS)⟩
/-- behind a call -/
theorem xR_back {ρ2 : Type} {em2 : ρ2 → Option Value × xS} {a : ρ2} {r : ρ} {rest st0 : List Value} {pc : Nat} {Kt : Option ρ} {av : Array Value}
    {p : Program} {e : Env} {R : Room} {s : State} {m : MethodId} {args : Array Value} {below : List Frame} {meth : Method} {c : Code} {H : Heap} {locs : List Loc} {ls : Array Slot}
    (hrun : va_Run p (xl G) e R s m args below meth c H locs 0 0 0 0 (F0 m pc ls st0) rest (xQ G (em2 a).1 (em2 a).2 av) (xA G)) (kk : xR G Y em (pc + 3) lv ((em2 a).1.toList ++ rest) (em2 a).2 Kt) (hK : Kt = some r)
    (hF : xF G Y p R s m args meth c) (hS : va_S (xA G) s.heap H locs) (hl : lv_has ls (xL Y) lv) :
    W p (xl G) e R s m args below meth c H locs 0 0 (MQ below (xQ G (em r).1 (em r).2) args s 0 0 (xA G)) (F0 m pc ls st0) := by
  intro T hT X
  obtain ⟨v, st₀, t, T', L, h0, X', hL, e1, e2, ⟨hv, hP1, hFr⟩, stp⟩ := hrun T hT X
  have hv : v = (em2 a).1 := Outcome.returned.inj hv
  subst hv
  have hz := hFr.1
  have hk := hFr.2
  rw [h0] at hz hk
  obtain ⟨t2, a1, b1⟩ := kk r hK p e R s m args below meth c T'.heap (locs ++ L) ls hF (by rw [e1]; exact hP1)
    ⟨Nat.le_trans hS.1 (by rw [e1]; exact hz), fun q h1 h2 => by rw [e1, hk q (Nat.lt_of_lt_of_le h1 hS.1) h2]; exact hS.2.1 q h1 h2, fun q hq => by
      rcases List.mem_append.mp hq with h | h
      · exact hS.2.2 q h
      · exact hL q h⟩ hl T' rfl X'
  exact ⟨t2, stp t2 a1, b1⟩
/-- a call of an instance method -/
theorem xR_callV (pc : Nat) {idx n ci N : Nat} {C : String} {Tt : u_T} {ty : Nat → FieldType} {Y2 : xY} (hcv : xcv Y2 n) (hl : Cond.methodLink (xn Y).cls idx (xn Y2) ∈ lw_tb) (hroom : xf Y2 + 1 ≤ xf Y ∧ 8 + (xL Y2 + 11) + xo Y2 ≤ xo Y) (hcf : xcf ci C Tt N ty) (hC : (xn Y2).cls = C) (k : Nat) (hk : k < 92) {fs : List Value} (hc : xC G S k = .inr (ci, fs)) (As : List Value) {rest st0 : List Value} (hn : As.length = n) (hst : st0 = As.reverse ++ .ref (xa G k) :: rest) (hr8 : (rest.map fun v => v.category).sum ≤ 8) (hd : decode (xb Y) pc = .ok (.invokevirtual idx, 3))
    {ρ2 : Type} {em2 : ρ2 → Option Value × xS} {g : Option ρ2} {Kt : ρ2 → Option ρ} (hcon : ∀ a, g = some a → xCt G Y2 (.ref (xa G k) :: As) S (em2 a).1 (em2 a).2) (kk : ∀ a, xR G Y em (pc + 3) lv ((em2 a).1.toList ++ rest) (em2 a).2 (Kt a)) : xR G Y em pc lv st0 S (g.bind Kt) := by
  intro r hr p e R s m args below meth c H locs ls hF hP hS hlv
  cases hg : g with
  | none => rw [hg] at hr; cases hr
  | some a =>
    rw [hg] at hr
    have hK : Kt a = some r := hr
    obtain ⟨hx, hb, hml, hown, hts, hret, hlk, hfr, hlo, hKK, hE⟩ := id hF
    have hG := xw_good (Y := Y) hcv.1
    have tb : ∀ w ∈ lw_tb, w.before args s = true := fun w hw => hts w (xw_of hw)
    have cb : CallB R s args (xn Y).cls idx (xn Y2) (xb Y2) (xL Y2) (xt Y2) (xw Y2) (xrm Y2) 0 0 n := callB_of n hts hG rfl rfl rfl (tb _ hcv.1.2.1) (tb _ hl) ⟨hcv.1.2.2.1.1, hcv.1.2.2.1.2, hcv.1.2.2.2⟩ ⟨Nat.le_trans hroom.1 hfr, Nat.le_trans hroom.2 hlo⟩
    exact xR_back (va_runV (As := As) (rest := rest) (C := C) (b := xa G k) ⟨hx, hb, hml, hown, hts⟩ (hcon a hg) ⟨cb, tb _ hcv.2.1, by rw [← hC]; exact tb _ hcv.2.2⟩ ⟨xblind, va_recv hKK.1 hP hcf.1 (by rw [xCL_at hk, hc]), xpre hF hP hS _⟩ rfl hn hlv.1 hst (lv_room hr8) hd ⟨Nat.zero_le _, Nat.zero_le _⟩) (kk a) hK hF hS hlv
/-- a call of a static method -/
theorem xR_callS (pc : Nat) {idx n : Nat} {Y2 : xY} (hcs : xcs Y2 n) (hl : Cond.methodLink (xn Y).cls idx (xn Y2) ∈ lw_tb) (hroom : xf Y2 + 1 ≤ xf Y ∧ 8 + (xL Y2 + 11) + xo Y2 ≤ xo Y) (As : List Value) {rest st0 : List Value} (hn : As.length = n) (hst : st0 = As.reverse ++ rest) (hr8 : (rest.map fun v => v.category).sum ≤ 8) (hd : decode (xb Y) pc = .ok (.invokestatic idx, 3))
    {ρ2 : Type} {em2 : ρ2 → Option Value × xS} {g : Option ρ2} {Kt : ρ2 → Option ρ} (hcon : ∀ a, g = some a → xCt G Y2 As S (em2 a).1 (em2 a).2) (kk : ∀ a, xR G Y em (pc + 3) lv ((em2 a).1.toList ++ rest) (em2 a).2 (Kt a)) : xR G Y em pc lv st0 S (g.bind Kt) := by
  intro r hr p e R s m args below meth c H locs ls hF hP hS hlv
  cases hg : g with
  | none => rw [hg] at hr; cases hr
  | some a =>
    rw [hg] at hr
    have hK : Kt a = some r := hr
    obtain ⟨hx, hb, hml, hown, hts, hret, hlk, hfr, hlo, hKK, hE⟩ := id hF
    have hG := xw_good (Y := Y) hcs.1
    have tb : ∀ w ∈ lw_tb, w.before args s = true := fun w hw => hts w (xw_of hw)
    have cb : CallB R s args (xn Y).cls idx (xn Y2) (xb Y2) (xL Y2) (xt Y2) (xw Y2) (xrm Y2) 0 0 n := callB_of n hts hG rfl rfl rfl (tb _ hcs.1.2.1) (tb _ hl) ⟨hcs.1.2.2.1.1, hcs.1.2.2.1.2, hcs.1.2.2.2⟩ ⟨Nat.le_trans hroom.1 hfr, Nat.le_trans hroom.2 hlo⟩
    exact xR_back (va_runS (As := As) (rest := rest) ⟨hx, hb, hml, hown, hts⟩ (hcon a hg) ⟨cb, tb _ hcs.2⟩ ⟨xblind, xpre hF hP hS _⟩ rfl hn hlv.1 hst (lv_room hr8) hd ⟨Nat.zero_le _, Nat.zero_le _⟩) (kk a) hK hF hS hlv
/-- a call of a nest mate's private static method -/
theorem xR_callSN (pc : Nat) {idx n : Nat} {host : String} {Y2 : xY} (hcs : xcs Y2 n) (hl : ((xn Y).cls, idx, xn Y2, host) ∈ xnl) (hroom : xf Y2 + 1 ≤ xf Y ∧ 8 + (xL Y2 + 11) + xo Y2 ≤ xo Y) (As : List Value) {rest st0 : List Value} (hn : As.length = n) (hst : st0 = As.reverse ++ rest) (hr8 : (rest.map fun v => v.category).sum ≤ 8) (hd : decode (xb Y) pc = .ok (.invokestatic idx, 3))
    {ρ2 : Type} {em2 : ρ2 → Option Value × xS} {g : Option ρ2} {Kt : ρ2 → Option ρ} (hcon : ∀ a, g = some a → xCt G Y2 As S (em2 a).1 (em2 a).2) (kk : ∀ a, xR G Y em (pc + 3) lv ((em2 a).1.toList ++ rest) (em2 a).2 (Kt a)) : xR G Y em pc lv st0 S (g.bind Kt) := by
  intro r hr p e R s m args below meth c H locs ls hF hP hS hlv
  cases hg : g with
  | none => rw [hg] at hr; cases hr
  | some a =>
    rw [hg] at hr
    have hK : Kt a = some r := hr
    obtain ⟨hx, hb, hml, hown, hts, hret, hlk, hfr, hlo, hKK, hE⟩ := id hF
    have hG := xw_good (Y := Y) hcs.1
    have tb : ∀ w ∈ lw_tb, w.before args s = true := fun w hw => hts w (xw_of hw)
    have cb : va_CN R s args (xn Y).cls idx (xn Y2) host (xb Y2) (xL Y2) (xt Y2) (xw Y2) (xrm Y2) 0 0 n := va_cnB n hts hG rfl rfl rfl (hKK.2.2.2.2.2.1 _ hl) (tb _ hcs.1.2.1) ⟨hcs.1.2.2.1.1, hcs.1.2.2.1.2, hcs.1.2.2.2⟩ ⟨Nat.le_trans hroom.1 hfr, Nat.le_trans hroom.2 hlo⟩
    exact xR_back (va_runSN (As := As) (rest := rest) ⟨hx, hb, hml, hown, hts⟩ (hcon a hg) ⟨cb, tb _ hcs.2, trivial⟩ ⟨xblind, xpre hF hP hS _⟩ rfl hn hlv.1 hst (lv_room hr8) hd ⟨Nat.zero_le _, Nat.zero_le _⟩) (kk a) hK hF hS hlv
end XR
end
section
/-! THE WORLD: what each cell holds, what a write of it changes -/
theorem xcf0 : xcf 0 RX0 TX0 2 tyX0 := ⟨rfl, by decide +kernel, tyX0_ok, nmX0, by decide +kernel⟩
theorem xcf1 : xcf 1 RX1 TX1 5 tyX1 := ⟨rfl, by decide +kernel, tyX1_ok, nmX1, by decide +kernel⟩
theorem xcf2 : xcf 2 RX2 TX2 5 tyX2 := ⟨rfl, by decide +kernel, tyX2_ok, nmX2, by decide +kernel⟩
theorem xcf3 : xcf 3 RX4 TX4 4 tyX4 := ⟨rfl, by decide +kernel, tyX4_ok, nmX4, by decide +kernel⟩
theorem xcf4 : xcf 4 RX5 TX5 2 tyX5 := ⟨rfl, by decide +kernel, tyX5_ok, nmX5, by decide +kernel⟩
theorem xcf5 : xcf 5 RX6 TX6 7 tyX6 := ⟨rfl, by decide +kernel, tyX6_ok, nmX6, by decide +kernel⟩
theorem xcf6 : xcf 6 RX8 TX8 16 tyX8 := ⟨rfl, by decide +kernel, tyX8_ok, nmX8, by decide +kernel⟩
theorem xcf7 : xcf 7 RX9 TX9 13 tyX9 := ⟨rfl, by decide +kernel, tyX9_ok, nmX9, by decide +kernel⟩
section XW
variable {G : xG} {S : xS} {μ ν : xM}
theorem xC_arr {t : Nat} (h : t < 36) : xC G S t = .inl (xI G, xlen t, .inl (S.1.1 t)) := by unfold xC; rw [if_pos h]
theorem xC_tab {t : Nat} (h : t < 36) : xC G S (36 + t) = .inr (3, [.int (xrows t), .int (xwid t), .ref (xa G t), .int (S.1.1 36 t)]) := by
  unfold xC
  rw [if_neg (by omega), if_pos (by omega), Nat.add_sub_cancel_left]
theorem xC_brd {b : Nat} (h : b < 5) : xC G S (72 + b) = .inr (0, [.ref (xa G (36 + xtb b)), .int (S.1.1 37 b)]) := by
  unfold xC
  rw [if_neg (by omega), if_neg (by omega), if_pos (by omega), Nat.add_sub_cancel_left]
theorem xC_twn {t : Nat} (h : t < 4) : xC G S (77 + t) = .inr (5, [.ref (xa G (72 + t)), .ref (xa G (36 + (7 * t + 1))), .ref (xa G (36 + (7 * t + 2))), .ref (xa G (36 + (7 * t + 3))), .ref (xa G (36 + (7 * t + 4))), .ref (xa G (36 + (7 * t + 5))), .ref (xa G (36 + (7 * t + 6)))]) := by
  unfold xC
  rw [if_neg (by omega), if_neg (by omega), if_neg (by omega), if_pos (by omega), Nat.add_sub_cancel_left]
  have e : ∀ a b : Nat, a = b → xa G a = xa G b := fun _ _ h => by rw [h]
  rw [e (77 + t - 5) (72 + t) (by omega), e (37 + 7 * t) (36 + (7 * t + 1)) (by omega), e (38 + 7 * t) (36 + (7 * t + 2)) (by omega), e (39 + 7 * t) (36 + (7 * t + 3)) (by omega), e (40 + 7 * t) (36 + (7 * t + 4)) (by omega), e (41 + 7 * t) (36 + (7 * t + 5)) (by omega), e (42 + 7 * t) (36 + (7 * t + 6)) (by omega)]
theorem xC_same {S' : xS} {j : Nat} (hj : j < 92) (h0 : j < 36 → S.1.1 j = S'.1.1 j) (h1 : 36 ≤ j → j < 72 → S.1.1 36 (j - 36) = S'.1.1 36 (j - 36)) (h2 : 72 ≤ j → j < 77 → S.1.1 37 (j - 72) = S'.1.1 37 (j - 72)) (h3 : j = 81 → S.1.1 38 = S'.1.1 38 ∧ S.1.2 = S'.1.2) (h4 : j = 82 → S.1.1 39 = S'.1.1 39) (h5 : j = 83 → S.1.1 40 = S'.1.1 40) (h6 : j = 84 → S.1.1 41 = S'.1.1 41) (h7 : j = 85 → S.2.1 6 = S'.2.1 6 ∧ S.2.2 = S'.2.2) (h8 : 86 ≤ j → S.2.1 (j - 86) = S'.2.1 (j - 86)) : xC G S j = xC G S' j := by
  unfold xC
  by_cases c0 : j < 36
  · rw [if_pos c0, if_pos c0, h0 c0]
  rw [if_neg c0, if_neg c0]
  by_cases c1 : j < 72
  · rw [if_pos c1, if_pos c1, h1 (by omega) c1]
  rw [if_neg c1, if_neg c1]
  by_cases c2 : j < 77
  · rw [if_pos c2, if_pos c2, h2 (by omega) c2]
  rw [if_neg c2, if_neg c2]
  by_cases c3 : j < 81
  · rw [if_pos c3, if_pos c3]
  rw [if_neg c3, if_neg c3]
  by_cases c4 : j = 81
  · rw [if_pos c4, if_pos c4, (h3 c4).1, (h3 c4).2]
  rw [if_neg c4, if_neg c4]
  by_cases c5 : j = 82
  · rw [if_pos c5, if_pos c5, h4 c5]
  rw [if_neg c5, if_neg c5]
  by_cases c6 : j = 83
  · rw [if_pos c6, if_pos c6, h5 c6]
  rw [if_neg c6, if_neg c6]
  by_cases c7 : j = 84
  · rw [if_pos c7, if_pos c7, h6 c7]
  rw [if_neg c7, if_neg c7]
  by_cases c8 : j = 85
  · rw [if_pos c8, if_pos c8, (h7 c8).1, (h7 c8).2]
  rw [if_neg c8, if_neg c8]
  have h9 := h8 (by omega)
  by_cases c9 : j = 86
  · subst c9; rw [if_pos rfl, if_pos rfl, show S.2.1 0 = S'.2.1 0 from h9]
  rw [if_neg c9, if_neg c9]
  by_cases c10 : j = 87
  · subst c10; rw [if_pos rfl, if_pos rfl, show S.2.1 1 = S'.2.1 1 from h9]
  rw [if_neg c10, if_neg c10]
  by_cases c11 : j = 88
  · subst c11; rw [if_pos rfl, if_pos rfl, show S.2.1 2 = S'.2.1 2 from h9]
  rw [if_neg c11, if_neg c11]
  by_cases c12 : j = 89
  · subst c12; rw [if_pos rfl, if_pos rfl, show S.2.1 3 = S'.2.1 3 from h9]
  rw [if_neg c12, if_neg c12]
  by_cases c13 : j = 90
  · subst c13; rw [if_pos rfl, if_pos rfl, show S.2.1 4 = S'.2.1 4 from h9]
  rw [if_neg c13, if_neg c13]
  have c14 : j = 91 := by omega
  subst c14; rw [show S.2.1 5 = S'.2.1 5 from h9]
theorem xup_ne {m : Nat → Nat → Int32} {a i b : Nat} {v : Int32} (h : b ≠ a) : m b = xup m a i v b := by funext j; simp [xup, h]
theorem xup_nx (m : Nat → Nat → Int32) (a i b : Nat) (v : Int32) (h : b ≠ a) : m b = xup m a i v b := xup_ne h
theorem xup_at {m : Nat → Nat → Int32} {a i : Nat} {v : Int32} : xup m a i v a = upd (m a) i v := by funext j; simp [xup, upd]
theorem xup_nj {m : Nat → Nat → Int32} {a i j : Nat} {v : Int32} (h : j ≠ i) (b : Nat) : m b j = xup m a i v b j := by simp [xup, h]
theorem xup_eq {m : Nat → Nat → Int32} {a i : Nat} {v : Int32} : xup m a i v a i = v := by simp [xup]
/-- writes of the class's memory -/
theorem xW_arr {t i : Nat} {v : Int32} (h : t < 36) : xWr G (μ, ν) ((xup μ.1 t i v, μ.2), ν) t (.inl (xI G, xlen t, .inl (upd (μ.1 t) i v))) :=
  ⟨by rw [xC_arr h]; show Sum.inl (_, _, Sum.inl (xup μ.1 t i v t)) = _; rw [xup_at], fun j hj hne => xC_same hj (fun _ => xup_ne hne) (fun _ _ => congrFun (xup_ne (by omega)) _) (fun _ _ => congrFun (xup_ne (by omega)) _) (fun _ => ⟨xup_ne (by omega), rfl⟩) (fun _ => xup_ne (by omega)) (fun _ => xup_ne (by omega)) (fun _ => xup_ne (by omega)) (fun _ => ⟨rfl, rfl⟩) (fun _ => rfl)⟩
theorem xW_used {t : Nat} {v : Int32} (h : t < 36) : xWr G (μ, ν) ((xup μ.1 36 t v, μ.2), ν) (36 + t) (.inr (3, [.int (xrows t), .int (xwid t), .ref (xa G t), .int v])) :=
  ⟨by rw [xC_tab h]; show Sum.inr (3, [_, _, _, Value.int (xup μ.1 36 t v 36 t)]) = _; rw [xup_eq], fun j hj hne => xC_same hj (fun h => xup_nx μ.1 36 t j v (by omega)) (fun _ _ => xup_nj (by omega) _) (fun _ _ => congrFun (xup_nx μ.1 36 t 37 v (by omega)) _) (fun _ => ⟨xup_nx μ.1 36 t 38 v (by omega), rfl⟩) (fun _ => xup_nx μ.1 36 t 39 v (by omega)) (fun _ => xup_nx μ.1 36 t 40 v (by omega)) (fun _ => xup_nx μ.1 36 t 41 v (by omega)) (fun _ => ⟨rfl, rfl⟩) (fun _ => rfl)⟩
theorem xW_year {b : Nat} {v : Int32} (h : b < 5) : xWr G (μ, ν) ((xup μ.1 37 b v, μ.2), ν) (72 + b) (.inr (0, [.ref (xa G (36 + xtb b)), .int v])) :=
  ⟨by rw [xC_brd h]; show Sum.inr (0, [_, Value.int (xup μ.1 37 b v 37 b)]) = _; rw [xup_eq], fun j hj hne => xC_same hj (fun h => xup_nx μ.1 37 b j v (by omega)) (fun _ _ => congrFun (xup_nx μ.1 37 b 36 v (by omega)) _) (fun _ _ => xup_nj (by omega) _) (fun _ => ⟨xup_nx μ.1 37 b 38 v (by omega), rfl⟩) (fun _ => xup_nx μ.1 37 b 39 v (by omega)) (fun _ => xup_nx μ.1 37 b 40 v (by omega)) (fun _ => xup_nx μ.1 37 b 41 v (by omega)) (fun _ => ⟨rfl, rfl⟩) (fun _ => rfl)⟩
/-- a write of block a, 38 and on: cell a + 43 alone reads it -/
theorem xW_blk {a i : Nat} {v : Int32} (h : 38 ≤ a) (h2 : a ≤ 41) {e : va_E} (he : xC G ((xup μ.1 a i v, μ.2), ν) (a + 43) = e) : xWr G (μ, ν) ((xup μ.1 a i v, μ.2), ν) (a + 43) e :=
  ⟨he, fun j hj hne => xC_same hj (fun h => xup_ne (by omega)) (fun _ _ => congrFun (xup_ne (by omega)) _) (fun _ _ => congrFun (xup_ne (by omega)) _) (fun _ => ⟨xup_ne (by omega), rfl⟩) (fun _ => xup_ne (by omega)) (fun _ => xup_ne (by omega)) (fun _ => xup_ne (by omega)) (fun _ => ⟨rfl, rfl⟩) (fun _ => rfl)⟩
theorem xW_lng {i : Nat} {v : Int64} {e : va_E} (he : xC G ((μ.1, xul μ.2 i v), ν) 81 = e) : xWr G (μ, ν) ((μ.1, xul μ.2 i v), ν) 81 e :=
  ⟨he, fun j hj hne => xC_same hj (fun _ => rfl) (fun _ _ => rfl) (fun _ _ => rfl) (fun h => absurd h hne) (fun _ => rfl) (fun _ => rfl) (fun _ => rfl) (fun _ => ⟨rfl, rfl⟩) (fun _ => rfl)⟩
/-- writes of the reference's memory -/
theorem xW_mrow {a i : Nat} {v : Int32} (h : a < 6) {e : va_E} (he : xC G (μ, (xup ν.1 a i v, ν.2)) (86 + a) = e) : xWr G (μ, ν) (μ, (xup ν.1 a i v, ν.2)) (86 + a) e :=
  ⟨he, fun j hj hne => xC_same hj (fun _ => rfl) (fun _ _ => rfl) (fun _ _ => rfl) (fun _ => ⟨rfl, rfl⟩) (fun _ => rfl) (fun _ => rfl) (fun _ => rfl) (fun _ => ⟨xup_ne (by omega), rfl⟩) (fun h => xup_ne (by omega))⟩
theorem xW_mint {i : Nat} {v : Int32} {e : va_E} (he : xC G (μ, (xup ν.1 6 i v, ν.2)) 85 = e) : xWr G (μ, ν) (μ, (xup ν.1 6 i v, ν.2)) 85 e :=
  ⟨he, fun j hj hne => xC_same hj (fun _ => rfl) (fun _ _ => rfl) (fun _ _ => rfl) (fun _ => ⟨rfl, rfl⟩) (fun _ => rfl) (fun _ => rfl) (fun _ => rfl) (fun h => absurd h hne) (fun h => xup_ne (by omega))⟩
theorem xW_mlng {i : Nat} {v : Int64} {e : va_E} (he : xC G (μ, (ν.1, xul ν.2 i v)) 85 = e) : xWr G (μ, ν) (μ, (ν.1, xul ν.2 i v)) 85 e :=
  ⟨he, fun j hj hne => xC_same hj (fun _ => rfl) (fun _ _ => rfl) (fun _ _ => rfl) (fun _ => ⟨rfl, rfl⟩) (fun _ => rfl) (fun _ => rfl) (fun _ => rfl) (fun h => absurd h hne) (fun _ => rfl)⟩
end XW
/-! answers -/
def emi (S : xS) : Int32 → Option Value × xS := fun v => (some (.int v), S)
def eml (S : xS) : Int64 → Option Value × xS := fun v => (some (.long v), S)
def emic (ν : xM) : Int32 × xM → Option Value × xS := fun q => (some (.int q.1), (q.2, ν))
def emlc (ν : xM) : Int64 × xM → Option Value × xS := fun q => (some (.long q.1), (q.2, ν))
def emvc (ν : xM) : xM → Option Value × xS := fun q => (none, (q, ν))
def emim (μ : xM) : Int32 × xM → Option Value × xS := fun q => (some (.int q.1), (μ, q.2))
def emlm (μ : xM) : Int64 × xM → Option Value × xS := fun q => (some (.long q.1), (μ, q.2))
def emvm (μ : xM) : xM → Option Value × xS := fun q => (none, (μ, q))
section XM
variable {ρ : Type} {G : xG} {Y : xY} {em : ρ → Option Value × xS} {lv : List (Nat × Value)} {st : List Value} {S : xS} {F : Option ρ}
def xmax (x y : Int32) : Int32 := if x < y then y else x
def xmin (x y : Int32) : Int32 := if y < x then y else x
def xabs (x : Int32) : Int32 := if 0 ≤ x then x else 0 - x
theorem xmw_max : Cond.static Lib.Math.max.name ∈ lw_tb ∧ Cond.initialized "java/lang/Math" ∈ lw_tb ∧ Cond.code Lib.Math.max.name Lib.Math.max.code 2 (some .int) ∈ lw_tb := by decide +kernel
theorem xmw_min : Cond.static Lib.Math.min.name ∈ lw_tb ∧ Cond.initialized "java/lang/Math" ∈ lw_tb ∧ Cond.code Lib.Math.min.name Lib.Math.min.code 2 (some .int) ∈ lw_tb := by decide +kernel
theorem xmw_abs : Cond.static Lib.Math.abs.name ∈ lw_tb ∧ Cond.initialized "java/lang/Math" ∈ lw_tb ∧ Cond.code Lib.Math.abs.name Lib.Math.abs.code 1 (some .int) ∈ lw_tb := by decide +kernel
theorem xR_mmax (pc : Nat) {idx : Nat} {x y : Int32} (hl : Cond.methodLink (xn Y).cls idx Lib.Math.max.name ∈ lw_tb) (hroom : 1 ≤ xf Y ∧ (st.map fun v => v.category).sum + 13 ≤ xo Y) (hd : decode (xb Y) pc = .ok (.invokestatic idx, 3)) (kk : xR G Y em (pc + 3) lv (.int (xmax x y) :: st) S F) : xR G Y em pc lv (.int y :: .int x :: st) S F :=
  fun r hr p e R s m args below meth c H locs ls hF hP hS hlv => va_mmax hF.1 hF.2.1 (hF.2.2.1.trans hlv.1.symm) hF.2.2.2.1 (hF.2.2.2.2.1 _ (xw_of hl)) (hF.2.2.2.2.1 _ (xw_of xmw_max.1)) (hF.2.2.2.2.1 _ (xw_of xmw_max.2.1)) (hF.2.2.2.2.1 _ (xw_of xmw_max.2.2)) (Nat.le_trans hroom.1 hF.2.2.2.2.2.2.2.1) (Nat.le_trans hroom.2 hF.2.2.2.2.2.2.2.2.1) (Nat.zero_le _) (Nat.zero_le _) hd (kk r hr p e R s m args below meth c H locs ls hF hP hS hlv)
theorem xR_mmin (pc : Nat) {idx : Nat} {x y : Int32} (hl : Cond.methodLink (xn Y).cls idx Lib.Math.min.name ∈ lw_tb) (hroom : 1 ≤ xf Y ∧ (st.map fun v => v.category).sum + 13 ≤ xo Y) (hd : decode (xb Y) pc = .ok (.invokestatic idx, 3)) (kk : xR G Y em (pc + 3) lv (.int (xmin x y) :: st) S F) : xR G Y em pc lv (.int y :: .int x :: st) S F :=
  fun r hr p e R s m args below meth c H locs ls hF hP hS hlv => va_mmin hF.1 hF.2.1 (hF.2.2.1.trans hlv.1.symm) hF.2.2.2.1 (hF.2.2.2.2.1 _ (xw_of hl)) (hF.2.2.2.2.1 _ (xw_of xmw_min.1)) (hF.2.2.2.2.1 _ (xw_of xmw_min.2.1)) (hF.2.2.2.2.1 _ (xw_of xmw_min.2.2)) (Nat.le_trans hroom.1 hF.2.2.2.2.2.2.2.1) (Nat.le_trans hroom.2 hF.2.2.2.2.2.2.2.2.1) (Nat.zero_le _) (Nat.zero_le _) hd (kk r hr p e R s m args below meth c H locs ls hF hP hS hlv)
theorem xR_mabs (pc : Nat) {idx : Nat} {x : Int32} (hl : Cond.methodLink (xn Y).cls idx Lib.Math.abs.name ∈ lw_tb) (hroom : 1 ≤ xf Y ∧ (st.map fun v => v.category).sum + 13 ≤ xo Y) (hd : decode (xb Y) pc = .ok (.invokestatic idx, 3)) (kk : xR G Y em (pc + 3) lv (.int (xabs x) :: st) S F) : xR G Y em pc lv (.int x :: st) S F :=
  fun r hr p e R s m args below meth c H locs ls hF hP hS hlv => va_mabs hF.1 hF.2.1 (hF.2.2.1.trans hlv.1.symm) hF.2.2.2.1 (hF.2.2.2.2.1 _ (xw_of hl)) (hF.2.2.2.2.1 _ (xw_of xmw_abs.1)) (hF.2.2.2.2.1 _ (xw_of xmw_abs.2.1)) (hF.2.2.2.2.1 _ (xw_of xmw_abs.2.2)) (Nat.le_trans hroom.1 hF.2.2.2.2.2.2.2.1) (Nat.le_trans hroom.2 hF.2.2.2.2.2.2.2.2.1) (Nat.zero_le _) (Nat.zero_le _) hd (kk r hr p e R s m args below meth c H locs ls hF hP hS hlv)
theorem xR_ldc (pc : Nat) {idx : Nat} {v : Int32} (hl : Cond.constant (xn Y).cls idx v ∈ lw_tb) (hd : decode (xb Y) pc = .ok (.ldc idx, 2)) (kk : xR G Y em (pc + 2) lv (.int v :: st) S F) : xR G Y em pc lv st S F :=
  fun r hr p e R s m args below meth c H locs ls hF hP hS hlv => lv_ldc hF.1 hF.2.1 hF.2.2.2.1 (hF.2.2.2.2.1 _ (xw_of hl)) hd (kk r hr p e R s m args below meth c H locs ls hF hP hS hlv)
theorem xR_ldc2 (pc : Nat) {idx : Nat} {v : Int64} (hl : Cond.constantLong (xn Y).cls idx v ∈ lw_tb) (hd : decode (xb Y) pc = .ok (.ldc2_w idx, 3)) (kk : xR G Y em (pc + 3) lv (.long v :: st) S F) : xR G Y em pc lv st S F :=
  fun r hr p e R s m args below meth c H locs ls hF hP hS hlv => lv_ldc2 hF.1 hF.2.1 hF.2.2.2.1 (hF.2.2.2.2.1 _ (xw_of hl)) hd (kk r hr p e R s m args below meth c H locs ls hF hP hS hlv)
/-- a switch: the number is the table's j-th; the number is none of them -/
theorem xR_tsw (pc tgt : Nat) {dflt lo hi : Int} {offs : Array Int} {len : Nat} {x : Int32} (v : Int32) {off : Int} (hd : decode (xb Y) pc = .ok (.tableswitch dflt lo hi offs, len)) (h1 : ¬ v.toInt < lo) (h2 : ¬ hi < v.toInt) (ho : offs[(v.toInt - lo).toNat]? = some off) (ht : (pc : Int) + off = (tgt : Int)) {F1 F2 : Option ρ} (kk : xR G Y em tgt lv st S F1) (kf : ¬ x = v → xR G Y em pc lv (.int x :: st) S F2) : xR G Y em pc lv (.int x :: st) S (if x = v then F1 else F2) := by
  by_cases hx : x = v
  · subst hx
    rw [if_pos rfl]
    exact fun r hr p e R s m args below meth c H locs ls hF hP hS hlv => lv_tableIn hF.1 hF.2.1 hd h1 h2 ho ht (kk r hr p e R s m args below meth c H locs ls hF hP hS hlv)
  · rw [if_neg hx]
    exact kf hx
theorem xR_tso (pc tgt : Nat) {dflt lo hi : Int} {offs : Array Int} {len : Nat} {x : Int32} (hd : decode (xb Y) pc = .ok (.tableswitch dflt lo hi offs, len)) (h : x.toInt < lo ∨ hi < x.toInt) (ht : (pc : Int) + dflt = (tgt : Int)) (kk : xR G Y em tgt lv st S F) : xR G Y em pc lv (.int x :: st) S F :=
  fun r hr p e R s m args below meth c H locs ls hF hP hS hlv => lv_tableOut hF.1 hF.2.1 hd h ht (kk r hr p e R s m args below meth c H locs ls hF hP hS hlv)
/-- System.arraycopy between int rows -/
def xcpy (n0 n1 : Nat) (sp dp n : Int32) {ρ : Type} (F : Option ρ) : Option ρ := if ¬ sp < 0 ∧ ¬ dp < 0 ∧ ¬ n < 0 ∧ sp.toNatClampNeg + n.toNatClampNeg ≤ n0 ∧ dp.toNatClampNeg + n.toNatClampNeg ≤ n1 then F else none
theorem xaw : Cond.native arraycopyName ∈ lw_tb ∧ Cond.static arraycopyName ∈ lw_tb ∧ Cond.initialized "java/lang/System" ∈ lw_tb := by decide +kernel
theorem xR_copy (pc : Nat) {idx : Nat} (hl : Cond.methodLink (xn Y).cls idx arraycopyName ∈ lw_tb) (k0 k1 : Nat) (hk0 : k0 < 92) (hk1 : k1 < 92) {n0 n1 : Nat} {f g : Nat → Int32} (hc0 : xC G S k0 = .inl (xI G, n0, .inl f)) (hc1 : xC G S k1 = .inl (xI G, n1, .inl g)) {sp dp n : Int32} (S' : xS) (hw : xWr G S S' k1 (.inl (xI G, n1, .inl (va_cpy f g sp.toNatClampNeg dp.toNatClampNeg n.toNatClampNeg)))) (hroom : 1 ≤ xf Y ∧ (st.map fun v => v.category).sum + 18 ≤ xo Y) (hd : decode (xb Y) pc = .ok (.invokestatic idx, 3)) (kk : xR G Y em (pc + 3) lv st S' F) : xR G Y em pc lv (.int n :: .int dp :: .ref (xa G k1) :: .int sp :: .ref (xa G k0) :: st) S (xcpy n0 n1 sp dp n F) := by
  by_cases h : ¬ sp < 0 ∧ ¬ dp < 0 ∧ ¬ n < 0 ∧ sp.toNatClampNeg + n.toNatClampNeg ≤ n0 ∧ dp.toNatClampNeg + n.toNatClampNeg ≤ n1
  · unfold xcpy
    rw [if_pos h]
    obtain ⟨h1, h2, h3, h4, h5⟩ := h
    exact fun r hr p e R s m args below meth c H locs ls hF hP hS hlv => va_copyi hF.1 hF.2.1 (hF.2.2.1.trans hlv.1.symm) hF.2.2.2.1 (hF.2.2.2.2.1 _ (xw_of hl)) (hF.2.2.2.2.1 _ (xw_of xaw.1)) (hF.2.2.2.2.1 _ (xw_of xaw.2.1)) (hF.2.2.2.2.1 _ (xw_of xaw.2.2)) hF.2.2.2.2.2.2.2.2.2.1.1 hP (xDD S hF.2.2.2.2.2.2.2.2.2.1.2.1) hS k0 k1 0 0 (by rw [xCL_at hk0, hc0]) (by rw [xCL_at hk1, hc1]) rfl rfl (ty := .int) rfl h1 h2 h3 h4 h5 (fun _ _ => rfl) (Nat.le_trans hroom.1 hF.2.2.2.2.2.2.2.1) (Nat.le_trans (by show _ + 18 ≤ _; exact hroom.2) hF.2.2.2.2.2.2.2.2.1) hd (fun H1 locs1 hP1 _ hS1 => kk r hr p e R s m args below meth c H1 locs1 ls hF (hw.P hk1 hP1) hS1 hlv)
  · unfold xcpy
    rw [if_neg h]
    exact xR_none
end XM
end
section
/-! MORE ROWS: sets of memories, calls by what they answer -/
def xset (m : xM) (a i : Nat) (v : Int32) : xM := (xup m.1 a i v, m.2)
def xsel (m : xM) (i : Nat) (v : Int64) : xM := (m.1, xul m.2 i v)
/-- how often a loop may turn -/
def xfu : Nat := 100000
theorem xk_T {t : Nat} (h : t < 36) : 36 + t < 92 := by omega
theorem xk_A {t : Nat} (h : t < 36) : t < 92 := by omega
theorem xk_B {t : Nat} (h : t < 5) : 72 + t < 92 := by omega
theorem xk_W {t : Nat} (h : t < 4) : 77 + t < 92 := by omega
theorem xtb_lt {b : Nat} (h : b < 5) : xtb b < 36 := by
  unfold xtb
  split
  · decide
  · omega
theorem xtw_lt {t : Nat} (h : t < 4) {j : Nat} (hj : j < 7) : 7 * t + j < 36 := by omega
section XW2
variable {G : xG} {μ ν : xM} {i : Nat} {v : Int32}
theorem xW_m0 : xWr G (μ, ν) (μ, xset ν 0 i v) 86 (.inl (xI G, 1752, .inl (upd (ν.1 0) i v))) := xW_mrow (a := 0) (by decide) (by show Sum.inl (_, _, Sum.inl (xup ν.1 0 i v 0)) = _; rw [xup_at])
theorem xW_m1 : xWr G (μ, ν) (μ, xset ν 1 i v) 87 (.inl (xZ G, 2, .inl (upd (ν.1 1) i v))) := xW_mrow (a := 1) (by decide) (by show Sum.inl (_, _, Sum.inl (xup ν.1 1 i v 1)) = _; rw [xup_at])
theorem xW_m2 : xWr G (μ, ν) (μ, xset ν 2 i v) 88 (.inl (xI G, 150, .inl (upd (ν.1 2) i v))) := xW_mrow (a := 2) (by decide) (by show Sum.inl (_, _, Sum.inl (xup ν.1 2 i v 2)) = _; rw [xup_at])
theorem xW_m3 : xWr G (μ, ν) (μ, xset ν 3 i v) 89 (.inl (xI G, 3, .inl (upd (ν.1 3) i v))) := xW_mrow (a := 3) (by decide) (by show Sum.inl (_, _, Sum.inl (xup ν.1 3 i v 3)) = _; rw [xup_at])
theorem xW_m4 : xWr G (μ, ν) (μ, xset ν 4 i v) 90 (.inl (xI G, 6, .inl (upd (ν.1 4) i v))) := xW_mrow (a := 4) (by decide) (by show Sum.inl (_, _, Sum.inl (xup ν.1 4 i v 4)) = _; rw [xup_at])
theorem xW_m5 : xWr G (μ, ν) (μ, xset ν 5 i v) 91 (.inl (xI G, 6, .inl (upd (ν.1 5) i v))) := xW_mrow (a := 5) (by decide) (by show Sum.inl (_, _, Sum.inl (xup ν.1 5 i v 5)) = _; rw [xup_at])
end XW2
/-- the memory behind System.arraycopy from block a to block b -/
def xcpm (m : xM) (a b : Nat) (sp dp n : Int32) : xM := (fun c j => if c = b then va_cpy (m.1 a) (m.1 b) sp.toNatClampNeg dp.toNatClampNeg n.toNatClampNeg j else m.1 c j, m.2)
theorem xcpm_ne {m : xM} {a b c : Nat} {sp dp n : Int32} (h : c ≠ b) : m.1 c = (xcpm m a b sp dp n).1 c := by funext j; simp [xcpm, h]
theorem xW_copy {G : xG} {μ ν : xM} {a b : Nat} {sp dp n : Int32} (h : b < 36) : xWr G (μ, ν) (xcpm μ a b sp dp n, ν) b (.inl (xI G, xlen b, .inl (va_cpy (μ.1 a) (μ.1 b) sp.toNatClampNeg dp.toNatClampNeg n.toNatClampNeg))) :=
  ⟨by rw [xC_arr h]; show Sum.inl (_, _, Sum.inl ((xcpm μ a b sp dp n).1 b)) = _; congr 3; congr 1; funext j; simp [xcpm], fun j hj hne => xC_same hj (fun _ => xcpm_ne hne) (fun _ _ => congrFun (xcpm_ne (c := 36) (by omega)) _) (fun _ _ => congrFun (xcpm_ne (c := 37) (by omega)) _) (fun _ => ⟨xcpm_ne (c := 38) (by omega), rfl⟩) (fun _ => xcpm_ne (c := 39) (by omega)) (fun _ => xcpm_ne (c := 40) (by omega)) (fun _ => xcpm_ne (c := 41) (by omega)) (fun _ => ⟨rfl, rfl⟩) (fun _ => rfl)⟩
theorem xR_ldcw {ρ : Type} {G : xG} {Y : xY} {em : ρ → Option Value × xS} {lv : List (Nat × Value)} {st : List Value} {S : xS} {F : Option ρ} (pc : Nat) {idx : Nat} {v : Int32} (hl : Cond.constant (xn Y).cls idx v ∈ lw_tb) (hd : decode (xb Y) pc = .ok (.ldc_w idx, 3)) (kk : xR G Y em (pc + 3) lv (.int v :: st) S F) : xR G Y em pc lv st S F :=
  fun r hr p e R s m args below meth c H locs ls hF hP hS hlv => lv_ldcw hF.1 hF.2.1 hF.2.2.2.1 (hF.2.2.2.2.1 _ (xw_of hl)) hd (kk r hr p e R s m args below meth c H locs ls hF hP hS hlv)
section XCALLS
variable {ρ : Type} {G : xG} {Y : xY} {em : ρ → Option Value × xS} {lv : List (Nat × Value)} {st : List Value} {S : xS} {F : Option ρ}
theorem xR_callVi (pc : Nat) {idx n ci N : Nat} {C : String} {Tt : u_T} {ty : Nat → FieldType} {Y2 : xY} (hcv : xcv Y2 n) (hl : Cond.methodLink (xn Y).cls idx (xn Y2) ∈ lw_tb) (hroom : xf Y2 + 1 ≤ xf Y ∧ 8 + (xL Y2 + 11) + xo Y2 ≤ xo Y) (hcf : xcf ci C Tt N ty) (hC : (xn Y2).cls = C) (k : Nat) (hk : k < 92) {fs : List Value} (hc : xC G S k = .inr (ci, fs)) (As : List Value) {rest st0 : List Value} (hn : As.length = n) (hst : st0 = As.reverse ++ .ref (xa G k) :: rest) (hr8 : (rest.map fun v => v.category).sum ≤ 8) (hd : decode (xb Y) pc = .ok (.invokevirtual idx, 3)) {g : Option (Int32)} {Kt : (Int32) → Option ρ} (hcon : ∀ a, g = some a → xCt G Y2 (.ref (xa G k) :: As) S (some (.int a)) S) (kk : ∀ a, xR G Y em (pc + 3) lv (.int a :: rest) S (Kt a)) : xR G Y em pc lv st0 S (g.bind Kt) := xR_callV (em2 := emi S) pc hcv hl hroom hcf hC k hk hc As hn hst hr8 hd hcon kk
theorem xR_callVl (pc : Nat) {idx n ci N : Nat} {C : String} {Tt : u_T} {ty : Nat → FieldType} {Y2 : xY} (hcv : xcv Y2 n) (hl : Cond.methodLink (xn Y).cls idx (xn Y2) ∈ lw_tb) (hroom : xf Y2 + 1 ≤ xf Y ∧ 8 + (xL Y2 + 11) + xo Y2 ≤ xo Y) (hcf : xcf ci C Tt N ty) (hC : (xn Y2).cls = C) (k : Nat) (hk : k < 92) {fs : List Value} (hc : xC G S k = .inr (ci, fs)) (As : List Value) {rest st0 : List Value} (hn : As.length = n) (hst : st0 = As.reverse ++ .ref (xa G k) :: rest) (hr8 : (rest.map fun v => v.category).sum ≤ 8) (hd : decode (xb Y) pc = .ok (.invokevirtual idx, 3)) {g : Option (Int64)} {Kt : (Int64) → Option ρ} (hcon : ∀ a, g = some a → xCt G Y2 (.ref (xa G k) :: As) S (some (.long a)) S) (kk : ∀ a, xR G Y em (pc + 3) lv (.long a :: rest) S (Kt a)) : xR G Y em pc lv st0 S (g.bind Kt) := xR_callV (em2 := eml S) pc hcv hl hroom hcf hC k hk hc As hn hst hr8 hd hcon kk
theorem xR_callVic (pc : Nat) {μ ν : xM} {idx n ci N : Nat} {C : String} {Tt : u_T} {ty : Nat → FieldType} {Y2 : xY} (hcv : xcv Y2 n) (hl : Cond.methodLink (xn Y).cls idx (xn Y2) ∈ lw_tb) (hroom : xf Y2 + 1 ≤ xf Y ∧ 8 + (xL Y2 + 11) + xo Y2 ≤ xo Y) (hcf : xcf ci C Tt N ty) (hC : (xn Y2).cls = C) (k : Nat) (hk : k < 92) {fs : List Value} (hc : xC G (μ, ν) k = .inr (ci, fs)) (As : List Value) {rest st0 : List Value} (hn : As.length = n) (hst : st0 = As.reverse ++ .ref (xa G k) :: rest) (hr8 : (rest.map fun v => v.category).sum ≤ 8) (hd : decode (xb Y) pc = .ok (.invokevirtual idx, 3)) {g : Option (Int32 × xM)} {Kt : (Int32 × xM) → Option ρ} (hcon : ∀ a, g = some a → xCt G Y2 (.ref (xa G k) :: As) (μ, ν) (some (.int a.1)) (a.2, ν)) (kk : ∀ a, xR G Y em (pc + 3) lv (.int a.1 :: rest) (a.2, ν) (Kt a)) : xR G Y em pc lv st0 (μ, ν) (g.bind Kt) := xR_callV (em2 := emic ν) pc hcv hl hroom hcf hC k hk hc As hn hst hr8 hd hcon kk
theorem xR_callVlc (pc : Nat) {μ ν : xM} {idx n ci N : Nat} {C : String} {Tt : u_T} {ty : Nat → FieldType} {Y2 : xY} (hcv : xcv Y2 n) (hl : Cond.methodLink (xn Y).cls idx (xn Y2) ∈ lw_tb) (hroom : xf Y2 + 1 ≤ xf Y ∧ 8 + (xL Y2 + 11) + xo Y2 ≤ xo Y) (hcf : xcf ci C Tt N ty) (hC : (xn Y2).cls = C) (k : Nat) (hk : k < 92) {fs : List Value} (hc : xC G (μ, ν) k = .inr (ci, fs)) (As : List Value) {rest st0 : List Value} (hn : As.length = n) (hst : st0 = As.reverse ++ .ref (xa G k) :: rest) (hr8 : (rest.map fun v => v.category).sum ≤ 8) (hd : decode (xb Y) pc = .ok (.invokevirtual idx, 3)) {g : Option (Int64 × xM)} {Kt : (Int64 × xM) → Option ρ} (hcon : ∀ a, g = some a → xCt G Y2 (.ref (xa G k) :: As) (μ, ν) (some (.long a.1)) (a.2, ν)) (kk : ∀ a, xR G Y em (pc + 3) lv (.long a.1 :: rest) (a.2, ν) (Kt a)) : xR G Y em pc lv st0 (μ, ν) (g.bind Kt) := xR_callV (em2 := emlc ν) pc hcv hl hroom hcf hC k hk hc As hn hst hr8 hd hcon kk
theorem xR_callVvc (pc : Nat) {μ ν : xM} {idx n ci N : Nat} {C : String} {Tt : u_T} {ty : Nat → FieldType} {Y2 : xY} (hcv : xcv Y2 n) (hl : Cond.methodLink (xn Y).cls idx (xn Y2) ∈ lw_tb) (hroom : xf Y2 + 1 ≤ xf Y ∧ 8 + (xL Y2 + 11) + xo Y2 ≤ xo Y) (hcf : xcf ci C Tt N ty) (hC : (xn Y2).cls = C) (k : Nat) (hk : k < 92) {fs : List Value} (hc : xC G (μ, ν) k = .inr (ci, fs)) (As : List Value) {rest st0 : List Value} (hn : As.length = n) (hst : st0 = As.reverse ++ .ref (xa G k) :: rest) (hr8 : (rest.map fun v => v.category).sum ≤ 8) (hd : decode (xb Y) pc = .ok (.invokevirtual idx, 3)) {g : Option (xM)} {Kt : (xM) → Option ρ} (hcon : ∀ a, g = some a → xCt G Y2 (.ref (xa G k) :: As) (μ, ν) (none) (a, ν)) (kk : ∀ a, xR G Y em (pc + 3) lv rest (a, ν) (Kt a)) : xR G Y em pc lv st0 (μ, ν) (g.bind Kt) := xR_callV (em2 := emvc ν) pc hcv hl hroom hcf hC k hk hc As hn hst hr8 hd hcon kk
theorem xR_callVim (pc : Nat) {μ ν : xM} {idx n ci N : Nat} {C : String} {Tt : u_T} {ty : Nat → FieldType} {Y2 : xY} (hcv : xcv Y2 n) (hl : Cond.methodLink (xn Y).cls idx (xn Y2) ∈ lw_tb) (hroom : xf Y2 + 1 ≤ xf Y ∧ 8 + (xL Y2 + 11) + xo Y2 ≤ xo Y) (hcf : xcf ci C Tt N ty) (hC : (xn Y2).cls = C) (k : Nat) (hk : k < 92) {fs : List Value} (hc : xC G (μ, ν) k = .inr (ci, fs)) (As : List Value) {rest st0 : List Value} (hn : As.length = n) (hst : st0 = As.reverse ++ .ref (xa G k) :: rest) (hr8 : (rest.map fun v => v.category).sum ≤ 8) (hd : decode (xb Y) pc = .ok (.invokevirtual idx, 3)) {g : Option (Int32 × xM)} {Kt : (Int32 × xM) → Option ρ} (hcon : ∀ a, g = some a → xCt G Y2 (.ref (xa G k) :: As) (μ, ν) (some (.int a.1)) (μ, a.2)) (kk : ∀ a, xR G Y em (pc + 3) lv (.int a.1 :: rest) (μ, a.2) (Kt a)) : xR G Y em pc lv st0 (μ, ν) (g.bind Kt) := xR_callV (em2 := emim μ) pc hcv hl hroom hcf hC k hk hc As hn hst hr8 hd hcon kk
theorem xR_callVlm (pc : Nat) {μ ν : xM} {idx n ci N : Nat} {C : String} {Tt : u_T} {ty : Nat → FieldType} {Y2 : xY} (hcv : xcv Y2 n) (hl : Cond.methodLink (xn Y).cls idx (xn Y2) ∈ lw_tb) (hroom : xf Y2 + 1 ≤ xf Y ∧ 8 + (xL Y2 + 11) + xo Y2 ≤ xo Y) (hcf : xcf ci C Tt N ty) (hC : (xn Y2).cls = C) (k : Nat) (hk : k < 92) {fs : List Value} (hc : xC G (μ, ν) k = .inr (ci, fs)) (As : List Value) {rest st0 : List Value} (hn : As.length = n) (hst : st0 = As.reverse ++ .ref (xa G k) :: rest) (hr8 : (rest.map fun v => v.category).sum ≤ 8) (hd : decode (xb Y) pc = .ok (.invokevirtual idx, 3)) {g : Option (Int64 × xM)} {Kt : (Int64 × xM) → Option ρ} (hcon : ∀ a, g = some a → xCt G Y2 (.ref (xa G k) :: As) (μ, ν) (some (.long a.1)) (μ, a.2)) (kk : ∀ a, xR G Y em (pc + 3) lv (.long a.1 :: rest) (μ, a.2) (Kt a)) : xR G Y em pc lv st0 (μ, ν) (g.bind Kt) := xR_callV (em2 := emlm μ) pc hcv hl hroom hcf hC k hk hc As hn hst hr8 hd hcon kk
theorem xR_callVvm (pc : Nat) {μ ν : xM} {idx n ci N : Nat} {C : String} {Tt : u_T} {ty : Nat → FieldType} {Y2 : xY} (hcv : xcv Y2 n) (hl : Cond.methodLink (xn Y).cls idx (xn Y2) ∈ lw_tb) (hroom : xf Y2 + 1 ≤ xf Y ∧ 8 + (xL Y2 + 11) + xo Y2 ≤ xo Y) (hcf : xcf ci C Tt N ty) (hC : (xn Y2).cls = C) (k : Nat) (hk : k < 92) {fs : List Value} (hc : xC G (μ, ν) k = .inr (ci, fs)) (As : List Value) {rest st0 : List Value} (hn : As.length = n) (hst : st0 = As.reverse ++ .ref (xa G k) :: rest) (hr8 : (rest.map fun v => v.category).sum ≤ 8) (hd : decode (xb Y) pc = .ok (.invokevirtual idx, 3)) {g : Option (xM)} {Kt : (xM) → Option ρ} (hcon : ∀ a, g = some a → xCt G Y2 (.ref (xa G k) :: As) (μ, ν) (none) (μ, a)) (kk : ∀ a, xR G Y em (pc + 3) lv rest (μ, a) (Kt a)) : xR G Y em pc lv st0 (μ, ν) (g.bind Kt) := xR_callV (em2 := emvm μ) pc hcv hl hroom hcf hC k hk hc As hn hst hr8 hd hcon kk
theorem xR_callSi (pc : Nat) {idx n : Nat} {Y2 : xY} (hcs : xcs Y2 n) (hl : Cond.methodLink (xn Y).cls idx (xn Y2) ∈ lw_tb) (hroom : xf Y2 + 1 ≤ xf Y ∧ 8 + (xL Y2 + 11) + xo Y2 ≤ xo Y) (As : List Value) {rest st0 : List Value} (hn : As.length = n) (hst : st0 = As.reverse ++ rest) (hr8 : (rest.map fun v => v.category).sum ≤ 8) (hd : decode (xb Y) pc = .ok (.invokestatic idx, 3)) {g : Option (Int32)} {Kt : (Int32) → Option ρ} (hcon : ∀ a, g = some a → xCt G Y2 As S (some (.int a)) S) (kk : ∀ a, xR G Y em (pc + 3) lv (.int a :: rest) S (Kt a)) : xR G Y em pc lv st0 S (g.bind Kt) := xR_callS (em2 := emi S) pc hcs hl hroom As hn hst hr8 hd hcon kk
theorem xR_callSl (pc : Nat) {idx n : Nat} {Y2 : xY} (hcs : xcs Y2 n) (hl : Cond.methodLink (xn Y).cls idx (xn Y2) ∈ lw_tb) (hroom : xf Y2 + 1 ≤ xf Y ∧ 8 + (xL Y2 + 11) + xo Y2 ≤ xo Y) (As : List Value) {rest st0 : List Value} (hn : As.length = n) (hst : st0 = As.reverse ++ rest) (hr8 : (rest.map fun v => v.category).sum ≤ 8) (hd : decode (xb Y) pc = .ok (.invokestatic idx, 3)) {g : Option (Int64)} {Kt : (Int64) → Option ρ} (hcon : ∀ a, g = some a → xCt G Y2 As S (some (.long a)) S) (kk : ∀ a, xR G Y em (pc + 3) lv (.long a :: rest) S (Kt a)) : xR G Y em pc lv st0 S (g.bind Kt) := xR_callS (em2 := eml S) pc hcs hl hroom As hn hst hr8 hd hcon kk
theorem xR_callSNi (pc : Nat) {idx n : Nat} {host : String} {Y2 : xY} (hcs : xcs Y2 n) (hl : ((xn Y).cls, idx, xn Y2, host) ∈ xnl) (hroom : xf Y2 + 1 ≤ xf Y ∧ 8 + (xL Y2 + 11) + xo Y2 ≤ xo Y) (As : List Value) {rest st0 : List Value} (hn : As.length = n) (hst : st0 = As.reverse ++ rest) (hr8 : (rest.map fun v => v.category).sum ≤ 8) (hd : decode (xb Y) pc = .ok (.invokestatic idx, 3)) {g : Option (Int32)} {Kt : (Int32) → Option ρ} (hcon : ∀ a, g = some a → xCt G Y2 As S (some (.int a)) S) (kk : ∀ a, xR G Y em (pc + 3) lv (.int a :: rest) S (Kt a)) : xR G Y em pc lv st0 S (g.bind Kt) := xR_callSN (em2 := emi S) pc hcs hl hroom As hn hst hr8 hd hcon kk
theorem xR_callSNl (pc : Nat) {idx n : Nat} {host : String} {Y2 : xY} (hcs : xcs Y2 n) (hl : ((xn Y).cls, idx, xn Y2, host) ∈ xnl) (hroom : xf Y2 + 1 ≤ xf Y ∧ 8 + (xL Y2 + 11) + xo Y2 ≤ xo Y) (As : List Value) {rest st0 : List Value} (hn : As.length = n) (hst : st0 = As.reverse ++ rest) (hr8 : (rest.map fun v => v.category).sum ≤ 8) (hd : decode (xb Y) pc = .ok (.invokestatic idx, 3)) {g : Option (Int64)} {Kt : (Int64) → Option ρ} (hcon : ∀ a, g = some a → xCt G Y2 As S (some (.long a)) S) (kk : ∀ a, xR G Y em (pc + 3) lv (.long a :: rest) S (Kt a)) : xR G Y em pc lv st0 S (g.bind Kt) := xR_callSN (em2 := eml S) pc hcs hl hroom As hn hst hr8 hd hcon kk
end XCALLS
end
section
/-! TEXTS: rows over the seven constant texts -/
section XTXT
variable {ρ : Type} {G : xG} {Y : xY} {em : ρ → Option Value × xS} {lv : List (Nat × Value)} {st : List Value} {S : xS} {F : Option ρ}
theorem xS_of {p : Program} {R : Room} {s : State} {m : MethodId} {args : Array Value} {meth : Method} {c : Code} (hF : xF G Y p R s m args meth c) : xS0 G s s.heap := hF.2.2.2.2.2.2.2.2.2.1.2.2.2.2.2.2 _ _ hF.2.2.2.2.2.2.2.2.2.2
theorem xR_sgetc (pc i : Nat) (hi : i < 7) {idx : Nat} (hl : Cond.fieldLink (xn Y).cls idx "java/lang/String" "coder" "B" ∈ lw_tb) (hd : decode (xb Y) pc = .ok (.getfield idx, 3)) (kk : xR G Y em (pc + 3) lv (.int 0 :: st) S F) : xR G Y em pc lv (.ref (xa G (100 + i)) :: st) S F :=
  fun r hr p e R s m args below meth c H locs ls hF hP hS hlv => vk_getf hF.1 hF.2.1 (((xS_of hF).1.1 i hi).2.1) hS hF.2.2.2.1 (hF.2.2.2.2.1 _ (xw_of hl)) (fun x h => h) hd (kk r hr p e R s m args below meth c H locs ls hF hP hS hlv)
theorem xR_sgetv (pc i : Nat) (hi : i < 7) {idx : Nat} (hl : Cond.fieldLink (xn Y).cls idx "java/lang/String" "value" "[B" ∈ lw_tb) (hd : decode (xb Y) pc = .ok (.getfield idx, 3)) (kk : xR G Y em (pc + 3) lv (.ref (xa G (200 + i)) :: st) S F) : xR G Y em pc lv (.ref (xa G (100 + i)) :: st) S F :=
  fun r hr p e R s m args below meth c H locs ls hF hP hS hlv => vk_getf hF.1 hF.2.1 (((xS_of hF).1.1 i hi).2.2.1) hS hF.2.2.2.1 (hF.2.2.2.2.1 _ (xw_of hl)) (fun x h => h) hd (kk r hr p e R s m args below meth c H locs ls hF hP hS hlv)
theorem xR_salen (pc i : Nat) (hi : i < 7) (hd : decode (xb Y) pc = .ok (.arraylength, 1)) (kk : xR G Y em (pc + 1) lv (.int (Int32.ofNat (xlS.getD i 0)) :: st) S F) : xR G Y em pc lv (.ref (xa G (200 + i)) :: st) S F :=
  fun r hr p e R s m args below meth c H locs ls hF hP hS hlv => va_tlen hF.1 hF.2.1 (((xS_of hF).1.1 i hi).2.2.2) hS rfl hd (kk r hr p e R s m args below meth c H locs ls hF hP hS hlv)
theorem xR_sbald (pc i : Nat) (hi : i < 7) {j : Int32} (hd : decode (xb Y) pc = .ok (.baload, 1)) (kk : xR G Y em (pc + 1) lv (.int ((xbS.getD i []).getD j.toNatClampNeg 0) :: st) S F) : xR G Y em pc lv (.int j :: .ref (xa G (200 + i)) :: st) S (xck (xlS.getD i 0) j F) :=
  xR_ck fun hin r hr p e R s m args below meth c H locs ls hF hP hS hlv => va_tb hF.1 hF.2.1 (((xS_of hF).1.1 i hi).2.2.2) hS hin rfl hd (kk r hr p e R s m args below meth c H locs ls hF hP hS hlv)
theorem xR_sgets (pc : Nat) {idx : Nat} (hl : Cond.fieldLink (xn Y).cls idx "java/lang/String" "COMPACT_STRINGS" "Z" ∈ lw_tb) (hd : decode (xb Y) pc = .ok (.getstatic idx, 3)) (kk : xR G Y em (pc + 3) lv (.int 1 :: st) S F) : xR G Y em pc lv st S F :=
  fun r hr p e R s m args below meth c H locs ls hF hP hS hlv => va_gets hF.1 hF.2.1 (xS_of hF).2.2.1 hS hF.2.2.2.1 (hF.2.2.2.2.1 _ (xw_of hl)) (fun x h => h) hd (kk r hr p e R s m args below meth c H locs ls hF hP hS hlv)
theorem xR_sgetf (pc : Nat) {idx : Nat} (hl : Cond.fieldLink (xn Y).cls idx "jdk/internal/util/Preconditions" "SIOOBE_FORMATTER" "Ljava/util/function/BiFunction;" ∈ lw_tb) (hd : decode (xb Y) pc = .ok (.getstatic idx, 3)) (kk : xR G Y em (pc + 3) lv (.ref (xa G 300) :: st) S F) : xR G Y em pc lv st S F :=
  fun r hr p e R s m args below meth c H locs ls hF hP hS hlv => va_gets hF.1 hF.2.1 (xS_of hF).2.2.2 hS hF.2.2.2.1 (hF.2.2.2.2.1 _ (xw_of hl)) (fun x h => h) hd (kk r hr p e R s m args below meth c H locs ls hF hP hS hlv)
theorem xR_sldc (pc i : Nat) (hi : i < 7) {idx : Nat} (hix : idx = 81 + 2 * i) (hY : (xn Y).cls = RX5) (hd : decode (xb Y) pc = .ok (.ldc idx, 2)) (kk : xR G Y em (pc + 2) lv (.ref (xa G (100 + i)) :: st) S F) : xR G Y em pc lv st S F :=
  fun r hr p e R s m args below meth c H locs ls hF hP hS hlv => va_ldcS hF.1 hF.2.1 hF.2.2.2.1 (by rw [hY, hix]; exact (xS_of hF).2.1 i hi) hd (kk r hr p e R s m args below meth c H locs ls hF hP hS hlv)
/-- an end with a small number: what its type keeps -/
theorem xW_nret {p : Program} {l : Launch} {e : Env} {R : Room} {s : State} {m : MethodId} {args : Array Value} {below : List Frame} {meth : Method} {c : Code} {H : Heap} {locs : List Loc} {cells slots : Nat} {cc : ByteArray} {Qc : Array Value → State → Outcome → State → Prop} {free : Addr → Prop} {v w : Int32} {ty : FieldType} (hexec : p.tables.exec = Jvm.exec) (hb : c.code = cc) (hr : meth.sig.returnType = some ty) (hn : narrow ty (.int v) = .int w)
    (hq : ∀ t : State, t.heap = H → s.WarmedH t.vm → Qc args s (.returned (some (.int w))) t) (hf : ∀ q ∈ locs, free q.base)
    {pc : Nat} {ls : Array Slot} (hdg : decode cc pc = .ok (.ireturn, 1)) (hlocks : meth.locks = false) : W p l e R s m args below meth c H locs cells slots (MQ below Qc args s cells slots free) (F0 m pc ls [.int v]) := by
  intro T hT X
  obtain ⟨fs, hret, hrun, hended, hW, hframe⟩ := X.leave (v := some (.int w)) (fun h => by rw [hr] at h; cases h)
  have hmeth' : T.vm.method? m = some meth := X.method'
  refine ⟨T.setFrames fs, ?_, .returned (some (.int w)), hrun, hended, hq _ hT hW, locs, ⟨⟨_, rfl⟩, hW, hframe⟩, hf⟩
  jvm_step X.here [X.here.top, hexec, hb, hdg, hmeth', hr, hn]
  (try refine ⟨rfl, ?_⟩); (try refine ⟨rfl, ?_⟩)
  first | (intro acts; rw [hret _ acts rfl rfl rfl]) | rw [hret _ _ rfl rfl rfl]
  exact Steps.refl _
theorem xR_nret (pc : Nat) {v : Int32} {r0 : ρ} (ty : FieldType) (hy : ty = .byte ∨ ty = .char) (ht : xt Y = some ty) (he : em r0 = (some (.int (vp_nar ty v)), S)) (hd : decode (xb Y) pc = .ok (.ireturn, 1)) : xR G Y em pc lv [.int v] S (some r0) :=
  fun r hr p e R s m args below meth c H locs ls hF hP hS hlv => by
    cases hr
    rw [he]
    exact xW_nret hF.1 hF.2.1 (hF.2.2.2.2.2.1.trans ht) (by rcases hy with rfl | rfl <;> rfl) (fun t h1 hW => ⟨rfl, by rw [h1]; exact hP, hS.F h1⟩) hS.2.2 hd hF.2.2.2.2.2.2.1
/-- an end with a text: its place -/
def emq (G : xG) (S : xS) : Nat → Option Value × xS := fun i => (some (.ref (xa G (100 + i))), S)
theorem xR_aret (pc i : Nat) (ht : xt Y = some (.object "java/lang/String")) {r0 : ρ} (he : em r0 = (some (.ref (xa G (100 + i))), S)) (hd : decode (xb Y) pc = .ok (.areturn, 1)) : xR G Y em pc lv [.ref (xa G (100 + i))] S (some r0) :=
  fun r hr p e R s m args below meth c H locs ls hF hP hS hlv => by
    cases hr
    rw [he]
    exact W.aret hF.1 hF.2.1 (hF.2.2.2.2.2.1.trans ht) (Or.inl ⟨_, rfl⟩) (Or.inr ⟨_, rfl⟩) (fun t h1 hW => ⟨rfl, by rw [h1]; exact hP, hS.F h1⟩) hS.2.2 hd hF.2.2.2.2.2.2.1
def xlt7 (i : Nat) {ρ : Type} (F : Option ρ) : Option ρ := if i < 7 then F else none
theorem xR_lt7 {i pc : Nat} (h : i < 7 → xR G Y em pc lv st S F) : xR G Y em pc lv st S (xlt7 i F) := by
  by_cases hy : i < 7
  · unfold xlt7; rw [if_pos hy]; exact h hy
  · unfold xlt7; rw [if_neg hy]; exact xR_none
/-- a call upon a text -/
theorem xR_callQi (pc : Nat) {idx n : Nat} {Y2 : xY} (hcv : xcv Y2 n) (hl : Cond.methodLink (xn Y).cls idx (xn Y2) ∈ lw_tb) (hroom : xf Y2 + 1 ≤ xf Y ∧ 8 + (xL Y2 + 11) + xo Y2 ≤ xo Y) (hC : (xn Y2).cls = "java/lang/String") (i : Nat) (hi : i < 7) (As : List Value) {rest st0 : List Value} (hn : As.length = n) (hst : st0 = As.reverse ++ .ref (xa G (100 + i)) :: rest) (hr8 : (rest.map fun v => v.category).sum ≤ 8) (hd : decode (xb Y) pc = .ok (.invokevirtual idx, 3))
    {g : Option Int32} {Kt : Int32 → Option ρ} (hcon : ∀ a, g = some a → xCt G Y2 (.ref (xa G (100 + i)) :: As) S (some (.int a)) S) (kk : ∀ a, xR G Y em (pc + 3) lv (.int a :: rest) S (Kt a)) : xR G Y em pc lv st0 S (g.bind Kt) := by
  intro r hr p e R s m args below meth c H locs ls hF hP hS hlv
  cases hg : g with
  | none => rw [hg] at hr; cases hr
  | some a =>
    rw [hg] at hr
    have hK : Kt a = some r := hr
    obtain ⟨hx, hb, hml, hown, hts, hret, hlk, hfr, hlo, hKK, hE⟩ := id hF
    have hG := xw_good (Y := Y) hcv.1
    have tb : ∀ w ∈ lw_tb, w.before args s = true := fun w hw => hts w (xw_of hw)
    have cb : CallB R s args (xn Y).cls idx (xn Y2) (xb Y2) (xL Y2) (xt Y2) (xw Y2) (xrm Y2) 0 0 n := callB_of n hts hG rfl rfl rfl (tb _ hcv.1.2.1) (tb _ hl) ⟨hcv.1.2.2.1.1, hcv.1.2.2.1.2, hcv.1.2.2.2⟩ ⟨Nat.le_trans hroom.1 hfr, Nat.le_trans hroom.2 hlo⟩
    exact xR_back (em2 := emi S) (va_runV (As := As) (rest := rest) (C := "java/lang/String") (b := xa G (100 + i)) ⟨hx, hb, hml, hown, hts⟩ (hcon a hg) ⟨cb, tb _ hcv.2.1, by rw [← hC]; exact tb _ hcv.2.2⟩ ⟨xblind, vk_recv (i := i) (adK := fun i => xa G (100 + i)) (xS_of hF).1 hi hS, xpre hF hP hS _⟩ rfl hn hlv.1 hst (lv_room hr8) hd ⟨Nat.zero_le _, Nat.zero_le _⟩) (kk a) hK hF hS hlv
theorem xR_callSq (pc : Nat) {idx n : Nat} {Y2 : xY} (hcs : xcs Y2 n) (hl : Cond.methodLink (xn Y).cls idx (xn Y2) ∈ lw_tb) (hroom : xf Y2 + 1 ≤ xf Y ∧ 8 + (xL Y2 + 11) + xo Y2 ≤ xo Y) (As : List Value) {rest st0 : List Value} (hn : As.length = n) (hst : st0 = As.reverse ++ rest) (hr8 : (rest.map fun v => v.category).sum ≤ 8) (hd : decode (xb Y) pc = .ok (.invokestatic idx, 3))
    {g : Option Nat} {Kt : Nat → Option ρ} (hcon : ∀ a, g = some a → xCt G Y2 As S (some (.ref (xa G (100 + a)))) S) (kk : ∀ a, xR G Y em (pc + 3) lv (.ref (xa G (100 + a)) :: rest) S (Kt a)) : xR G Y em pc lv st0 S (g.bind Kt) := xR_callS (em2 := emq G S) pc hcs hl hroom As hn hst hr8 hd hcon kk
def emu (S : xS) : Unit → Option Value × xS := fun _ => (none, S)
theorem xR_callSu (pc : Nat) {idx n : Nat} {Y2 : xY} (hcs : xcs Y2 n) (hl : Cond.methodLink (xn Y).cls idx (xn Y2) ∈ lw_tb) (hroom : xf Y2 + 1 ≤ xf Y ∧ 8 + (xL Y2 + 11) + xo Y2 ≤ xo Y) (As : List Value) {rest st0 : List Value} (hn : As.length = n) (hst : st0 = As.reverse ++ rest) (hr8 : (rest.map fun v => v.category).sum ≤ 8) (hd : decode (xb Y) pc = .ok (.invokestatic idx, 3))
    {g : Option Unit} {Kt : Unit → Option ρ} (hcon : ∀ a, g = some a → xCt G Y2 As S none S) (kk : ∀ a, xR G Y em (pc + 3) lv rest S (Kt a)) : xR G Y em pc lv st0 S (g.bind Kt) := xR_callS (em2 := emu S) pc hcs hl hroom As hn hst hr8 hd hcon kk
end XTXT
end
section
/-! METHODS: name, code, locals, answer, room; the words of the tables that they need -/
def yyT_many : xY := (⟨RX4, "many", "()I"⟩, prog_6_method_2_code, 1, some .int, 0, 0)
def yyB_many : xY := (⟨RX0, "many", "()I"⟩, prog_2_method_2_code, 1, some .int, 1, 20)
def yyT_empty : xY := (⟨RX4, "empty", "()V"⟩, prog_6_method_3_code, 1, none, 0, 0)
def yyB_empty : xY := (⟨RX0, "empty", "()V"⟩, prog_2_method_6_code, 1, none, 1, 20)
def yyT_newRow : xY := (⟨RX4, "newRow", "()I"⟩, prog_6_method_4_code, 1, some .int, 0, 0)
def yyT_put : xY := (⟨RX4, "put", "(III)V"⟩, prog_6_method_8_code, 5, none, 0, 0)
def yyW_dryWets : xY := (⟨RX6, "dryWets", "()V"⟩, prog_8_method_2_code, 2, none, 1, 24)
def yyW_empty : xY := (⟨RX6, "empty", "()V"⟩, prog_8_method_3_code, 1, none, 2, 45)
def yyH_town : xY := (⟨RX8, "town", "()I"⟩, prog_1_method_2_code, 2, some .int, 3, 65)
def yyH_within : xY := (⟨RX8, "within", "(III)Z"⟩, prog_1_method_45_code, 3, some .boolean, 0, 0)
def yyH_badAs : xY := (⟨RX8, "badAs", "(I)I"⟩, prog_1_method_51_code, 2, some .int, 0, 0)
def yyH_bad : xY := (⟨RX8, "bad", "()I"⟩, prog_1_method_50_code, 1, some .int, 1, 21)
def yyT_get : xY := (⟨RX4, "get", "(II)I"⟩, prog_6_method_7_code, 4, some .int, 0, 0)
def yyH_wet : xY := (⟨RX8, "wet", "(II)I"⟩, prog_1_method_3_code, 4, some .int, 2, 41)
def yyH_isKind : xY := (⟨RX8, "isKind", "(I)Z"⟩, prog_1_method_46_code, 1, some .boolean, 1, 22)
def yyH_full : xY := (⟨RX8, "full", "()I"⟩, prog_1_method_53_code, 1, some .int, 0, 0)
def yyB_bring : xY := (⟨RX0, "bring", "(IIII)I"⟩, prog_2_method_8_code, 6, some .int, 1, 24)
def yyH_board : xY := (⟨RX8, "board", "(IIII)I"⟩, prog_1_method_4_code, 5, some .int, 2, 49)
def yyW_bringInstrument : xY := (⟨RX6, "bringInstrument", "(I)I"⟩, prog_8_method_6_code, 3, some .int, 1, 24)
def yyH_make : xY := (⟨RX8, "make", "(I)I"⟩, prog_1_method_5_code, 2, some .int, 2, 46)
def yyB_has : xY := (⟨RX0, "has", "(I)Z"⟩, prog_2_method_3_code, 2, some .boolean, 1, 20)
def yyB_cell : xY := (⟨RX0, "cell", "(II)I"⟩, prog_2_method_4_code, 3, some .int, 1, 23)
def yyB_set : xY := (⟨RX0, "set", "(III)V"⟩, prog_2_method_5_code, 4, none, 1, 24)
def yyH_worm : xY := (⟨RX8, "worm", "(II)I"⟩, prog_1_method_6_code, 4, some .int, 2, 47)
def yyH_type : xY := (⟨RX8, "type", "(I)I"⟩, prog_1_method_7_code, 3, some .int, 2, 41)
def yyH_clear : xY := (⟨RX8, "clear", "()I"⟩, prog_1_method_8_code, 2, some .int, 1, 20)
def yyO_endOfRun : xY := (⟨RX5, "endOfRun", "(LHouseFiddles$Table;III)I"⟩, prog_7_method_6_code, 5, some .int, 1, 23)
def yyO_textOf : xY := (⟨RX5, "textOf", "(I)Ljava/lang/String;"⟩, prog_7_method_10_code, 1, some (.object "java/lang/String"), 0, 0)
def yyU_coder : xY := (⟨RJ0, "coder", "()B"⟩, prog_14_method_152_code, 1, some .byte, 0, 0)
def yyU_length : xY := (⟨RJ0, "length", "()I"⟩, prog_14_method_54_code, 1, some .int, 1, 20)
def yyU_isLatin1 : xY := (⟨RJ0, "isLatin1", "()Z"⟩, prog_14_method_154_code, 1, some .boolean, 0, 0)
def yyP_checkIndex : xY := (⟨RJ3, "checkIndex", "(IILjava/util/function/BiFunction;)I"⟩, prog_18_method_11_code, 3, some .int, 0, 0)
def yyU_checkIndex : xY := (⟨RJ0, "checkIndex", "(II)V"⟩, prog_14_method_155_code, 2, none, 1, 22)
def yyL_charAt : xY := (⟨RJ1, "charAt", "([BI)C"⟩, prog_15_method_2_code, 2, some .char, 2, 43)
def yyU_charAt : xY := (⟨RJ0, "charAt", "(I)C"⟩, prog_14_method_56_code, 2, some .char, 4, 85)
def yyO_spells : xY := (⟨RX5, "spells", "(LHouseFiddles$Table;Ljava/lang/String;II)Z"⟩, prog_7_method_9_code, 5, some .boolean, 5, 106)
def yyO_wordNumber : xY := (⟨RX5, "wordNumber", "(LHouseFiddles$Table;II)I"⟩, prog_7_method_8_code, 4, some .int, 6, 130)
def yyO_add : xY := (⟨RX5, "add", "(III)V"⟩, prog_7_method_5_code, 5, none, 1, 24)
def yyO_numberAt : xY := (⟨RX5, "numberAt", "(LHouseFiddles$Table;II)I"⟩, prog_7_method_7_code, 4, some .int, 1, 23)
def yyO_splitOne : xY := (⟨RX5, "splitOne", "(LHouseFiddles$Table;I)I"⟩, prog_7_method_4_code, 5, some .int, 7, 153)
def yyO_split : xY := (⟨RX5, "split", "(LHouseFiddles$Table;)V"⟩, prog_7_method_3_code, 4, none, 8, 177)
def yyO_next : xY := (⟨RX5, "next", "()I"⟩, prog_7_method_2_code, 2, some .int, 1, 20)
def yyR_take : xY := (⟨RX2, "take", "()V"⟩, prog_4_method_12_code, 2, none, 2, 41)
def yyR_takeStop : xY := (⟨RX2, "takeStop", "()Z"⟩, prog_4_method_10_code, 1, some .boolean, 3, 62)
def yyR_readWets : xY := (⟨RX2, "readWets", "()Z"⟩, prog_4_method_4_code, 2, some .boolean, 4, 82)
def yyR_takeNumber : xY := (⟨RX2, "takeNumber", "(II)I"⟩, prog_4_method_11_code, 3, some .int, 3, 62)
def yyR_readBoard : xY := (⟨RX2, "readBoard", "()Z"⟩, prog_4_method_5_code, 5, some .boolean, 4, 84)
def yyR_readInstrument : xY := (⟨RX2, "readInstrument", "()Z"⟩, prog_4_method_6_code, 2, some .boolean, 4, 84)
def yyB_isFree : xY := (⟨RX0, "isFree", "(I)Z"⟩, prog_2_method_9_code, 2, some .boolean, 1, 23)
def yyB_maskIn : xY := (⟨RX0, "maskIn", "(I)I"⟩, prog_2_method_10_code, 4, some .int, 1, 23)
def yyJ_bitCount : xY := (⟨RJ6, "bitCount", "(I)I"⟩, prog_12_method_49_code, 1, some .int, 0, 0)
def yyB_manyIn : xY := (⟨RX0, "manyIn", "(I)I"⟩, prog_2_method_11_code, 2, some .int, 2, 46)
def yyR_readCut : xY := (⟨RX2, "readCut", "()Z"⟩, prog_4_method_7_code, 3, some .boolean, 4, 84)
def yyR_readWorm : xY := (⟨RX2, "readWorm", "()Z"⟩, prog_4_method_8_code, 2, some .boolean, 4, 84)
def yyB_wormyNext : xY := (⟨RX0, "wormyNext", "()I"⟩, prog_2_method_19_code, 5, some .int, 1, 23)
def yyB_moreDamp : xY := (⟨RX0, "moreDamp", "(II)V"⟩, prog_2_method_16_code, 3, none, 1, 24)
def yyB_lessDamp : xY := (⟨RX0, "lessDamp", "(II)V"⟩, prog_2_method_15_code, 3, none, 1, 24)
def yyB_passYear : xY := (⟨RX0, "passYear", "(LHouseFiddles$Table;)V"⟩, prog_2_method_18_code, 5, none, 2, 47)
def yyW_passYears : xY := (⟨RX6, "passYears", "(I)V"⟩, prog_8_method_9_code, 3, none, 3, 71)
def yyR_readYears : xY := (⟨RX2, "readYears", "()Z"⟩, prog_4_method_9_code, 2, some .boolean, 4, 93)
def yyR_readItem : xY := (⟨RX2, "readItem", "(Z)Z"⟩, prog_4_method_3_code, 2, some .boolean, 5, 114)
def yyR_readAll : xY := (⟨RX2, "readAll", "(LHouseFiddles$Table;)I"⟩, prog_4_method_2_code, 3, some .int, 9, 200)
def yyT_become : xY := (⟨RX4, "become", "(LHouseFiddles$Table;)V"⟩, prog_6_method_9_code, 2, none, 1, 26)
def yyB_become : xY := (⟨RX0, "become", "(LHouseFiddles$Boards;)V"⟩, prog_2_method_7_code, 2, none, 2, 47)
def yyW_become : xY := (⟨RX6, "become", "(LHouseFiddles$Town;)V"⟩, prog_8_method_4_code, 2, none, 3, 68)
def yyH_read : xY := (⟨RX8, "read", "()I"⟩, prog_1_method_9_code, 2, some .int, 10, 222)
def yyT_dropFirst : xY := (⟨RX4, "dropFirst", "()V"⟩, prog_6_method_6_code, 1, none, 1, 26)
def yyB_keepIn : xY := (⟨RX0, "keepIn", "(LHouseFiddles$Table;I)V"⟩, prog_2_method_20_code, 5, none, 1, 24)
def yyW_remember : xY := (⟨RX6, "remember", "()V"⟩, prog_8_method_7_code, 1, none, 2, 48)
def yyB_wormy : xY := (⟨RX0, "wormy", "()I"⟩, prog_2_method_13_code, 3, some .int, 1, 23)
def yyH_year : xY := (⟨RX8, "year", "(I)I"⟩, prog_1_method_10_code, 2, some .int, 4, 93)
def yyW_hasInstrument : xY := (⟨RX6, "hasInstrument", "(I)Z"⟩, prog_8_method_5_code, 2, some .boolean, 1, 20)
def yyH_no : xY := (⟨RX8, "no", "()I"⟩, prog_1_method_52_code, 1, some .int, 0, 0)
def yyH_cuts : xY := (⟨RX8, "cuts", "(II)I"⟩, prog_1_method_11_code, 3, some .int, 3, 68)
def yyH_takes : xY := (⟨RX8, "takes", "(I)I"⟩, prog_1_method_12_code, 3, some .int, 3, 68)
def yyH_dries : xY := (⟨RX8, "dries", "(II)I"⟩, prog_1_method_13_code, 3, some .int, 3, 68)
def yyB_goBackTo : xY := (⟨RX0, "goBackTo", "(LHouseFiddles$Table;I)V"⟩, prog_2_method_21_code, 5, none, 1, 24)
def yyT_dropLast : xY := (⟨RX4, "dropLast", "()V"⟩, prog_6_method_5_code, 1, none, 1, 21)
def yyW_stepBack : xY := (⟨RX6, "stepBack", "()V"⟩, prog_8_method_8_code, 1, none, 2, 48)
def yyH_undo : xY := (⟨RX8, "undo", "()I"⟩, prog_1_method_14_code, 1, some .int, 3, 68)
def yyH_of : xY := (⟨RX8, "of", "(II)I"⟩, prog_1_method_15_code, 3, some .int, 2, 45)
def yyB_housesIn : xY := (⟨RX0, "housesIn", "(I)I"⟩, prog_2_method_12_code, 4, some .int, 1, 23)
def yyH_about : xY := (⟨RX8, "about", "(II)I"⟩, prog_1_method_16_code, 3, some .int, 3, 67)
def yyH_isString : xY := (⟨RX8, "isString", "(I)Z"⟩, prog_1_method_47_code, 1, some .boolean, 1, 22)
def yyD_door : xY := (⟨RX7, "door", "(II)I"⟩, prog_9_method_3_code, 2, some .int, 1, 21)
def yyD_stair : xY := (⟨RX7, "stair", "(II)I"⟩, prog_9_method_4_code, 2, some .int, 0, 0)
def yyD_sill : xY := (⟨RX7, "sill", "(II)I"⟩, prog_9_method_5_code, 2, some .int, 0, 0)
def yyD_attic : xY := (⟨RX7, "attic", "(II)I"⟩, prog_9_method_6_code, 2, some .int, 0, 0)
def yyD_kitchen : xY := (⟨RX7, "kitchen", "(II)I"⟩, prog_9_method_7_code, 2, some .int, 0, 0)
def yyD_marble : xY := (⟨RX7, "marble", "(I)I"⟩, prog_9_method_8_code, 1, some .int, 0, 0)
def yyD_soundBy : xY := (⟨RX7, "soundBy", "(IIII)I"⟩, prog_9_method_2_code, 4, some .int, 2, 42)
def yyB_soundOf : xY := (⟨RX0, "soundOf", "(II)I"⟩, prog_2_method_17_code, 4, some .int, 3, 65)
def yyH_sounds : xY := (⟨RX8, "sounds", "(II)I"⟩, prog_1_method_17_code, 3, some .int, 4, 88)
def yyH_holdsBit : xY := (⟨RX8, "holdsBit", "(II)Z"⟩, prog_1_method_49_code, 2, some .boolean, 0, 0)
def yyS_lent : xY := (⟨RX3, "lent", "(II)I"⟩, prog_5_method_3_code, 2, some .int, 1, 21)
def yyS_cello : xY := (⟨RX3, "cello", "(II)I"⟩, prog_5_method_4_code, 2, some .int, 0, 0)
def yyS_tenement : xY := (⟨RX3, "tenement", "(II)I"⟩, prog_5_method_5_code, 2, some .int, 0, 0)
def yyS_squeak : xY := (⟨RX3, "squeak", "(III)I"⟩, prog_5_method_6_code, 3, some .int, 0, 0)
def yyS_bass : xY := (⟨RX3, "bass", "(II)I"⟩, prog_5_method_7_code, 2, some .int, 0, 0)
def yyS_playBy : xY := (⟨RX3, "playBy", "(IIIII)I"⟩, prog_5_method_2_code, 5, some .int, 2, 42)
def yyW_playOn : xY := (⟨RX6, "playOn", "(LHouseFiddles$Boards;III)I"⟩, prog_8_method_11_code, 9, some .int, 4, 88)
def yyW_playOf : xY := (⟨RX6, "playOf", "(II)I"⟩, prog_8_method_10_code, 3, some .int, 5, 116)
def yyH_plays : xY := (⟨RX8, "plays", "(II)I"⟩, prog_1_method_18_code, 3, some .int, 6, 138)
def yyH_then : xY := (⟨RX8, "then", "(III)I"⟩, prog_1_method_19_code, 5, some .int, 5, 116)
def yyH_waits : xY := (⟨RX8, "waits", "(III)I"⟩, prog_1_method_20_code, 5, some .int, 4, 88)
def yyH_playDried : xY := (⟨RX8, "playDried", "(III)I"⟩, prog_1_method_54_code, 5, some .int, 5, 116)
def yyH_dry : xY := (⟨RX8, "dry", "(III)I"⟩, prog_1_method_21_code, 5, some .int, 6, 140)
def yyH_isPartOf : xY := (⟨RX8, "isPartOf", "(II)Z"⟩, prog_1_method_48_code, 2, some .boolean, 0, 0)
def yyH_tune : xY := (⟨RX8, "tune", "(III)I"⟩, prog_1_method_22_code, 8, some .int, 5, 116)
def yyK_listen : xY := (⟨RX1, "listen", "(LHouseFiddles$Town;I)V"⟩, prog_3_method_2_code, 5, none, 5, 116)
def yyK_mostWithShare : xY := (⟨RX1, "mostWithShare", "(II)I"⟩, prog_3_method_4_code, 6, some .int, 1, 23)
def yyK_mostOfLeast : xY := (⟨RX1, "mostOfLeast", "(I)I"⟩, prog_3_method_3_code, 4, some .int, 2, 48)
def yyK_firstPlace : xY := (⟨RX1, "firstPlace", "(III)I"⟩, prog_3_method_6_code, 6, some .int, 3, 71)
def yyK_placeOf : xY := (⟨RX1, "placeOf", "(I)I"⟩, prog_3_method_5_code, 6, some .int, 4, 96)
def yyH_best : xY := (⟨RX8, "best", "(II)I"⟩, prog_1_method_23_code, 3, some .int, 6, 140)
def yyW_likeOnes : xY := (⟨RX6, "likeOnes", "(II)I"⟩, prog_8_method_12_code, 6, some .int, 6, 138)
def yyH_together : xY := (⟨RX8, "together", "(II)I"⟩, prog_1_method_24_code, 3, some .int, 7, 163)
def yyH_areFriends : xY := (⟨RX8, "areFriends", "(I)Z"⟩, prog_1_method_56_code, 3, some .boolean, 1, 23)
def yyH_orchestra : xY := (⟨RX8, "orchestra", "()I"⟩, prog_1_method_25_code, 5, some .int, 7, 163)
def yyH_heard : xY := (⟨RX8, "heard", "(II)I"⟩, prog_1_method_26_code, 4, some .int, 2, 42)
def yyW_soundsAsHeard : xY := (⟨RX6, "soundsAsHeard", "(I)Z"⟩, prog_8_method_14_code, 3, some .boolean, 4, 88)
def yyW_heardBoards : xY := (⟨RX6, "heardBoards", "()I"⟩, prog_8_method_13_code, 3, some .int, 5, 110)
def yyH_whose : xY := (⟨RX8, "whose", "()I"⟩, prog_1_method_27_code, 1, some .int, 6, 132)
def yyH_manyLike : xY := (⟨RX8, "manyLike", "(II)I"⟩, prog_1_method_58_code, 5, some .int, 1, 23)
def yyH_mostAlike : xY := (⟨RX8, "mostAlike", "(I)I"⟩, prog_1_method_57_code, 4, some .int, 2, 47)
def yyH_tells : xY := (⟨RX8, "tells", "()I"⟩, prog_1_method_28_code, 6, some .int, 6, 132)
def yyH_note : xY := (⟨RX8, "note", "(IIIII)I"⟩, prog_1_method_29_code, 7, some .int, 2, 42)
def yyH_mark : xY := (⟨RX8, "mark", "(IIIIII)I"⟩, prog_1_method_30_code, 8, some .int, 2, 42)
def yyH_forget : xY := (⟨RX8, "forget", "(I)I"⟩, prog_1_method_31_code, 4, some .int, 2, 41)
def yyW_soundsAsNoted : xY := (⟨RX6, "soundsAsNoted", "(II)Z"⟩, prog_8_method_16_code, 5, some .boolean, 3, 65)
def yyW_notedKinds : xY := (⟨RX6, "notedKinds", "(I)I"⟩, prog_8_method_15_code, 4, some .int, 4, 89)
def yyH_is : xY := (⟨RX8, "is", "(I)I"⟩, prog_1_method_32_code, 2, some .int, 5, 112)
def yyH_look : xY := (⟨RX8, "look", "(I)I"⟩, prog_1_method_33_code, 8, some .int, 5, 112)
def yyW_playsAsMarked : xY := (⟨RX6, "playsAsMarked", "(II)Z"⟩, prog_8_method_18_code, 6, some .boolean, 3, 66)
def yyW_markedKinds : xY := (⟨RX6, "markedKinds", "(I)I"⟩, prog_8_method_17_code, 4, some .int, 4, 91)
def yyH_kinds : xY := (⟨RX8, "kinds", "(I)I"⟩, prog_1_method_34_code, 2, some .int, 5, 114)
def yyH_mostAlikeAsked : xY := (⟨RX8, "mostAlikeAsked", "(IIII)I"⟩, prog_1_method_59_code, 6, some .int, 3, 70)
def yyH_ask : xY := (⟨RX8, "ask", "(I)I"⟩, prog_1_method_35_code, 9, some .int, 5, 114)
def yyH_firstGets : xY := (⟨RX8, "firstGets", "(III)I"⟩, prog_1_method_60_code, 3, some .int, 0, 0)
def yyH_secondGets : xY := (⟨RX8, "secondGets", "(III)I"⟩, prog_1_method_61_code, 3, some .int, 0, 0)
def yyH_rests : xY := (⟨RX8, "rests", "(III)Z"⟩, prog_1_method_62_code, 4, some .boolean, 1, 22)
def yyH_bids : xY := (⟨RX8, "bids", "(II)I"⟩, prog_1_method_36_code, 6, some .int, 6, 138)
def yyH_power : xY := (⟨RX8, "power", "(JI)J"⟩, prog_1_method_63_code, 6, some .long, 0, 0)
def yyH_playWeeping : xY := (⟨RX8, "playWeeping", "(III)I"⟩, prog_1_method_55_code, 5, some .int, 5, 116)
def yyH_commonDivisor : xY := (⟨RX8, "commonDivisor", "(JJ)J"⟩, prog_1_method_65_code, 11, some .long, 0, 0)
def yyH_keepFraction : xY := (⟨RX8, "keepFraction", "(JJ)V"⟩, prog_1_method_64_code, 7, none, 1, 30)
def yyH_weeps : xY := (⟨RX8, "weeps", "(III)I"⟩, prog_1_method_37_code, 11, some .int, 6, 140)
def yyH_generations : xY := (⟨RX8, "generations", "(II)I"⟩, prog_1_method_38_code, 9, some .int, 5, 116)
def yyH_part : xY := (⟨RX8, "part", "(I)J"⟩, prog_1_method_39_code, 2, some .long, 2, 41)
def yyH_image : xY := (⟨RX8, "image", "(I)I"⟩, prog_1_method_40_code, 2, some .int, 4, 89)
def yyH_from : xY := (⟨RX8, "from", "(I)I"⟩, prog_1_method_41_code, 2, some .int, 4, 89)
def yyH_status : xY := (⟨RX8, "status", "(I)I"⟩, prog_1_method_42_code, 2, some .int, 1, 21)
def yyB_dampOfAll : xY := (⟨RX0, "dampOfAll", "()I"⟩, prog_2_method_14_code, 3, some .int, 1, 23)
def yyH_count : xY := (⟨RX8, "count", "(I)I"⟩, prog_1_method_43_code, 2, some .int, 3, 67)
def yyT_mixedInto : xY := (⟨RX4, "mixedInto", "(J)J"⟩, prog_6_method_10_code, 7, some .long, 1, 23)
def yyH_digest : xY := (⟨RX8, "digest", "()J"⟩, prog_1_method_44_code, 4, some .long, 4, 88)
def yyM_in : xY := (⟨RX9, "in", "(JJJ)Z"⟩, prog_11_method_3_code, 6, some .boolean, 0, 0)
def yyM_has : xY := (⟨RX9, "has", "(II)Z"⟩, prog_11_method_4_code, 2, some .boolean, 0, 0)
def yyM_ones : xY := (⟨RX9, "ones", "(I)I"⟩, prog_11_method_5_code, 3, some .int, 0, 0)
def yyM_bad : xY := (⟨RX9, "bad", "(I)I"⟩, prog_11_method_6_code, 2, some .int, 0, 0)
def yyM_no : xY := (⟨RX9, "no", "()I"⟩, prog_11_method_7_code, 1, some .int, 0, 0)
def yyM_full : xY := (⟨RX9, "full", "()I"⟩, prog_11_method_8_code, 1, some .int, 0, 0)
def yyM_copy : xY := (⟨RX9, "copy", "(II)V"⟩, prog_11_method_9_code, 4, none, 0, 0)
def yyM_empties : xY := (⟨RX9, "empties", "(I)V"⟩, prog_11_method_10_code, 3, none, 0, 0)
def yyM_isBoard : xY := (⟨RX9, "isBoard", "(I)Z"⟩, prog_11_method_11_code, 2, some .boolean, 1, 25)
def yyM_isInstrument : xY := (⟨RX9, "isInstrument", "(I)Z"⟩, prog_11_method_12_code, 2, some .boolean, 1, 25)
def yyM_isString : xY := (⟨RX9, "isString", "(I)Z"⟩, prog_11_method_13_code, 1, some .boolean, 1, 25)
def yyM_door : xY := (⟨RX9, "door", "(II)I"⟩, prog_11_method_14_code, 3, some .int, 0, 0)
def yyM_stair : xY := (⟨RX9, "stair", "(III)I"⟩, prog_11_method_15_code, 3, some .int, 1, 22)
def yyM_sill : xY := (⟨RX9, "sill", "(III)I"⟩, prog_11_method_16_code, 3, some .int, 1, 22)
def yyM_soundOf : xY := (⟨RX9, "soundOf", "(IIII)I"⟩, prog_11_method_17_code, 4, some .int, 2, 44)
def yyM_lent : xY := (⟨RX9, "lent", "(II)I"⟩, prog_11_method_18_code, 3, some .int, 0, 0)
def yyM_playOf : xY := (⟨RX9, "playOf", "(IIIII)I"⟩, prog_11_method_19_code, 5, some .int, 1, 22)
def yyM_town : xY := (⟨RX9, "town", "()I"⟩, prog_11_method_20_code, 2, some .int, 1, 22)
def yyM_wet : xY := (⟨RX9, "wet", "(II)I"⟩, prog_11_method_21_code, 4, some .int, 1, 25)
def yyM_adds : xY := (⟨RX9, "adds", "(IIIII)V"⟩, prog_11_method_22_code, 7, none, 0, 0)
def yyM_board : xY := (⟨RX9, "board", "(IIII)I"⟩, prog_11_method_23_code, 5, some .int, 1, 26)
def yyM_make : xY := (⟨RX9, "make", "(I)I"⟩, prog_11_method_24_code, 2, some .int, 1, 25)
def yyM_worm : xY := (⟨RX9, "worm", "(II)I"⟩, prog_11_method_25_code, 4, some .int, 2, 46)
def yyM_type : xY := (⟨RX9, "type", "(I)I"⟩, prog_11_method_26_code, 2, some .int, 1, 25)
def yyM_clear : xY := (⟨RX9, "clear", "()I"⟩, prog_11_method_27_code, 2, some .int, 0, 0)
def yyM_byteAt : xY := (⟨RX9, "byteAt", "(I)I"⟩, prog_11_method_28_code, 2, some .int, 0, 0)
def yyM_blanks : xY := (⟨RX9, "blanks", "()V"⟩, prog_11_method_29_code, 1, none, 1, 21)
def yyM_takesWord : xY := (⟨RX9, "takesWord", "()V"⟩, prog_11_method_30_code, 1, none, 2, 41)
def yyM_isLetter : xY := (⟨RX9, "isLetter", "(III)Z"⟩, prog_11_method_32_code, 4, some .boolean, 0, 0)
def yyM_isWord : xY := (⟨RX9, "isWord", "(IIIIIII)Z"⟩, prog_11_method_31_code, 9, some .boolean, 1, 23)
def yyM_wordOf : xY := (⟨RX9, "wordOf", "()I"⟩, prog_11_method_33_code, 1, some .int, 2, 51)
def yyM_takesNumber : xY := (⟨RX9, "takesNumber", "(II)Z"⟩, prog_11_method_34_code, 3, some .boolean, 2, 41)
def yyM_takesEnd : xY := (⟨RX9, "takesEnd", "()Z"⟩, prog_11_method_35_code, 1, some .boolean, 2, 41)
def yyM_readsWet : xY := (⟨RX9, "readsWet", "()Z"⟩, prog_11_method_36_code, 2, some .boolean, 3, 63)
def yyM_readsBoard : xY := (⟨RX9, "readsBoard", "()Z"⟩, prog_11_method_37_code, 4, some .boolean, 3, 63)
def yyM_readsMake : xY := (⟨RX9, "readsMake", "()Z"⟩, prog_11_method_38_code, 1, some .boolean, 3, 63)
def yyM_boardsOf : xY := (⟨RX9, "boardsOf", "(II)I"⟩, prog_11_method_44_code, 5, some .int, 0, 0)
def yyM_readsCut : xY := (⟨RX9, "readsCut", "()Z"⟩, prog_11_method_39_code, 2, some .boolean, 3, 63)
def yyM_readsWorm : xY := (⟨RX9, "readsWorm", "()Z"⟩, prog_11_method_40_code, 1, some .boolean, 3, 63)
def yyM_passes : xY := (⟨RX9, "passes", "(I)V"⟩, prog_11_method_45_code, 7, none, 0, 0)
def yyM_readsYears : xY := (⟨RX9, "readsYears", "()Z"⟩, prog_11_method_41_code, 2, some .boolean, 3, 63)
def yyM_readsItem : xY := (⟨RX9, "readsItem", "(Z)Z"⟩, prog_11_method_42_code, 4, some .boolean, 4, 86)
def yyM_read : xY := (⟨RX9, "read", "()I"⟩, prog_11_method_43_code, 3, some .int, 5, 109)
def yyM_minds : xY := (⟨RX9, "minds", "()V"⟩, prog_11_method_46_code, 3, none, 0, 0)
def yyM_sumOf : xY := (⟨RX9, "sumOf", "(I)I"⟩, prog_11_method_47_code, 4, some .int, 0, 0)
def yyM_year : xY := (⟨RX9, "year", "(I)I"⟩, prog_11_method_48_code, 3, some .int, 1, 26)
def yyM_cuts : xY := (⟨RX9, "cuts", "(II)I"⟩, prog_11_method_49_code, 3, some .int, 2, 46)
def yyM_takes : xY := (⟨RX9, "takes", "(I)I"⟩, prog_11_method_50_code, 3, some .int, 2, 46)
def yyM_less : xY := (⟨RX9, "less", "(II)I"⟩, prog_11_method_51_code, 2, some .int, 0, 0)
def yyM_dries : xY := (⟨RX9, "dries", "(II)I"⟩, prog_11_method_52_code, 3, some .int, 2, 46)
def yyM_undo : xY := (⟨RX9, "undo", "()I"⟩, prog_11_method_53_code, 3, some .int, 1, 20)
def yyM_ofBoard : xY := (⟨RX9, "ofBoard", "(II)I"⟩, prog_11_method_54_code, 3, some .int, 0, 0)
def yyM_of : xY := (⟨RX9, "of", "(II)I"⟩, prog_11_method_55_code, 3, some .int, 2, 46)
def yyM_housesOf : xY := (⟨RX9, "housesOf", "(II)I"⟩, prog_11_method_56_code, 5, some .int, 1, 22)
def yyM_about : xY := (⟨RX9, "about", "(II)I"⟩, prog_11_method_57_code, 3, some .int, 2, 46)
def yyM_soundsIn : xY := (⟨RX9, "soundsIn", "(III)I"⟩, prog_11_method_58_code, 5, some .int, 3, 67)
def yyM_playsIn : xY := (⟨RX9, "playsIn", "(III)I"⟩, prog_11_method_59_code, 6, some .int, 4, 91)
def yyM_sounds : xY := (⟨RX9, "sounds", "(II)I"⟩, prog_11_method_60_code, 3, some .int, 4, 91)
def yyM_plays : xY := (⟨RX9, "plays", "(II)I"⟩, prog_11_method_61_code, 3, some .int, 5, 116)
def yyM_tries : xY := (⟨RX9, "tries", "()V"⟩, prog_11_method_62_code, 2, none, 0, 0)
def yyM_then : xY := (⟨RX9, "then", "(III)I"⟩, prog_11_method_63_code, 5, some .int, 5, 116)
def yyM_waits : xY := (⟨RX9, "waits", "(III)I"⟩, prog_11_method_64_code, 5, some .int, 4, 91)
def yyM_dry : xY := (⟨RX9, "dry", "(III)I"⟩, prog_11_method_65_code, 6, some .int, 5, 116)
def yyM_freeOnes : xY := (⟨RX9, "freeOnes", "()I"⟩, prog_11_method_66_code, 3, some .int, 0, 0)
def yyM_tune : xY := (⟨RX9, "tune", "(III)I"⟩, prog_11_method_67_code, 9, some .int, 5, 116)
def yyM_poorest : xY := (⟨RX9, "poorest", "(I)I"⟩, prog_11_method_68_code, 5, some .int, 5, 116)
def yyM_hasRoom : xY := (⟨RX9, "hasRoom", "()Z"⟩, prog_11_method_69_code, 3, some .boolean, 1, 24)
def yyM_best : xY := (⟨RX9, "best", "(II)I"⟩, prog_11_method_70_code, 10, some .int, 6, 140)
def yyM_areNear : xY := (⟨RX9, "areNear", "(III)Z"⟩, prog_11_method_71_code, 4, some .boolean, 5, 116)
def yyM_together : xY := (⟨RX9, "together", "(II)I"⟩, prog_11_method_72_code, 5, some .int, 6, 139)
def yyM_orchestra : xY := (⟨RX9, "orchestra", "()I"⟩, prog_11_method_73_code, 7, some .int, 6, 139)
def yyM_heard : xY := (⟨RX9, "heard", "(II)I"⟩, prog_11_method_74_code, 3, some .int, 2, 45)
def yyM_whose : xY := (⟨RX9, "whose", "()I"⟩, prog_11_method_75_code, 5, some .int, 4, 91)
def yyM_greatest : xY := (⟨RX9, "greatest", "(I)I"⟩, prog_11_method_76_code, 6, some .int, 1, 21)
def yyM_tells : xY := (⟨RX9, "tells", "()I"⟩, prog_11_method_77_code, 6, some .int, 5, 115)
def yyM_note : xY := (⟨RX9, "note", "(IIIII)I"⟩, prog_11_method_78_code, 7, some .int, 2, 46)
def yyM_mark : xY := (⟨RX9, "mark", "(IIIIII)I"⟩, prog_11_method_79_code, 8, some .int, 2, 46)
def yyM_forget : xY := (⟨RX9, "forget", "(I)I"⟩, prog_11_method_80_code, 4, some .int, 1, 25)
def yyM_kindsOf : xY := (⟨RX9, "kindsOf", "(I)I"⟩, prog_11_method_81_code, 7, some .int, 3, 67)
def yyM_is : xY := (⟨RX9, "is", "(I)I"⟩, prog_11_method_82_code, 2, some .int, 4, 93)
def yyM_look : xY := (⟨RX9, "look", "(I)I"⟩, prog_11_method_83_code, 7, some .int, 4, 93)
def yyM_instrumentsOf : xY := (⟨RX9, "instrumentsOf", "(I)I"⟩, prog_11_method_84_code, 7, some .int, 2, 46)
def yyM_kinds : xY := (⟨RX9, "kinds", "(I)I"⟩, prog_11_method_85_code, 2, some .int, 3, 72)
def yyM_ask : xY := (⟨RX9, "ask", "(I)I"⟩, prog_11_method_86_code, 10, some .int, 3, 72)
def yyM_getsBy : xY := (⟨RX9, "getsBy", "(IIIZ)I"⟩, prog_11_method_87_code, 4, some .int, 0, 0)
def yyM_rests : xY := (⟨RX9, "rests", "(III)Z"⟩, prog_11_method_88_code, 5, some .boolean, 1, 23)
def yyM_bids : xY := (⟨RX9, "bids", "(II)I"⟩, prog_11_method_89_code, 7, some .int, 5, 116)
def yyM_weeps : xY := (⟨RX9, "weeps", "(III)I"⟩, prog_11_method_90_code, 14, some .int, 5, 116)
def yyM_generations : xY := (⟨RX9, "generations", "(II)I"⟩, prog_11_method_91_code, 9, some .int, 5, 116)
def yyM_part : xY := (⟨RX9, "part", "(I)J"⟩, prog_11_method_92_code, 2, some .long, 1, 21)
def yyM_image : xY := (⟨RX9, "image", "(I)I"⟩, prog_11_method_93_code, 2, some .int, 1, 25)
def yyM_from : xY := (⟨RX9, "from", "(I)I"⟩, prog_11_method_94_code, 2, some .int, 1, 25)
def yyM_status : xY := (⟨RX9, "status", "(I)I"⟩, prog_11_method_95_code, 2, some .int, 1, 25)
def yyM_countOf : xY := (⟨RX9, "countOf", "(I)I"⟩, prog_11_method_96_code, 2, some .int, 1, 23)
def yyM_count : xY := (⟨RX9, "count", "(I)I"⟩, prog_11_method_97_code, 2, some .int, 2, 44)
def yyM_mix : xY := (⟨RX9, "mix", "(J)V"⟩, prog_11_method_98_code, 3, none, 0, 0)
def yyM_digest : xY := (⟨RX9, "digest", "()J"⟩, prog_11_method_99_code, 3, some .long, 2, 44)
theorem fl_RX4_28 : Cond.fieldLink RX4 28 "HouseFiddles$Table" "used" "I" ∈ lw_tb := lw_tb_at 51 (by decide +kernel) rfl
theorem fl_RX0_14 : Cond.fieldLink RX0 14 "HouseFiddles$Boards" "cells" "LHouseFiddles$Table;" ∈ lw_tb := lw_tb_at 62 (by decide +kernel) rfl
theorem cv_T_many : xcv yyT_many 0 := ⟨⟨lw_tb_at 255 (by decide +kernel) rfl, lw_tb_at 4 (by decide +kernel) rfl, ⟨by decide +kernel, by decide +kernel⟩, by decide +kernel⟩, lw_tb_at 253 (by decide +kernel) rfl, lw_tb_at 254 (by decide +kernel) rfl⟩
theorem ml_RX0_20 : Cond.methodLink RX0 20 ⟨"HouseFiddles$Table", "many", "()I"⟩ ∈ lw_tb := lw_tb_at 252 (by decide +kernel) rfl
theorem cv_T_empty : xcv yyT_empty 0 := ⟨⟨lw_tb_at 81 (by decide +kernel) rfl, lw_tb_at 4 (by decide +kernel) rfl, ⟨by decide +kernel, by decide +kernel⟩, by decide +kernel⟩, lw_tb_at 79 (by decide +kernel) rfl, lw_tb_at 80 (by decide +kernel) rfl⟩
theorem ml_RX0_32 : Cond.methodLink RX0 32 ⟨"HouseFiddles$Table", "empty", "()V"⟩ ∈ lw_tb := lw_tb_at 264 (by decide +kernel) rfl
theorem fl_RX0_35 : Cond.fieldLink RX0 35 "HouseFiddles$Boards" "year" "I" ∈ lw_tb := lw_tb_at 64 (by decide +kernel) rfl
theorem fl_RX4_15 : Cond.fieldLink RX4 15 "HouseFiddles$Table" "rows" "I" ∈ lw_tb := lw_tb_at 47 (by decide +kernel) rfl
theorem fl_RX4_21 : Cond.fieldLink RX4 21 "HouseFiddles$Table" "width" "I" ∈ lw_tb := lw_tb_at 49 (by decide +kernel) rfl
theorem fl_RX4_24 : Cond.fieldLink RX4 24 "HouseFiddles$Table" "cells" "[I" ∈ lw_tb := lw_tb_at 50 (by decide +kernel) rfl
theorem fl_RX6_27 : Cond.fieldLink RX6 27 "HouseFiddles$Town" "wets" "LHouseFiddles$Table;" ∈ lw_tb := lw_tb_at 96 (by decide +kernel) rfl
theorem ml_RX6_45 : Cond.methodLink RX6 45 ⟨"HouseFiddles$Table", "empty", "()V"⟩ ∈ lw_tb := lw_tb_at 78 (by decide +kernel) rfl
theorem cv_T_newRow : xcv yyT_newRow 0 := ⟨⟨lw_tb_at 85 (by decide +kernel) rfl, lw_tb_at 4 (by decide +kernel) rfl, ⟨by decide +kernel, by decide +kernel⟩, by decide +kernel⟩, lw_tb_at 83 (by decide +kernel) rfl, lw_tb_at 84 (by decide +kernel) rfl⟩
theorem ml_RX6_48 : Cond.methodLink RX6 48 ⟨"HouseFiddles$Table", "newRow", "()I"⟩ ∈ lw_tb := lw_tb_at 82 (by decide +kernel) rfl
theorem cv_T_put : xcv yyT_put 3 := ⟨⟨lw_tb_at 89 (by decide +kernel) rfl, lw_tb_at 4 (by decide +kernel) rfl, ⟨by decide +kernel, by decide +kernel⟩, by decide +kernel⟩, lw_tb_at 87 (by decide +kernel) rfl, lw_tb_at 88 (by decide +kernel) rfl⟩
theorem ml_RX6_52 : Cond.methodLink RX6 52 ⟨"HouseFiddles$Table", "put", "(III)V"⟩ ∈ lw_tb := lw_tb_at 86 (by decide +kernel) rfl
theorem fl_RX6_12 : Cond.fieldLink RX6 12 "HouseFiddles$Town" "boards" "LHouseFiddles$Boards;" ∈ lw_tb := lw_tb_at 90 (by decide +kernel) rfl
theorem cv_B_empty : xcv yyB_empty 0 := ⟨⟨lw_tb_at 263 (by decide +kernel) rfl, lw_tb_at 3 (by decide +kernel) rfl, ⟨by decide +kernel, by decide +kernel⟩, by decide +kernel⟩, lw_tb_at 261 (by decide +kernel) rfl, lw_tb_at 262 (by decide +kernel) rfl⟩
theorem ml_RX6_56 : Cond.methodLink RX6 56 ⟨"HouseFiddles$Boards", "empty", "()V"⟩ ∈ lw_tb := lw_tb_at 260 (by decide +kernel) rfl
theorem fl_RX6_23 : Cond.fieldLink RX6 23 "HouseFiddles$Town" "past" "LHouseFiddles$Table;" ∈ lw_tb := lw_tb_at 94 (by decide +kernel) rfl
theorem cv_W_dryWets : xcv yyW_dryWets 0 := ⟨⟨lw_tb_at 77 (by decide +kernel) rfl, lw_tb_at 2 (by decide +kernel) rfl, ⟨by decide +kernel, by decide +kernel⟩, by decide +kernel⟩, lw_tb_at 76 (by decide +kernel) rfl, lw_tb_sel 0 (by decide +kernel) rfl⟩
theorem ml_RX6_42 : Cond.methodLink RX6 42 ⟨"HouseFiddles$Town", "dryWets", "()V"⟩ ∈ lw_tb := lw_tb_at 74 (by decide +kernel) rfl
theorem fl_RX6_30 : Cond.fieldLink RX6 30 "HouseFiddles$Town" "instruments" "LHouseFiddles$Table;" ∈ lw_tb := lw_tb_at 99 (by decide +kernel) rfl
theorem fl_RX6_33 : Cond.fieldLink RX6 33 "HouseFiddles$Town" "heardOnes" "LHouseFiddles$Table;" ∈ lw_tb := lw_tb_at 103 (by decide +kernel) rfl
theorem fl_RX6_36 : Cond.fieldLink RX6 36 "HouseFiddles$Town" "notes" "LHouseFiddles$Table;" ∈ lw_tb := lw_tb_at 105 (by decide +kernel) rfl
theorem fl_RX6_39 : Cond.fieldLink RX6 39 "HouseFiddles$Town" "marks" "LHouseFiddles$Table;" ∈ lw_tb := lw_tb_at 107 (by decide +kernel) rfl
theorem fl_RX8_10 : Cond.fieldLink RX8 10 "HouseFiddles" "now" "LHouseFiddles$Town;" ∈ lw_tb := lw_tb_at 195 (by decide +kernel) rfl
theorem fl_RX8_68 : Cond.fieldLink RX8 68 "HouseFiddles$Town" "boards" "LHouseFiddles$Boards;" ∈ lw_tb := lw_tb_at 92 (by decide +kernel) rfl
theorem cv_B_many : xcv yyB_many 0 := ⟨⟨lw_tb_at 251 (by decide +kernel) rfl, lw_tb_at 3 (by decide +kernel) rfl, ⟨by decide +kernel, by decide +kernel⟩, by decide +kernel⟩, lw_tb_at 249 (by decide +kernel) rfl, lw_tb_at 250 (by decide +kernel) rfl⟩
theorem ml_RX8_71 : Cond.methodLink RX8 71 ⟨"HouseFiddles$Boards", "many", "()I"⟩ ∈ lw_tb := lw_tb_at 248 (by decide +kernel) rfl
theorem cv_W_empty : xcv yyW_empty 0 := ⟨⟨lw_tb_at 259 (by decide +kernel) rfl, lw_tb_at 2 (by decide +kernel) rfl, ⟨by decide +kernel, by decide +kernel⟩, by decide +kernel⟩, lw_tb_at 257 (by decide +kernel) rfl, lw_tb_at 258 (by decide +kernel) rfl⟩
theorem ml_RX8_75 : Cond.methodLink RX8 75 ⟨"HouseFiddles$Town", "empty", "()V"⟩ ∈ lw_tb := lw_tb_at 256 (by decide +kernel) rfl
theorem fl_RX8_305 : Cond.fieldLink RX8 305 "HouseFiddles" "bads" "I" ∈ lw_tb := lw_tb_at 208 (by decide +kernel) rfl
theorem cv_H_badAs : xcv yyH_badAs 1 := ⟨⟨lw_tb_at 279 (by decide +kernel) rfl, lw_tb_at 1 (by decide +kernel) rfl, ⟨by decide +kernel, by decide +kernel⟩, by decide +kernel⟩, lw_tb_at 278 (by decide +kernel) rfl, lw_tb_sel 2 (by decide +kernel) rfl⟩
theorem ml_RX8_212 : Cond.methodLink RX8 212 ⟨"HouseFiddles", "badAs", "(I)I"⟩ ∈ lw_tb := lw_tb_at 276 (by decide +kernel) rfl
theorem cs_H_within : xcs yyH_within 3 := ⟨⟨lw_tb_at 271 (by decide +kernel) rfl, lw_tb_at 1 (by decide +kernel) rfl, ⟨by decide +kernel, by decide +kernel⟩, by decide +kernel⟩, lw_tb_at 270 (by decide +kernel) rfl⟩
theorem ml_RX8_78 : Cond.methodLink RX8 78 ⟨"HouseFiddles", "within", "(III)Z"⟩ ∈ lw_tb := lw_tb_at 269 (by decide +kernel) rfl
theorem cv_H_bad : xcv yyH_bad 0 := ⟨⟨lw_tb_at 275 (by decide +kernel) rfl, lw_tb_at 1 (by decide +kernel) rfl, ⟨by decide +kernel, by decide +kernel⟩, by decide +kernel⟩, lw_tb_at 274 (by decide +kernel) rfl, lw_tb_sel 1 (by decide +kernel) rfl⟩
theorem ml_RX8_82 : Cond.methodLink RX8 82 ⟨"HouseFiddles", "bad", "()I"⟩ ∈ lw_tb := lw_tb_at 272 (by decide +kernel) rfl
theorem fl_RX8_85 : Cond.fieldLink RX8 85 "HouseFiddles$Town" "wets" "LHouseFiddles$Table;" ∈ lw_tb := lw_tb_at 97 (by decide +kernel) rfl
theorem cv_T_get : xcv yyT_get 2 := ⟨⟨lw_tb_at 283 (by decide +kernel) rfl, lw_tb_at 4 (by decide +kernel) rfl, ⟨by decide +kernel, by decide +kernel⟩, by decide +kernel⟩, lw_tb_at 281 (by decide +kernel) rfl, lw_tb_at 282 (by decide +kernel) rfl⟩
theorem ml_RX8_88 : Cond.methodLink RX8 88 ⟨"HouseFiddles$Table", "get", "(II)I"⟩ ∈ lw_tb := lw_tb_at 280 (by decide +kernel) rfl
theorem ml_RX8_91 : Cond.methodLink RX8 91 ⟨"HouseFiddles$Table", "put", "(III)V"⟩ ∈ lw_tb := lw_tb_at 284 (by decide +kernel) rfl
theorem fl_RX8_95 : Cond.fieldLink RX8 95 "HouseFiddles$Town" "past" "LHouseFiddles$Table;" ∈ lw_tb := lw_tb_at 95 (by decide +kernel) rfl
theorem ml_RX8_98 : Cond.methodLink RX8 98 ⟨"HouseFiddles$Table", "empty", "()V"⟩ ∈ lw_tb := lw_tb_at 285 (by decide +kernel) rfl
theorem fl_RX8_311 : Cond.fieldLink RX8 311 "HouseFiddles" "fulls" "I" ∈ lw_tb := lw_tb_at 210 (by decide +kernel) rfl
theorem ml_RX0_43 : Cond.methodLink RX0 43 ⟨"HouseFiddles$Table", "newRow", "()I"⟩ ∈ lw_tb := lw_tb_at 301 (by decide +kernel) rfl
theorem ml_RX0_28 : Cond.methodLink RX0 28 ⟨"HouseFiddles$Table", "put", "(III)V"⟩ ∈ lw_tb := lw_tb_at 302 (by decide +kernel) rfl
theorem cs_H_isKind : xcs yyH_isKind 1 := ⟨⟨lw_tb_at 292 (by decide +kernel) rfl, lw_tb_at 1 (by decide +kernel) rfl, ⟨by decide +kernel, by decide +kernel⟩, by decide +kernel⟩, lw_tb_at 291 (by decide +kernel) rfl⟩
theorem ml_RX8_99 : Cond.methodLink RX8 99 ⟨"HouseFiddles", "isKind", "(I)Z"⟩ ∈ lw_tb := lw_tb_at 290 (by decide +kernel) rfl
theorem cv_B_bring : xcv yyB_bring 4 := ⟨⟨lw_tb_at 300 (by decide +kernel) rfl, lw_tb_at 3 (by decide +kernel) rfl, ⟨by decide +kernel, by decide +kernel⟩, by decide +kernel⟩, lw_tb_at 298 (by decide +kernel) rfl, lw_tb_at 299 (by decide +kernel) rfl⟩
theorem ml_RX8_106 : Cond.methodLink RX8 106 ⟨"HouseFiddles$Boards", "bring", "(IIII)I"⟩ ∈ lw_tb := lw_tb_at 297 (by decide +kernel) rfl
theorem cv_H_full : xcv yyH_full 0 := ⟨⟨lw_tb_at 296 (by decide +kernel) rfl, lw_tb_at 1 (by decide +kernel) rfl, ⟨by decide +kernel, by decide +kernel⟩, by decide +kernel⟩, lw_tb_at 295 (by decide +kernel) rfl, lw_tb_sel 3 (by decide +kernel) rfl⟩
theorem ml_RX8_103 : Cond.methodLink RX8 103 ⟨"HouseFiddles", "full", "()I"⟩ ∈ lw_tb := lw_tb_at 293 (by decide +kernel) rfl
theorem fl_RX8_110 : Cond.fieldLink RX8 110 "HouseFiddles$Town" "instruments" "LHouseFiddles$Table;" ∈ lw_tb := lw_tb_at 101 (by decide +kernel) rfl
theorem ml_RX8_113 : Cond.methodLink RX8 113 ⟨"HouseFiddles$Table", "many", "()I"⟩ ∈ lw_tb := lw_tb_at 307 (by decide +kernel) rfl
theorem cv_W_bringInstrument : xcv yyW_bringInstrument 1 := ⟨⟨lw_tb_at 311 (by decide +kernel) rfl, lw_tb_at 2 (by decide +kernel) rfl, ⟨by decide +kernel, by decide +kernel⟩, by decide +kernel⟩, lw_tb_at 309 (by decide +kernel) rfl, lw_tb_at 310 (by decide +kernel) rfl⟩
theorem ml_RX8_114 : Cond.methodLink RX8 114 ⟨"HouseFiddles$Town", "bringInstrument", "(I)I"⟩ ∈ lw_tb := lw_tb_at 308 (by decide +kernel) rfl
theorem ml_RX0_24 : Cond.methodLink RX0 24 ⟨"HouseFiddles$Table", "get", "(II)I"⟩ ∈ lw_tb := lw_tb_at 324 (by decide +kernel) rfl
theorem cv_B_has : xcv yyB_has 1 := ⟨⟨lw_tb_at 319 (by decide +kernel) rfl, lw_tb_at 3 (by decide +kernel) rfl, ⟨by decide +kernel, by decide +kernel⟩, by decide +kernel⟩, lw_tb_at 317 (by decide +kernel) rfl, lw_tb_at 318 (by decide +kernel) rfl⟩
theorem ml_RX8_118 : Cond.methodLink RX8 118 ⟨"HouseFiddles$Boards", "has", "(I)Z"⟩ ∈ lw_tb := lw_tb_at 316 (by decide +kernel) rfl
theorem cv_B_cell : xcv yyB_cell 2 := ⟨⟨lw_tb_at 323 (by decide +kernel) rfl, lw_tb_at 3 (by decide +kernel) rfl, ⟨by decide +kernel, by decide +kernel⟩, by decide +kernel⟩, lw_tb_at 321 (by decide +kernel) rfl, lw_tb_at 322 (by decide +kernel) rfl⟩
theorem ml_RX8_121 : Cond.methodLink RX8 121 ⟨"HouseFiddles$Boards", "cell", "(II)I"⟩ ∈ lw_tb := lw_tb_at 320 (by decide +kernel) rfl
theorem cv_B_set : xcv yyB_set 3 := ⟨⟨lw_tb_at 328 (by decide +kernel) rfl, lw_tb_at 3 (by decide +kernel) rfl, ⟨by decide +kernel, by decide +kernel⟩, by decide +kernel⟩, lw_tb_at 326 (by decide +kernel) rfl, lw_tb_at 327 (by decide +kernel) rfl⟩
theorem ml_RX8_124 : Cond.methodLink RX8 124 ⟨"HouseFiddles$Boards", "set", "(III)V"⟩ ∈ lw_tb := lw_tb_at 325 (by decide +kernel) rfl
theorem fl_RX8_34 : Cond.fieldLink RX8 34 "HouseFiddles" "text" "LHouseFiddles$Table;" ∈ lw_tb := lw_tb_at 199 (by decide +kernel) rfl
theorem ml_RX8_127 : Cond.methodLink RX8 127 ⟨"HouseFiddles$Table", "newRow", "()I"⟩ ∈ lw_tb := lw_tb_at 333 (by decide +kernel) rfl
theorem ml_RX5_24 : Cond.methodLink RX5 24 ⟨"HouseFiddles$Table", "many", "()I"⟩ ∈ lw_tb := lw_tb_at 355 (by decide +kernel) rfl
theorem ml_RX5_50 : Cond.methodLink RX5 50 ⟨"HouseFiddles$Table", "get", "(II)I"⟩ ∈ lw_tb := lw_tb_at 356 (by decide +kernel) rfl
theorem fl_RJ0_38 : Cond.fieldLink RJ0 38 "java/lang/String" "COMPACT_STRINGS" "Z" ∈ lw_tb := lw_tb_at 386 (by decide +kernel) rfl
theorem fl_RJ0_15 : Cond.fieldLink RJ0 15 "java/lang/String" "coder" "B" ∈ lw_tb := lw_tb_at 1387 (by decide +kernel) rfl
theorem fl_RJ0_9 : Cond.fieldLink RJ0 9 "java/lang/String" "value" "[B" ∈ lw_tb := lw_tb_at 1386 (by decide +kernel) rfl
theorem cv_U_coder : xcv yyU_coder 0 := ⟨⟨lw_tb_at 385 (by decide +kernel) rfl, lw_tb_at 10 (by decide +kernel) rfl, ⟨by decide +kernel, by decide +kernel⟩, by decide +kernel⟩, lw_tb_at 383 (by decide +kernel) rfl, lw_tb_at 384 (by decide +kernel) rfl⟩
theorem ml_RJ0_335 : Cond.methodLink RJ0 335 ⟨"java/lang/String", "coder", "()B"⟩ ∈ lw_tb := lw_tb_at 382 (by decide +kernel) rfl
theorem fl_RJ0_1053 : Cond.fieldLink RJ0 1053 "jdk/internal/util/Preconditions" "SIOOBE_FORMATTER" "Ljava/util/function/BiFunction;" ∈ lw_tb := lw_tb_at 402 (by decide +kernel) rfl
theorem cs_P_checkIndex : xcs yyP_checkIndex 3 := ⟨⟨lw_tb_at 406 (by decide +kernel) rfl, lw_tb_at 12 (by decide +kernel) rfl, ⟨by decide +kernel, by decide +kernel⟩, by decide +kernel⟩, lw_tb_at 405 (by decide +kernel) rfl⟩
theorem ml_RJ0_1059 : Cond.methodLink RJ0 1059 ⟨"jdk/internal/util/Preconditions", "checkIndex", "(IILjava/util/function/BiFunction;)I"⟩ ∈ lw_tb := lw_tb_at 404 (by decide +kernel) rfl
theorem cs_U_checkIndex : xcs yyU_checkIndex 2 := ⟨⟨lw_tb_at 401 (by decide +kernel) rfl, lw_tb_at 10 (by decide +kernel) rfl, ⟨by decide +kernel, by decide +kernel⟩, by decide +kernel⟩, lw_tb_at 400 (by decide +kernel) rfl⟩
theorem ml_RJ1_9 : Cond.methodLink RJ1 9 ⟨"java/lang/String", "checkIndex", "(II)V"⟩ ∈ lw_tb := lw_tb_at 399 (by decide +kernel) rfl
theorem cv_U_isLatin1 : xcv yyU_isLatin1 0 := ⟨⟨lw_tb_at 395 (by decide +kernel) rfl, lw_tb_at 10 (by decide +kernel) rfl, ⟨by decide +kernel, by decide +kernel⟩, by decide +kernel⟩, lw_tb_at 393 (by decide +kernel) rfl, lw_tb_at 394 (by decide +kernel) rfl⟩
theorem ml_RJ0_492 : Cond.methodLink RJ0 492 ⟨"java/lang/String", "isLatin1", "()Z"⟩ ∈ lw_tb := lw_tb_at 392 (by decide +kernel) rfl
theorem cs_L_charAt : xcs yyL_charAt 2 := ⟨⟨lw_tb_at 398 (by decide +kernel) rfl, lw_tb_at 11 (by decide +kernel) rfl, ⟨by decide +kernel, by decide +kernel⟩, by decide +kernel⟩, lw_tb_at 397 (by decide +kernel) rfl⟩
theorem ml_RJ0_495 : Cond.methodLink RJ0 495 ⟨"java/lang/StringLatin1", "charAt", "([BI)C"⟩ ∈ lw_tb := lw_tb_at 396 (by decide +kernel) rfl
theorem cv_U_length : xcv yyU_length 0 := ⟨⟨lw_tb_at 381 (by decide +kernel) rfl, lw_tb_at 10 (by decide +kernel) rfl, ⟨by decide +kernel, by decide +kernel⟩, by decide +kernel⟩, lw_tb_at 379 (by decide +kernel) rfl, lw_tb_at 380 (by decide +kernel) rfl⟩
theorem ml_RX5_72 : Cond.methodLink RX5 72 ⟨"java/lang/String", "length", "()I"⟩ ∈ lw_tb := lw_tb_at 378 (by decide +kernel) rfl
theorem cv_U_charAt : xcv yyU_charAt 1 := ⟨⟨lw_tb_at 391 (by decide +kernel) rfl, lw_tb_at 10 (by decide +kernel) rfl, ⟨by decide +kernel, by decide +kernel⟩, by decide +kernel⟩, lw_tb_at 389 (by decide +kernel) rfl, lw_tb_at 390 (by decide +kernel) rfl⟩
theorem ml_RX5_77 : Cond.methodLink RX5 77 ⟨"java/lang/String", "charAt", "(I)C"⟩ ∈ lw_tb := lw_tb_at 388 (by decide +kernel) rfl
theorem cs_O_textOf : xcs yyO_textOf 1 := ⟨⟨lw_tb_at 367 (by decide +kernel) rfl, lw_tb_at 7 (by decide +kernel) rfl, ⟨by decide +kernel, by decide +kernel⟩, by decide +kernel⟩, lw_tb_at 366 (by decide +kernel) rfl⟩
theorem ml_RX5_64 : Cond.methodLink RX5 64 ⟨"HouseFiddles$Tokens", "textOf", "(I)Ljava/lang/String;"⟩ ∈ lw_tb := lw_tb_at 365 (by decide +kernel) rfl
theorem cs_O_spells : xcs yyO_spells 4 := ⟨⟨lw_tb_at 377 (by decide +kernel) rfl, lw_tb_at 7 (by decide +kernel) rfl, ⟨by decide +kernel, by decide +kernel⟩, by decide +kernel⟩, lw_tb_at 376 (by decide +kernel) rfl⟩
theorem ml_RX5_68 : Cond.methodLink RX5 68 ⟨"HouseFiddles$Tokens", "spells", "(LHouseFiddles$Table;Ljava/lang/String;II)Z"⟩ ∈ lw_tb := lw_tb_at 375 (by decide +kernel) rfl
theorem fl_RX5_14 : Cond.fieldLink RX5 14 "HouseFiddles$Tokens" "found" "LHouseFiddles$Table;" ∈ lw_tb := lw_tb_at 142 (by decide +kernel) rfl
theorem ml_RX5_54 : Cond.methodLink RX5 54 ⟨"HouseFiddles$Table", "newRow", "()I"⟩ ∈ lw_tb := lw_tb_at 430 (by decide +kernel) rfl
theorem ml_RX5_57 : Cond.methodLink RX5 57 ⟨"HouseFiddles$Table", "put", "(III)V"⟩ ∈ lw_tb := lw_tb_at 431 (by decide +kernel) rfl
theorem cs_O_endOfRun : xcs yyO_endOfRun 4 := ⟨⟨lw_tb_at 354 (by decide +kernel) rfl, lw_tb_at 7 (by decide +kernel) rfl, ⟨by decide +kernel, by decide +kernel⟩, by decide +kernel⟩, lw_tb_at 353 (by decide +kernel) rfl⟩
theorem ml_RX5_31 : Cond.methodLink RX5 31 ⟨"HouseFiddles$Tokens", "endOfRun", "(LHouseFiddles$Table;III)I"⟩ ∈ lw_tb := lw_tb_at 352 (by decide +kernel) rfl
theorem cv_O_add : xcv yyO_add 3 := ⟨⟨lw_tb_at 429 (by decide +kernel) rfl, lw_tb_at 7 (by decide +kernel) rfl, ⟨by decide +kernel, by decide +kernel⟩, by decide +kernel⟩, lw_tb_at 428 (by decide +kernel) rfl, lw_tb_sel 5 (by decide +kernel) rfl⟩
theorem ml_RX5_39 : Cond.methodLink RX5 39 ⟨"HouseFiddles$Tokens", "add", "(III)V"⟩ ∈ lw_tb := lw_tb_at 426 (by decide +kernel) rfl
theorem cs_O_wordNumber : xcs yyO_wordNumber 3 := ⟨⟨lw_tb_at 364 (by decide +kernel) rfl, lw_tb_at 7 (by decide +kernel) rfl, ⟨by decide +kernel, by decide +kernel⟩, by decide +kernel⟩, lw_tb_at 363 (by decide +kernel) rfl⟩
theorem ml_RX5_43 : Cond.methodLink RX5 43 ⟨"HouseFiddles$Tokens", "wordNumber", "(LHouseFiddles$Table;II)I"⟩ ∈ lw_tb := lw_tb_at 362 (by decide +kernel) rfl
theorem cs_O_numberAt : xcs yyO_numberAt 3 := ⟨⟨lw_tb_at 434 (by decide +kernel) rfl, lw_tb_at 7 (by decide +kernel) rfl, ⟨by decide +kernel, by decide +kernel⟩, by decide +kernel⟩, lw_tb_at 433 (by decide +kernel) rfl⟩
theorem ml_RX5_47 : Cond.methodLink RX5 47 ⟨"HouseFiddles$Tokens", "numberAt", "(LHouseFiddles$Table;II)I"⟩ ∈ lw_tb := lw_tb_at 432 (by decide +kernel) rfl
theorem ml_RX5_28 : Cond.methodLink RX5 28 ⟨"HouseFiddles$Table", "empty", "()V"⟩ ∈ lw_tb := lw_tb_at 351 (by decide +kernel) rfl
theorem fl_RX5_20 : Cond.fieldLink RX5 20 "HouseFiddles$Tokens" "taken" "I" ∈ lw_tb := lw_tb_at 144 (by decide +kernel) rfl
theorem cv_O_splitOne : xcv yyO_splitOne 2 := ⟨⟨lw_tb_at 361 (by decide +kernel) rfl, lw_tb_at 7 (by decide +kernel) rfl, ⟨by decide +kernel, by decide +kernel⟩, by decide +kernel⟩, lw_tb_at 360 (by decide +kernel) rfl, lw_tb_sel 4 (by decide +kernel) rfl⟩
theorem ml_RX5_35 : Cond.methodLink RX5 35 ⟨"HouseFiddles$Tokens", "splitOne", "(LHouseFiddles$Table;I)I"⟩ ∈ lw_tb := lw_tb_at 358 (by decide +kernel) rfl
theorem fl_RX2_12 : Cond.fieldLink RX2 12 "HouseFiddles$Reader" "tokens" "LHouseFiddles$Tokens;" ∈ lw_tb := lw_tb_at 152 (by decide +kernel) rfl
theorem cv_O_next : xcv yyO_next 0 := ⟨⟨lw_tb_at 442 (by decide +kernel) rfl, lw_tb_at 7 (by decide +kernel) rfl, ⟨by decide +kernel, by decide +kernel⟩, by decide +kernel⟩, lw_tb_at 440 (by decide +kernel) rfl, lw_tb_at 441 (by decide +kernel) rfl⟩
theorem ml_RX2_125 : Cond.methodLink RX2 125 ⟨"HouseFiddles$Tokens", "next", "()I"⟩ ∈ lw_tb := lw_tb_at 439 (by decide +kernel) rfl
theorem fl_RX2_128 : Cond.fieldLink RX2 128 "HouseFiddles$Tokens" "found" "LHouseFiddles$Table;" ∈ lw_tb := lw_tb_at 143 (by decide +kernel) rfl
theorem ml_RX2_131 : Cond.methodLink RX2 131 ⟨"HouseFiddles$Table", "get", "(II)I"⟩ ∈ lw_tb := lw_tb_at 443 (by decide +kernel) rfl
theorem fl_RX2_35 : Cond.fieldLink RX2 35 "HouseFiddles$Reader" "sort" "I" ∈ lw_tb := lw_tb_at 155 (by decide +kernel) rfl
theorem fl_RX2_43 : Cond.fieldLink RX2 43 "HouseFiddles$Reader" "start" "I" ∈ lw_tb := lw_tb_at 156 (by decide +kernel) rfl
theorem fl_RX2_46 : Cond.fieldLink RX2 46 "HouseFiddles$Reader" "value" "I" ∈ lw_tb := lw_tb_at 157 (by decide +kernel) rfl
theorem cv_R_take : xcv yyR_take 0 := ⟨⟨lw_tb_at 438 (by decide +kernel) rfl, lw_tb_at 6 (by decide +kernel) rfl, ⟨by decide +kernel, by decide +kernel⟩, by decide +kernel⟩, lw_tb_at 437 (by decide +kernel) rfl, lw_tb_sel 6 (by decide +kernel) rfl⟩
theorem ml_RX2_32 : Cond.methodLink RX2 32 ⟨"HouseFiddles$Reader", "take", "()V"⟩ ∈ lw_tb := lw_tb_at 435 (by decide +kernel) rfl
theorem cv_R_takeStop : xcv yyR_takeStop 0 := ⟨⟨lw_tb_at 451 (by decide +kernel) rfl, lw_tb_at 6 (by decide +kernel) rfl, ⟨by decide +kernel, by decide +kernel⟩, by decide +kernel⟩, lw_tb_at 450 (by decide +kernel) rfl, lw_tb_sel 8 (by decide +kernel) rfl⟩
theorem ml_RX2_49 : Cond.methodLink RX2 49 ⟨"HouseFiddles$Reader", "takeStop", "()Z"⟩ ∈ lw_tb := lw_tb_at 448 (by decide +kernel) rfl
theorem fl_RX2_21 : Cond.fieldLink RX2 21 "HouseFiddles$Reader" "town" "LHouseFiddles$Town;" ∈ lw_tb := lw_tb_at 153 (by decide +kernel) rfl
theorem fl_RX2_71 : Cond.fieldLink RX2 71 "HouseFiddles$Town" "wets" "LHouseFiddles$Table;" ∈ lw_tb := lw_tb_at 98 (by decide +kernel) rfl
theorem ml_RX2_75 : Cond.methodLink RX2 75 ⟨"HouseFiddles$Table", "put", "(III)V"⟩ ∈ lw_tb := lw_tb_at 456 (by decide +kernel) rfl
theorem fl_RX2_81 : Cond.fieldLink RX2 81 "HouseFiddles$Town" "boards" "LHouseFiddles$Boards;" ∈ lw_tb := lw_tb_at 93 (by decide +kernel) rfl
theorem ml_RX2_85 : Cond.methodLink RX2 85 ⟨"HouseFiddles$Boards", "many", "()I"⟩ ∈ lw_tb := lw_tb_at 461 (by decide +kernel) rfl
theorem cv_R_takeNumber : xcv yyR_takeNumber 2 := ⟨⟨lw_tb_at 465 (by decide +kernel) rfl, lw_tb_at 6 (by decide +kernel) rfl, ⟨by decide +kernel, by decide +kernel⟩, by decide +kernel⟩, lw_tb_at 464 (by decide +kernel) rfl, lw_tb_sel 11 (by decide +kernel) rfl⟩
theorem ml_RX2_91 : Cond.methodLink RX2 91 ⟨"HouseFiddles$Reader", "takeNumber", "(II)I"⟩ ∈ lw_tb := lw_tb_at 462 (by decide +kernel) rfl
theorem ml_RX2_95 : Cond.methodLink RX2 95 ⟨"HouseFiddles$Boards", "bring", "(IIII)I"⟩ ∈ lw_tb := lw_tb_at 467 (by decide +kernel) rfl
theorem fl_RX2_99 : Cond.fieldLink RX2 99 "HouseFiddles$Town" "instruments" "LHouseFiddles$Table;" ∈ lw_tb := lw_tb_at 102 (by decide +kernel) rfl
theorem ml_RX2_102 : Cond.methodLink RX2 102 ⟨"HouseFiddles$Table", "many", "()I"⟩ ∈ lw_tb := lw_tb_at 472 (by decide +kernel) rfl
theorem ml_RX2_103 : Cond.methodLink RX2 103 ⟨"HouseFiddles$Town", "bringInstrument", "(I)I"⟩ ∈ lw_tb := lw_tb_at 473 (by decide +kernel) rfl
theorem ci_RJ6_265 : Cond.constant RJ6 265 (1431655765 : Int32) ∈ lw_tb := lw_tb_at 493 (by decide +kernel) rfl
theorem ci_RJ6_266 : Cond.constant RJ6 266 (858993459 : Int32) ∈ lw_tb := lw_tb_at 494 (by decide +kernel) rfl
theorem ci_RJ6_267 : Cond.constant RJ6 267 (252645135 : Int32) ∈ lw_tb := lw_tb_at 495 (by decide +kernel) rfl
theorem cv_B_maskIn : xcv yyB_maskIn 1 := ⟨⟨lw_tb_at 489 (by decide +kernel) rfl, lw_tb_at 3 (by decide +kernel) rfl, ⟨by decide +kernel, by decide +kernel⟩, by decide +kernel⟩, lw_tb_at 487 (by decide +kernel) rfl, lw_tb_at 488 (by decide +kernel) rfl⟩
theorem ml_RX0_46 : Cond.methodLink RX0 46 ⟨"HouseFiddles$Boards", "maskIn", "(I)I"⟩ ∈ lw_tb := lw_tb_at 486 (by decide +kernel) rfl
theorem cs_J_bitCount : xcs yyJ_bitCount 1 := ⟨⟨lw_tb_at 492 (by decide +kernel) rfl, lw_tb_at 14 (by decide +kernel) rfl, ⟨by decide +kernel, by decide +kernel⟩, by decide +kernel⟩, lw_tb_at 491 (by decide +kernel) rfl⟩
theorem ml_RX0_50 : Cond.methodLink RX0 50 ⟨"java/lang/Integer", "bitCount", "(I)I"⟩ ∈ lw_tb := lw_tb_at 490 (by decide +kernel) rfl
theorem cv_B_isFree : xcv yyB_isFree 1 := ⟨⟨lw_tb_at 481 (by decide +kernel) rfl, lw_tb_at 3 (by decide +kernel) rfl, ⟨by decide +kernel, by decide +kernel⟩, by decide +kernel⟩, lw_tb_at 479 (by decide +kernel) rfl, lw_tb_at 480 (by decide +kernel) rfl⟩
theorem ml_RX2_107 : Cond.methodLink RX2 107 ⟨"HouseFiddles$Boards", "isFree", "(I)Z"⟩ ∈ lw_tb := lw_tb_at 478 (by decide +kernel) rfl
theorem cv_B_manyIn : xcv yyB_manyIn 1 := ⟨⟨lw_tb_at 485 (by decide +kernel) rfl, lw_tb_at 3 (by decide +kernel) rfl, ⟨by decide +kernel, by decide +kernel⟩, by decide +kernel⟩, lw_tb_at 483 (by decide +kernel) rfl, lw_tb_at 484 (by decide +kernel) rfl⟩
theorem ml_RX2_111 : Cond.methodLink RX2 111 ⟨"HouseFiddles$Boards", "manyIn", "(I)I"⟩ ∈ lw_tb := lw_tb_at 482 (by decide +kernel) rfl
theorem ml_RX2_114 : Cond.methodLink RX2 114 ⟨"HouseFiddles$Boards", "set", "(III)V"⟩ ∈ lw_tb := lw_tb_at 496 (by decide +kernel) rfl
theorem ml_RX0_60 : Cond.methodLink RX0 60 ⟨"java/lang/Math", "min", "(II)I"⟩ ∈ lw_tb := lw_tb_at 517 (by decide +kernel) rfl
theorem ml_RX0_55 : Cond.methodLink RX0 55 ⟨"java/lang/Math", "max", "(II)I"⟩ ∈ lw_tb := lw_tb_at 529 (by decide +kernel) rfl
theorem cv_B_wormyNext : xcv yyB_wormyNext 0 := ⟨⟨lw_tb_at 516 (by decide +kernel) rfl, lw_tb_at 3 (by decide +kernel) rfl, ⟨by decide +kernel, by decide +kernel⟩, by decide +kernel⟩, lw_tb_at 515 (by decide +kernel) rfl, lw_tb_sel 16 (by decide +kernel) rfl⟩
theorem ml_RX0_69 : Cond.methodLink RX0 69 ⟨"HouseFiddles$Boards", "wormyNext", "()I"⟩ ∈ lw_tb := lw_tb_at 513 (by decide +kernel) rfl
theorem ml_RX0_72 : Cond.methodLink RX0 72 ⟨"HouseFiddles$Boards", "isFree", "(I)Z"⟩ ∈ lw_tb := lw_tb_at 520 (by decide +kernel) rfl
theorem cv_B_lessDamp : xcv yyB_lessDamp 2 := ⟨⟨lw_tb_at 528 (by decide +kernel) rfl, lw_tb_at 3 (by decide +kernel) rfl, ⟨by decide +kernel, by decide +kernel⟩, by decide +kernel⟩, lw_tb_at 526 (by decide +kernel) rfl, lw_tb_at 527 (by decide +kernel) rfl⟩
theorem ml_RX0_79 : Cond.methodLink RX0 79 ⟨"HouseFiddles$Boards", "lessDamp", "(II)V"⟩ ∈ lw_tb := lw_tb_at 525 (by decide +kernel) rfl
theorem cv_B_moreDamp : xcv yyB_moreDamp 2 := ⟨⟨lw_tb_at 524 (by decide +kernel) rfl, lw_tb_at 3 (by decide +kernel) rfl, ⟨by decide +kernel, by decide +kernel⟩, by decide +kernel⟩, lw_tb_at 522 (by decide +kernel) rfl, lw_tb_at 523 (by decide +kernel) rfl⟩
theorem ml_RX0_76 : Cond.methodLink RX0 76 ⟨"HouseFiddles$Boards", "moreDamp", "(II)V"⟩ ∈ lw_tb := lw_tb_at 521 (by decide +kernel) rfl
theorem fl_RX6_80 : Cond.fieldLink RX6 80 "HouseFiddles$Boards" "year" "I" ∈ lw_tb := lw_tb_at 65 (by decide +kernel) rfl
theorem cv_B_passYear : xcv yyB_passYear 1 := ⟨⟨lw_tb_at 512 (by decide +kernel) rfl, lw_tb_at 3 (by decide +kernel) rfl, ⟨by decide +kernel, by decide +kernel⟩, by decide +kernel⟩, lw_tb_at 510 (by decide +kernel) rfl, lw_tb_at 511 (by decide +kernel) rfl⟩
theorem ml_RX6_84 : Cond.methodLink RX6 84 ⟨"HouseFiddles$Boards", "passYear", "(LHouseFiddles$Table;)V"⟩ ∈ lw_tb := lw_tb_at 509 (by decide +kernel) rfl
theorem cv_W_passYears : xcv yyW_passYears 1 := ⟨⟨lw_tb_at 508 (by decide +kernel) rfl, lw_tb_at 2 (by decide +kernel) rfl, ⟨by decide +kernel, by decide +kernel⟩, by decide +kernel⟩, lw_tb_at 506 (by decide +kernel) rfl, lw_tb_at 507 (by decide +kernel) rfl⟩
theorem ml_RX2_117 : Cond.methodLink RX2 117 ⟨"HouseFiddles$Town", "passYears", "(I)V"⟩ ∈ lw_tb := lw_tb_at 505 (by decide +kernel) rfl
theorem cv_R_readWets : xcv yyR_readWets 0 := ⟨⟨lw_tb_at 455 (by decide +kernel) rfl, lw_tb_at 6 (by decide +kernel) rfl, ⟨by decide +kernel, by decide +kernel⟩, by decide +kernel⟩, lw_tb_at 454 (by decide +kernel) rfl, lw_tb_sel 9 (by decide +kernel) rfl⟩
theorem ml_RX2_53 : Cond.methodLink RX2 53 ⟨"HouseFiddles$Reader", "readWets", "()Z"⟩ ∈ lw_tb := lw_tb_at 452 (by decide +kernel) rfl
theorem cv_R_readBoard : xcv yyR_readBoard 0 := ⟨⟨lw_tb_at 460 (by decide +kernel) rfl, lw_tb_at 6 (by decide +kernel) rfl, ⟨by decide +kernel, by decide +kernel⟩, by decide +kernel⟩, lw_tb_at 459 (by decide +kernel) rfl, lw_tb_sel 10 (by decide +kernel) rfl⟩
theorem ml_RX2_56 : Cond.methodLink RX2 56 ⟨"HouseFiddles$Reader", "readBoard", "()Z"⟩ ∈ lw_tb := lw_tb_at 457 (by decide +kernel) rfl
theorem cv_R_readInstrument : xcv yyR_readInstrument 0 := ⟨⟨lw_tb_at 471 (by decide +kernel) rfl, lw_tb_at 6 (by decide +kernel) rfl, ⟨by decide +kernel, by decide +kernel⟩, by decide +kernel⟩, lw_tb_at 470 (by decide +kernel) rfl, lw_tb_sel 12 (by decide +kernel) rfl⟩
theorem ml_RX2_59 : Cond.methodLink RX2 59 ⟨"HouseFiddles$Reader", "readInstrument", "()Z"⟩ ∈ lw_tb := lw_tb_at 468 (by decide +kernel) rfl
theorem cv_R_readCut : xcv yyR_readCut 0 := ⟨⟨lw_tb_at 477 (by decide +kernel) rfl, lw_tb_at 6 (by decide +kernel) rfl, ⟨by decide +kernel, by decide +kernel⟩, by decide +kernel⟩, lw_tb_at 476 (by decide +kernel) rfl, lw_tb_sel 13 (by decide +kernel) rfl⟩
theorem ml_RX2_62 : Cond.methodLink RX2 62 ⟨"HouseFiddles$Reader", "readCut", "()Z"⟩ ∈ lw_tb := lw_tb_at 474 (by decide +kernel) rfl
theorem cv_R_readWorm : xcv yyR_readWorm 0 := ⟨⟨lw_tb_at 500 (by decide +kernel) rfl, lw_tb_at 6 (by decide +kernel) rfl, ⟨by decide +kernel, by decide +kernel⟩, by decide +kernel⟩, lw_tb_at 499 (by decide +kernel) rfl, lw_tb_sel 14 (by decide +kernel) rfl⟩
theorem ml_RX2_65 : Cond.methodLink RX2 65 ⟨"HouseFiddles$Reader", "readWorm", "()Z"⟩ ∈ lw_tb := lw_tb_at 497 (by decide +kernel) rfl
theorem cv_R_readYears : xcv yyR_readYears 0 := ⟨⟨lw_tb_at 504 (by decide +kernel) rfl, lw_tb_at 6 (by decide +kernel) rfl, ⟨by decide +kernel, by decide +kernel⟩, by decide +kernel⟩, lw_tb_at 503 (by decide +kernel) rfl, lw_tb_sel 15 (by decide +kernel) rfl⟩
theorem ml_RX2_68 : Cond.methodLink RX2 68 ⟨"HouseFiddles$Reader", "readYears", "()Z"⟩ ∈ lw_tb := lw_tb_at 501 (by decide +kernel) rfl
theorem ml_RX2_25 : Cond.methodLink RX2 25 ⟨"HouseFiddles$Town", "empty", "()V"⟩ ∈ lw_tb := lw_tb_at 346 (by decide +kernel) rfl
theorem cv_O_split : xcv yyO_split 1 := ⟨⟨lw_tb_at 350 (by decide +kernel) rfl, lw_tb_at 7 (by decide +kernel) rfl, ⟨by decide +kernel, by decide +kernel⟩, by decide +kernel⟩, lw_tb_at 348 (by decide +kernel) rfl, lw_tb_at 349 (by decide +kernel) rfl⟩
theorem ml_RX2_28 : Cond.methodLink RX2 28 ⟨"HouseFiddles$Tokens", "split", "(LHouseFiddles$Table;)V"⟩ ∈ lw_tb := lw_tb_at 347 (by decide +kernel) rfl
theorem cv_R_readItem : xcv yyR_readItem 1 := ⟨⟨lw_tb_at 447 (by decide +kernel) rfl, lw_tb_at 6 (by decide +kernel) rfl, ⟨by decide +kernel, by decide +kernel⟩, by decide +kernel⟩, lw_tb_at 446 (by decide +kernel) rfl, lw_tb_sel 7 (by decide +kernel) rfl⟩
theorem ml_RX2_39 : Cond.methodLink RX2 39 ⟨"HouseFiddles$Reader", "readItem", "(Z)Z"⟩ ∈ lw_tb := lw_tb_at 444 (by decide +kernel) rfl
theorem ml_RX4_37 : Cond.methodLink RX4 37 ⟨"java/lang/Math", "min", "(II)I"⟩ ∈ lw_tb := lw_tb_at 542 (by decide +kernel) rfl
theorem ml_RX4_31 : Cond.methodLink RX4 31 ⟨"java/lang/System", "arraycopy", "(Ljava/lang/Object;ILjava/lang/Object;II)V"⟩ ∈ lw_tb := lw_tb_at 543 (by decide +kernel) rfl
theorem cv_T_become : xcv yyT_become 1 := ⟨⟨lw_tb_at 541 (by decide +kernel) rfl, lw_tb_at 4 (by decide +kernel) rfl, ⟨by decide +kernel, by decide +kernel⟩, by decide +kernel⟩, lw_tb_at 539 (by decide +kernel) rfl, lw_tb_at 540 (by decide +kernel) rfl⟩
theorem ml_RX0_39 : Cond.methodLink RX0 39 ⟨"HouseFiddles$Table", "become", "(LHouseFiddles$Table;)V"⟩ ∈ lw_tb := lw_tb_at 538 (by decide +kernel) rfl
theorem cv_B_become : xcv yyB_become 1 := ⟨⟨lw_tb_at 537 (by decide +kernel) rfl, lw_tb_at 3 (by decide +kernel) rfl, ⟨by decide +kernel, by decide +kernel⟩, by decide +kernel⟩, lw_tb_at 535 (by decide +kernel) rfl, lw_tb_at 536 (by decide +kernel) rfl⟩
theorem ml_RX6_57 : Cond.methodLink RX6 57 ⟨"HouseFiddles$Boards", "become", "(LHouseFiddles$Boards;)V"⟩ ∈ lw_tb := lw_tb_at 534 (by decide +kernel) rfl
theorem ml_RX6_61 : Cond.methodLink RX6 61 ⟨"HouseFiddles$Table", "become", "(LHouseFiddles$Table;)V"⟩ ∈ lw_tb := lw_tb_at 546 (by decide +kernel) rfl
theorem fl_RX8_41 : Cond.fieldLink RX8 41 "HouseFiddles" "reader" "LHouseFiddles$Reader;" ∈ lw_tb := lw_tb_at 200 (by decide +kernel) rfl
theorem cv_R_readAll : xcv yyR_readAll 1 := ⟨⟨lw_tb_at 345 (by decide +kernel) rfl, lw_tb_at 6 (by decide +kernel) rfl, ⟨by decide +kernel, by decide +kernel⟩, by decide +kernel⟩, lw_tb_at 343 (by decide +kernel) rfl, lw_tb_at 344 (by decide +kernel) rfl⟩
theorem ml_RX8_130 : Cond.methodLink RX8 130 ⟨"HouseFiddles$Reader", "readAll", "(LHouseFiddles$Table;)I"⟩ ∈ lw_tb := lw_tb_at 342 (by decide +kernel) rfl
theorem fl_RX8_134 : Cond.fieldLink RX8 134 "HouseFiddles$Reader" "town" "LHouseFiddles$Town;" ∈ lw_tb := lw_tb_at 154 (by decide +kernel) rfl
theorem cv_W_become : xcv yyW_become 1 := ⟨⟨lw_tb_at 533 (by decide +kernel) rfl, lw_tb_at 2 (by decide +kernel) rfl, ⟨by decide +kernel, by decide +kernel⟩, by decide +kernel⟩, lw_tb_at 531 (by decide +kernel) rfl, lw_tb_at 532 (by decide +kernel) rfl⟩
theorem ml_RX8_137 : Cond.methodLink RX8 137 ⟨"HouseFiddles$Town", "become", "(LHouseFiddles$Town;)V"⟩ ∈ lw_tb := lw_tb_at 530 (by decide +kernel) rfl
theorem ml_RX6_64 : Cond.methodLink RX6 64 ⟨"HouseFiddles$Table", "many", "()I"⟩ ∈ lw_tb := lw_tb_at 556 (by decide +kernel) rfl
theorem cv_T_dropFirst : xcv yyT_dropFirst 0 := ⟨⟨lw_tb_at 560 (by decide +kernel) rfl, lw_tb_at 4 (by decide +kernel) rfl, ⟨by decide +kernel, by decide +kernel⟩, by decide +kernel⟩, lw_tb_at 558 (by decide +kernel) rfl, lw_tb_at 559 (by decide +kernel) rfl⟩
theorem ml_RX6_67 : Cond.methodLink RX6 67 ⟨"HouseFiddles$Table", "dropFirst", "()V"⟩ ∈ lw_tb := lw_tb_at 557 (by decide +kernel) rfl
theorem cv_B_keepIn : xcv yyB_keepIn 2 := ⟨⟨lw_tb_at 564 (by decide +kernel) rfl, lw_tb_at 3 (by decide +kernel) rfl, ⟨by decide +kernel, by decide +kernel⟩, by decide +kernel⟩, lw_tb_at 562 (by decide +kernel) rfl, lw_tb_at 563 (by decide +kernel) rfl⟩
theorem ml_RX6_70 : Cond.methodLink RX6 70 ⟨"HouseFiddles$Boards", "keepIn", "(LHouseFiddles$Table;I)V"⟩ ∈ lw_tb := lw_tb_at 561 (by decide +kernel) rfl
theorem cv_W_remember : xcv yyW_remember 0 := ⟨⟨lw_tb_at 555 (by decide +kernel) rfl, lw_tb_at 2 (by decide +kernel) rfl, ⟨by decide +kernel, by decide +kernel⟩, by decide +kernel⟩, lw_tb_at 553 (by decide +kernel) rfl, lw_tb_at 554 (by decide +kernel) rfl⟩
theorem ml_RX8_141 : Cond.methodLink RX8 141 ⟨"HouseFiddles$Town", "remember", "()V"⟩ ∈ lw_tb := lw_tb_at 552 (by decide +kernel) rfl
theorem ml_RX8_144 : Cond.methodLink RX8 144 ⟨"HouseFiddles$Town", "passYears", "(I)V"⟩ ∈ lw_tb := lw_tb_at 565 (by decide +kernel) rfl
theorem cv_B_wormy : xcv yyB_wormy 0 := ⟨⟨lw_tb_at 569 (by decide +kernel) rfl, lw_tb_at 3 (by decide +kernel) rfl, ⟨by decide +kernel, by decide +kernel⟩, by decide +kernel⟩, lw_tb_at 567 (by decide +kernel) rfl, lw_tb_at 568 (by decide +kernel) rfl⟩
theorem ml_RX8_148 : Cond.methodLink RX8 148 ⟨"HouseFiddles$Boards", "wormy", "()I"⟩ ∈ lw_tb := lw_tb_at 566 (by decide +kernel) rfl
theorem fl_RX8_308 : Cond.fieldLink RX8 308 "HouseFiddles" "nos" "I" ∈ lw_tb := lw_tb_at 209 (by decide +kernel) rfl
theorem cv_W_hasInstrument : xcv yyW_hasInstrument 1 := ⟨⟨lw_tb_at 577 (by decide +kernel) rfl, lw_tb_at 2 (by decide +kernel) rfl, ⟨by decide +kernel, by decide +kernel⟩, by decide +kernel⟩, lw_tb_at 575 (by decide +kernel) rfl, lw_tb_at 576 (by decide +kernel) rfl⟩
theorem ml_RX8_151 : Cond.methodLink RX8 151 ⟨"HouseFiddles$Town", "hasInstrument", "(I)Z"⟩ ∈ lw_tb := lw_tb_at 574 (by decide +kernel) rfl
theorem ml_RX8_154 : Cond.methodLink RX8 154 ⟨"HouseFiddles$Boards", "isFree", "(I)Z"⟩ ∈ lw_tb := lw_tb_at 578 (by decide +kernel) rfl
theorem ml_RX8_160 : Cond.methodLink RX8 160 ⟨"HouseFiddles$Boards", "manyIn", "(I)I"⟩ ∈ lw_tb := lw_tb_at 583 (by decide +kernel) rfl
theorem cv_H_no : xcv yyH_no 0 := ⟨⟨lw_tb_at 582 (by decide +kernel) rfl, lw_tb_at 1 (by decide +kernel) rfl, ⟨by decide +kernel, by decide +kernel⟩, by decide +kernel⟩, lw_tb_at 581 (by decide +kernel) rfl, lw_tb_sel 17 (by decide +kernel) rfl⟩
theorem ml_RX8_157 : Cond.methodLink RX8 157 ⟨"HouseFiddles", "no", "()I"⟩ ∈ lw_tb := lw_tb_at 579 (by decide +kernel) rfl
theorem ml_RX8_163 : Cond.methodLink RX8 163 ⟨"HouseFiddles$Boards", "lessDamp", "(II)V"⟩ ∈ lw_tb := lw_tb_at 592 (by decide +kernel) rfl
theorem ml_RX4_9 : Cond.methodLink RX4 9 ⟨"java/lang/Math", "max", "(II)I"⟩ ∈ lw_tb := lw_tb_at 44 (by decide +kernel) rfl
theorem cv_B_goBackTo : xcv yyB_goBackTo 2 := ⟨⟨lw_tb_at 604 (by decide +kernel) rfl, lw_tb_at 3 (by decide +kernel) rfl, ⟨by decide +kernel, by decide +kernel⟩, by decide +kernel⟩, lw_tb_at 602 (by decide +kernel) rfl, lw_tb_at 603 (by decide +kernel) rfl⟩
theorem ml_RX6_74 : Cond.methodLink RX6 74 ⟨"HouseFiddles$Boards", "goBackTo", "(LHouseFiddles$Table;I)V"⟩ ∈ lw_tb := lw_tb_at 601 (by decide +kernel) rfl
theorem cv_T_dropLast : xcv yyT_dropLast 0 := ⟨⟨lw_tb_at 608 (by decide +kernel) rfl, lw_tb_at 4 (by decide +kernel) rfl, ⟨by decide +kernel, by decide +kernel⟩, by decide +kernel⟩, lw_tb_at 606 (by decide +kernel) rfl, lw_tb_at 607 (by decide +kernel) rfl⟩
theorem ml_RX6_77 : Cond.methodLink RX6 77 ⟨"HouseFiddles$Table", "dropLast", "()V"⟩ ∈ lw_tb := lw_tb_at 605 (by decide +kernel) rfl
theorem cv_W_stepBack : xcv yyW_stepBack 0 := ⟨⟨lw_tb_at 600 (by decide +kernel) rfl, lw_tb_at 2 (by decide +kernel) rfl, ⟨by decide +kernel, by decide +kernel⟩, by decide +kernel⟩, lw_tb_at 598 (by decide +kernel) rfl, lw_tb_at 599 (by decide +kernel) rfl⟩
theorem ml_RX8_166 : Cond.methodLink RX8 166 ⟨"HouseFiddles$Town", "stepBack", "()V"⟩ ∈ lw_tb := lw_tb_at 597 (by decide +kernel) rfl
theorem fl_RX8_169 : Cond.fieldLink RX8 169 "HouseFiddles$Boards" "year" "I" ∈ lw_tb := lw_tb_at 66 (by decide +kernel) rfl
theorem cv_B_housesIn : xcv yyB_housesIn 1 := ⟨⟨lw_tb_at 620 (by decide +kernel) rfl, lw_tb_at 3 (by decide +kernel) rfl, ⟨by decide +kernel, by decide +kernel⟩, by decide +kernel⟩, lw_tb_at 618 (by decide +kernel) rfl, lw_tb_at 619 (by decide +kernel) rfl⟩
theorem ml_RX8_173 : Cond.methodLink RX8 173 ⟨"HouseFiddles$Boards", "housesIn", "(I)I"⟩ ∈ lw_tb := lw_tb_at 617 (by decide +kernel) rfl
theorem ml_RX7_29 : Cond.methodLink RX7 29 ⟨"java/lang/Math", "max", "(II)I"⟩ ∈ lw_tb := lw_tb_at 638 (by decide +kernel) rfl
theorem cs_D_door : xcs yyD_door 2 := ⟨⟨lw_tb_at 637 (by decide +kernel) rfl, lw_tb_at 16 (by decide +kernel) rfl, ⟨by decide +kernel, by decide +kernel⟩, by decide +kernel⟩, lw_tb_at 636 (by decide +kernel) rfl⟩
theorem ml_RX7_7 : Cond.methodLink RX7 7 ⟨"HouseFiddles$Wood", "door", "(II)I"⟩ ∈ lw_tb := lw_tb_at 635 (by decide +kernel) rfl
theorem cs_D_stair : xcs yyD_stair 2 := ⟨⟨lw_tb_at 641 (by decide +kernel) rfl, lw_tb_at 16 (by decide +kernel) rfl, ⟨by decide +kernel, by decide +kernel⟩, by decide +kernel⟩, lw_tb_at 640 (by decide +kernel) rfl⟩
theorem ml_RX7_13 : Cond.methodLink RX7 13 ⟨"HouseFiddles$Wood", "stair", "(II)I"⟩ ∈ lw_tb := lw_tb_at 639 (by decide +kernel) rfl
theorem cs_D_sill : xcs yyD_sill 2 := ⟨⟨lw_tb_at 644 (by decide +kernel) rfl, lw_tb_at 16 (by decide +kernel) rfl, ⟨by decide +kernel, by decide +kernel⟩, by decide +kernel⟩, lw_tb_at 643 (by decide +kernel) rfl⟩
theorem ml_RX7_16 : Cond.methodLink RX7 16 ⟨"HouseFiddles$Wood", "sill", "(II)I"⟩ ∈ lw_tb := lw_tb_at 642 (by decide +kernel) rfl
theorem cs_D_attic : xcs yyD_attic 2 := ⟨⟨lw_tb_at 647 (by decide +kernel) rfl, lw_tb_at 16 (by decide +kernel) rfl, ⟨by decide +kernel, by decide +kernel⟩, by decide +kernel⟩, lw_tb_at 646 (by decide +kernel) rfl⟩
theorem ml_RX7_19 : Cond.methodLink RX7 19 ⟨"HouseFiddles$Wood", "attic", "(II)I"⟩ ∈ lw_tb := lw_tb_at 645 (by decide +kernel) rfl
theorem cs_D_kitchen : xcs yyD_kitchen 2 := ⟨⟨lw_tb_at 650 (by decide +kernel) rfl, lw_tb_at 16 (by decide +kernel) rfl, ⟨by decide +kernel, by decide +kernel⟩, by decide +kernel⟩, lw_tb_at 649 (by decide +kernel) rfl⟩
theorem ml_RX7_22 : Cond.methodLink RX7 22 ⟨"HouseFiddles$Wood", "kitchen", "(II)I"⟩ ∈ lw_tb := lw_tb_at 648 (by decide +kernel) rfl
theorem cs_D_marble : xcs yyD_marble 1 := ⟨⟨lw_tb_at 653 (by decide +kernel) rfl, lw_tb_at 16 (by decide +kernel) rfl, ⟨by decide +kernel, by decide +kernel⟩, by decide +kernel⟩, lw_tb_at 652 (by decide +kernel) rfl⟩
theorem ml_RX7_25 : Cond.methodLink RX7 25 ⟨"HouseFiddles$Wood", "marble", "(I)I"⟩ ∈ lw_tb := lw_tb_at 651 (by decide +kernel) rfl
theorem cs_D_soundBy : xcs yyD_soundBy 4 := ⟨⟨lw_tb_at 634 (by decide +kernel) rfl, lw_tb_at 16 (by decide +kernel) rfl, ⟨by decide +kernel, by decide +kernel⟩, by decide +kernel⟩, lw_tb_at 633 (by decide +kernel) rfl⟩
theorem ml_RX0_63 : Cond.methodLink RX0 63 ⟨"HouseFiddles$Wood", "soundBy", "(IIII)I"⟩ ∈ lw_tb := lw_tb_at 632 (by decide +kernel) rfl
theorem cs_H_isString : xcs yyH_isString 1 := ⟨⟨lw_tb_at 627 (by decide +kernel) rfl, lw_tb_at 1 (by decide +kernel) rfl, ⟨by decide +kernel, by decide +kernel⟩, by decide +kernel⟩, lw_tb_at 626 (by decide +kernel) rfl⟩
theorem ml_RX8_176 : Cond.methodLink RX8 176 ⟨"HouseFiddles", "isString", "(I)Z"⟩ ∈ lw_tb := lw_tb_at 625 (by decide +kernel) rfl
theorem cv_B_soundOf : xcv yyB_soundOf 2 := ⟨⟨lw_tb_at 631 (by decide +kernel) rfl, lw_tb_at 3 (by decide +kernel) rfl, ⟨by decide +kernel, by decide +kernel⟩, by decide +kernel⟩, lw_tb_at 629 (by decide +kernel) rfl, lw_tb_at 630 (by decide +kernel) rfl⟩
theorem ml_RX8_179 : Cond.methodLink RX8 179 ⟨"HouseFiddles$Boards", "soundOf", "(II)I"⟩ ∈ lw_tb := lw_tb_at 628 (by decide +kernel) rfl
theorem ml_RX3_26 : Cond.methodLink RX3 26 ⟨"java/lang/Math", "max", "(II)I"⟩ ∈ lw_tb := lw_tb_at 680 (by decide +kernel) rfl
theorem cs_S_lent : xcs yyS_lent 2 := ⟨⟨lw_tb_at 679 (by decide +kernel) rfl, lw_tb_at 17 (by decide +kernel) rfl, ⟨by decide +kernel, by decide +kernel⟩, by decide +kernel⟩, lw_tb_at 678 (by decide +kernel) rfl⟩
theorem ml_RX3_7 : Cond.methodLink RX3 7 ⟨"HouseFiddles$Strings", "lent", "(II)I"⟩ ∈ lw_tb := lw_tb_at 677 (by decide +kernel) rfl
theorem cs_S_cello : xcs yyS_cello 2 := ⟨⟨lw_tb_at 683 (by decide +kernel) rfl, lw_tb_at 17 (by decide +kernel) rfl, ⟨by decide +kernel, by decide +kernel⟩, by decide +kernel⟩, lw_tb_at 682 (by decide +kernel) rfl⟩
theorem ml_RX3_13 : Cond.methodLink RX3 13 ⟨"HouseFiddles$Strings", "cello", "(II)I"⟩ ∈ lw_tb := lw_tb_at 681 (by decide +kernel) rfl
theorem cs_S_tenement : xcs yyS_tenement 2 := ⟨⟨lw_tb_at 686 (by decide +kernel) rfl, lw_tb_at 17 (by decide +kernel) rfl, ⟨by decide +kernel, by decide +kernel⟩, by decide +kernel⟩, lw_tb_at 685 (by decide +kernel) rfl⟩
theorem ml_RX3_16 : Cond.methodLink RX3 16 ⟨"HouseFiddles$Strings", "tenement", "(II)I"⟩ ∈ lw_tb := lw_tb_at 684 (by decide +kernel) rfl
theorem cs_S_squeak : xcs yyS_squeak 3 := ⟨⟨lw_tb_at 689 (by decide +kernel) rfl, lw_tb_at 17 (by decide +kernel) rfl, ⟨by decide +kernel, by decide +kernel⟩, by decide +kernel⟩, lw_tb_at 688 (by decide +kernel) rfl⟩
theorem ml_RX3_19 : Cond.methodLink RX3 19 ⟨"HouseFiddles$Strings", "squeak", "(III)I"⟩ ∈ lw_tb := lw_tb_at 687 (by decide +kernel) rfl
theorem cs_S_bass : xcs yyS_bass 2 := ⟨⟨lw_tb_at 692 (by decide +kernel) rfl, lw_tb_at 17 (by decide +kernel) rfl, ⟨by decide +kernel, by decide +kernel⟩, by decide +kernel⟩, lw_tb_at 691 (by decide +kernel) rfl⟩
theorem ml_RX3_23 : Cond.methodLink RX3 23 ⟨"HouseFiddles$Strings", "bass", "(II)I"⟩ ∈ lw_tb := lw_tb_at 690 (by decide +kernel) rfl
theorem ml_RX6_91 : Cond.methodLink RX6 91 ⟨"HouseFiddles$Boards", "many", "()I"⟩ ∈ lw_tb := lw_tb_at 666 (by decide +kernel) rfl
theorem ml_RX6_103 : Cond.methodLink RX6 103 ⟨"HouseFiddles$Table", "get", "(II)I"⟩ ∈ lw_tb := lw_tb_at 672 (by decide +kernel) rfl
theorem ml_RX6_106 : Cond.methodLink RX6 106 ⟨"java/lang/Integer", "bitCount", "(I)I"⟩ ∈ lw_tb := lw_tb_at 673 (by decide +kernel) rfl
theorem cs_S_playBy : xcs yyS_playBy 5 := ⟨⟨lw_tb_at 676 (by decide +kernel) rfl, lw_tb_at 17 (by decide +kernel) rfl, ⟨by decide +kernel, by decide +kernel⟩, by decide +kernel⟩, lw_tb_at 675 (by decide +kernel) rfl⟩
theorem ml_RX6_112 : Cond.methodLink RX6 112 ⟨"HouseFiddles$Strings", "playBy", "(IIIII)I"⟩ ∈ lw_tb := lw_tb_at 674 (by decide +kernel) rfl
theorem ml_RX6_92 : Cond.methodLink RX6 92 ⟨"HouseFiddles$Boards", "cell", "(II)I"⟩ ∈ lw_tb := lw_tb_at 667 (by decide +kernel) rfl
theorem cs_H_holdsBit : xcs yyH_holdsBit 2 := ⟨⟨lw_tb_at 670 (by decide +kernel) rfl, lw_tb_at 1 (by decide +kernel) rfl, ⟨by decide +kernel, by decide +kernel⟩, by decide +kernel⟩, lw_tb_at 669 (by decide +kernel) rfl⟩
theorem ml_RX6_100 : Cond.methodLink RX6 100 ⟨"HouseFiddles$Boards", "soundOf", "(II)I"⟩ ∈ lw_tb := lw_tb_at 671 (by decide +kernel) rfl
theorem cv_W_playOn : xcv yyW_playOn 4 := ⟨⟨lw_tb_at 665 (by decide +kernel) rfl, lw_tb_at 2 (by decide +kernel) rfl, ⟨by decide +kernel, by decide +kernel⟩, by decide +kernel⟩, lw_tb_at 663 (by decide +kernel) rfl, lw_tb_at 664 (by decide +kernel) rfl⟩
theorem ml_RX6_87 : Cond.methodLink RX6 87 ⟨"HouseFiddles$Town", "playOn", "(LHouseFiddles$Boards;III)I"⟩ ∈ lw_tb := lw_tb_at 662 (by decide +kernel) rfl
theorem cv_W_playOf : xcv yyW_playOf 2 := ⟨⟨lw_tb_at 661 (by decide +kernel) rfl, lw_tb_at 2 (by decide +kernel) rfl, ⟨by decide +kernel, by decide +kernel⟩, by decide +kernel⟩, lw_tb_at 659 (by decide +kernel) rfl, lw_tb_at 660 (by decide +kernel) rfl⟩
theorem ml_RX8_182 : Cond.methodLink RX8 182 ⟨"HouseFiddles$Town", "playOf", "(II)I"⟩ ∈ lw_tb := lw_tb_at 658 (by decide +kernel) rfl
theorem fl_RX8_25 : Cond.fieldLink RX8 25 "HouseFiddles" "trial" "LHouseFiddles$Boards;" ∈ lw_tb := lw_tb_at 198 (by decide +kernel) rfl
theorem ml_RX8_185 : Cond.methodLink RX8 185 ⟨"HouseFiddles$Boards", "become", "(LHouseFiddles$Boards;)V"⟩ ∈ lw_tb := lw_tb_at 697 (by decide +kernel) rfl
theorem ml_RX8_192 : Cond.methodLink RX8 192 ⟨"HouseFiddles$Town", "playOn", "(LHouseFiddles$Boards;III)I"⟩ ∈ lw_tb := lw_tb_at 699 (by decide +kernel) rfl
theorem ml_RX8_188 : Cond.methodLink RX8 188 ⟨"HouseFiddles$Boards", "passYear", "(LHouseFiddles$Table;)V"⟩ ∈ lw_tb := lw_tb_at 698 (by decide +kernel) rfl
theorem cv_H_playDried : xcv yyH_playDried 3 := ⟨⟨lw_tb_at 711 (by decide +kernel) rfl, lw_tb_at 1 (by decide +kernel) rfl, ⟨by decide +kernel, by decide +kernel⟩, by decide +kernel⟩, lw_tb_at 710 (by decide +kernel) rfl, lw_tb_sel 18 (by decide +kernel) rfl⟩
theorem ml_RX8_196 : Cond.methodLink RX8 196 ⟨"HouseFiddles", "playDried", "(III)I"⟩ ∈ lw_tb := lw_tb_at 708 (by decide +kernel) rfl
theorem ml_RX8_200 : Cond.methodLink RX8 200 ⟨"HouseFiddles$Boards", "maskIn", "(I)I"⟩ ∈ lw_tb := lw_tb_at 716 (by decide +kernel) rfl
theorem ml_RX8_203 : Cond.methodLink RX8 203 ⟨"java/lang/Integer", "bitCount", "(I)I"⟩ ∈ lw_tb := lw_tb_at 717 (by decide +kernel) rfl
theorem cs_H_isPartOf : xcs yyH_isPartOf 2 := ⟨⟨lw_tb_at 720 (by decide +kernel) rfl, lw_tb_at 1 (by decide +kernel) rfl, ⟨by decide +kernel, by decide +kernel⟩, by decide +kernel⟩, lw_tb_at 719 (by decide +kernel) rfl⟩
theorem ml_RX8_208 : Cond.methodLink RX8 208 ⟨"HouseFiddles", "isPartOf", "(II)Z"⟩ ∈ lw_tb := lw_tb_at 718 (by decide +kernel) rfl
theorem fl_RX1_26 : Cond.fieldLink RX1 26 "HouseFiddles$Town" "boards" "LHouseFiddles$Boards;" ∈ lw_tb := lw_tb_at 91 (by decide +kernel) rfl
theorem ml_RX1_32 : Cond.methodLink RX1 32 ⟨"HouseFiddles$Boards", "maskIn", "(I)I"⟩ ∈ lw_tb := lw_tb_at 729 (by decide +kernel) rfl
theorem fl_RX1_38 : Cond.fieldLink RX1 38 "HouseFiddles$Maker" "free" "I" ∈ lw_tb := lw_tb_at 181 (by decide +kernel) rfl
theorem fl_RX1_42 : Cond.fieldLink RX1 42 "HouseFiddles$Town" "instruments" "LHouseFiddles$Table;" ∈ lw_tb := lw_tb_at 100 (by decide +kernel) rfl
theorem ml_RX1_45 : Cond.methodLink RX1 45 ⟨"HouseFiddles$Table", "many", "()I"⟩ ∈ lw_tb := lw_tb_at 730 (by decide +kernel) rfl
theorem fl_RX1_49 : Cond.fieldLink RX1 49 "HouseFiddles$Maker" "instruments" "I" ∈ lw_tb := lw_tb_at 180 (by decide +kernel) rfl
theorem fl_RX1_23 : Cond.fieldLink RX1 23 "HouseFiddles$Maker" "given" "LHouseFiddles$Table;" ∈ lw_tb := lw_tb_at 179 (by decide +kernel) rfl
theorem ml_RX1_51 : Cond.methodLink RX1 51 ⟨"HouseFiddles$Table", "put", "(III)V"⟩ ∈ lw_tb := lw_tb_at 731 (by decide +kernel) rfl
theorem fl_RX1_16 : Cond.fieldLink RX1 16 "HouseFiddles$Maker" "played" "LHouseFiddles$Table;" ∈ lw_tb := lw_tb_at 177 (by decide +kernel) rfl
theorem ml_RX1_59 : Cond.methodLink RX1 59 ⟨"HouseFiddles$Town", "playOn", "(LHouseFiddles$Boards;III)I"⟩ ∈ lw_tb := lw_tb_at 733 (by decide +kernel) rfl
theorem fl_RX1_20 : Cond.fieldLink RX1 20 "HouseFiddles$Maker" "reached" "LHouseFiddles$Table;" ∈ lw_tb := lw_tb_at 178 (by decide +kernel) rfl
theorem ml_RX1_68 : Cond.methodLink RX1 68 ⟨"HouseFiddles$Table", "get", "(II)I"⟩ ∈ lw_tb := lw_tb_at 743 (by decide +kernel) rfl
theorem ml_RX1_76 : Cond.methodLink RX1 76 ⟨"java/lang/Math", "min", "(II)I"⟩ ∈ lw_tb := lw_tb_at 744 (by decide +kernel) rfl
theorem ml_RX1_71 : Cond.methodLink RX1 71 ⟨"java/lang/Math", "max", "(II)I"⟩ ∈ lw_tb := lw_tb_at 745 (by decide +kernel) rfl
theorem ci_RX1_63 : Cond.constant RX1 63 (1000000 : Int32) ∈ lw_tb := lw_tb_at 738 (by decide +kernel) rfl
theorem cv_K_mostWithShare : xcv yyK_mostWithShare 2 := ⟨⟨lw_tb_at 742 (by decide +kernel) rfl, lw_tb_at 8 (by decide +kernel) rfl, ⟨by decide +kernel, by decide +kernel⟩, by decide +kernel⟩, lw_tb_at 741 (by decide +kernel) rfl, lw_tb_sel 19 (by decide +kernel) rfl⟩
theorem ml_RX1_64 : Cond.methodLink RX1 64 ⟨"HouseFiddles$Maker", "mostWithShare", "(II)I"⟩ ∈ lw_tb := lw_tb_at 739 (by decide +kernel) rfl
theorem cv_K_mostOfLeast : xcv yyK_mostOfLeast 1 := ⟨⟨lw_tb_at 737 (by decide +kernel) rfl, lw_tb_at 8 (by decide +kernel) rfl, ⟨by decide +kernel, by decide +kernel⟩, by decide +kernel⟩, lw_tb_at 735 (by decide +kernel) rfl, lw_tb_at 736 (by decide +kernel) rfl⟩
theorem ml_RX1_79 : Cond.methodLink RX1 79 ⟨"HouseFiddles$Maker", "mostOfLeast", "(I)I"⟩ ∈ lw_tb := lw_tb_at 750 (by decide +kernel) rfl
theorem cv_K_firstPlace : xcv yyK_firstPlace 3 := ⟨⟨lw_tb_at 755 (by decide +kernel) rfl, lw_tb_at 8 (by decide +kernel) rfl, ⟨by decide +kernel, by decide +kernel⟩, by decide +kernel⟩, lw_tb_at 754 (by decide +kernel) rfl, lw_tb_sel 20 (by decide +kernel) rfl⟩
theorem ml_RX1_85 : Cond.methodLink RX1 85 ⟨"HouseFiddles$Maker", "firstPlace", "(III)I"⟩ ∈ lw_tb := lw_tb_at 752 (by decide +kernel) rfl
theorem fl_RX8_48 : Cond.fieldLink RX8 48 "HouseFiddles" "maker" "LHouseFiddles$Maker;" ∈ lw_tb := lw_tb_at 201 (by decide +kernel) rfl
theorem cv_K_listen : xcv yyK_listen 2 := ⟨⟨lw_tb_at 728 (by decide +kernel) rfl, lw_tb_at 8 (by decide +kernel) rfl, ⟨by decide +kernel, by decide +kernel⟩, by decide +kernel⟩, lw_tb_at 726 (by decide +kernel) rfl, lw_tb_at 727 (by decide +kernel) rfl⟩
theorem ml_RX8_215 : Cond.methodLink RX8 215 ⟨"HouseFiddles$Maker", "listen", "(LHouseFiddles$Town;I)V"⟩ ∈ lw_tb := lw_tb_at 725 (by decide +kernel) rfl
theorem cv_K_placeOf : xcv yyK_placeOf 1 := ⟨⟨lw_tb_at 749 (by decide +kernel) rfl, lw_tb_at 8 (by decide +kernel) rfl, ⟨by decide +kernel, by decide +kernel⟩, by decide +kernel⟩, lw_tb_at 747 (by decide +kernel) rfl, lw_tb_at 748 (by decide +kernel) rfl⟩
theorem ml_RX8_225 : Cond.methodLink RX8 225 ⟨"HouseFiddles$Maker", "placeOf", "(I)I"⟩ ∈ lw_tb := lw_tb_at 746 (by decide +kernel) rfl
theorem fl_RX8_219 : Cond.fieldLink RX8 219 "HouseFiddles$Maker" "free" "I" ∈ lw_tb := lw_tb_at 182 (by decide +kernel) rfl
theorem ml_RX8_222 : Cond.methodLink RX8 222 ⟨"HouseFiddles$Maker", "mostOfLeast", "(I)I"⟩ ∈ lw_tb := lw_tb_at 734 (by decide +kernel) rfl
theorem ml_RX6_118 : Cond.methodLink RX6 118 ⟨"HouseFiddles$Town", "playOf", "(II)I"⟩ ∈ lw_tb := lw_tb_at 764 (by decide +kernel) rfl
theorem ml_RX6_121 : Cond.methodLink RX6 121 ⟨"java/lang/Math", "abs", "(I)I"⟩ ∈ lw_tb := lw_tb_at 765 (by decide +kernel) rfl
theorem cv_W_likeOnes : xcv yyW_likeOnes 2 := ⟨⟨lw_tb_at 763 (by decide +kernel) rfl, lw_tb_at 2 (by decide +kernel) rfl, ⟨by decide +kernel, by decide +kernel⟩, by decide +kernel⟩, lw_tb_at 761 (by decide +kernel) rfl, lw_tb_at 762 (by decide +kernel) rfl⟩
theorem ml_RX8_228 : Cond.methodLink RX8 228 ⟨"HouseFiddles$Town", "likeOnes", "(II)I"⟩ ∈ lw_tb := lw_tb_at 760 (by decide +kernel) rfl
theorem ml_RX8_331 : Cond.methodLink RX8 331 ⟨"HouseFiddles", "holdsBit", "(II)Z"⟩ ∈ lw_tb := lw_tb_at 776 (by decide +kernel) rfl
theorem fl_RX8_61 : Cond.fieldLink RX8 61 "HouseFiddles" "friends" "LHouseFiddles$Table;" ∈ lw_tb := lw_tb_at 203 (by decide +kernel) rfl
theorem cv_H_areFriends : xcv yyH_areFriends 1 := ⟨⟨lw_tb_at 775 (by decide +kernel) rfl, lw_tb_at 1 (by decide +kernel) rfl, ⟨by decide +kernel, by decide +kernel⟩, by decide +kernel⟩, lw_tb_at 774 (by decide +kernel) rfl, lw_tb_sel 21 (by decide +kernel) rfl⟩
theorem ml_RX8_231 : Cond.methodLink RX8 231 ⟨"HouseFiddles", "areFriends", "(I)Z"⟩ ∈ lw_tb := lw_tb_at 772 (by decide +kernel) rfl
theorem fl_RX8_234 : Cond.fieldLink RX8 234 "HouseFiddles$Town" "heardOnes" "LHouseFiddles$Table;" ∈ lw_tb := lw_tb_at 104 (by decide +kernel) rfl
theorem cv_W_soundsAsHeard : xcv yyW_soundsAsHeard 1 := ⟨⟨lw_tb_at 792 (by decide +kernel) rfl, lw_tb_at 2 (by decide +kernel) rfl, ⟨by decide +kernel, by decide +kernel⟩, by decide +kernel⟩, lw_tb_at 791 (by decide +kernel) rfl, lw_tb_sel 22 (by decide +kernel) rfl⟩
theorem ml_RX6_126 : Cond.methodLink RX6 126 ⟨"HouseFiddles$Town", "soundsAsHeard", "(I)Z"⟩ ∈ lw_tb := lw_tb_at 789 (by decide +kernel) rfl
theorem cv_W_heardBoards : xcv yyW_heardBoards 0 := ⟨⟨lw_tb_at 788 (by decide +kernel) rfl, lw_tb_at 2 (by decide +kernel) rfl, ⟨by decide +kernel, by decide +kernel⟩, by decide +kernel⟩, lw_tb_at 786 (by decide +kernel) rfl, lw_tb_at 787 (by decide +kernel) rfl⟩
theorem ml_RX8_237 : Cond.methodLink RX8 237 ⟨"HouseFiddles$Town", "heardBoards", "()I"⟩ ∈ lw_tb := lw_tb_at 785 (by decide +kernel) rfl
theorem fl_RX8_58 : Cond.fieldLink RX8 58 "HouseFiddles" "alike" "LHouseFiddles$Table;" ∈ lw_tb := lw_tb_at 202 (by decide +kernel) rfl
theorem fl_RX8_337 : Cond.fieldLink RX8 337 "HouseFiddles$Table" "rows" "I" ∈ lw_tb := lw_tb_at 48 (by decide +kernel) rfl
theorem cv_H_manyLike : xcv yyH_manyLike 2 := ⟨⟨lw_tb_at 804 (by decide +kernel) rfl, lw_tb_at 1 (by decide +kernel) rfl, ⟨by decide +kernel, by decide +kernel⟩, by decide +kernel⟩, lw_tb_at 803 (by decide +kernel) rfl, lw_tb_sel 24 (by decide +kernel) rfl⟩
theorem ml_RX8_340 : Cond.methodLink RX8 340 ⟨"HouseFiddles", "manyLike", "(II)I"⟩ ∈ lw_tb := lw_tb_at 801 (by decide +kernel) rfl
theorem ml_RX8_52 : Cond.methodLink RX8 52 ⟨"java/lang/Math", "max", "(II)I"⟩ ∈ lw_tb := lw_tb_at 194 (by decide +kernel) rfl
theorem cv_H_mostAlike : xcv yyH_mostAlike 1 := ⟨⟨lw_tb_at 800 (by decide +kernel) rfl, lw_tb_at 1 (by decide +kernel) rfl, ⟨by decide +kernel, by decide +kernel⟩, by decide +kernel⟩, lw_tb_at 799 (by decide +kernel) rfl, lw_tb_sel 23 (by decide +kernel) rfl⟩
theorem ml_RX8_240 : Cond.methodLink RX8 240 ⟨"HouseFiddles", "mostAlike", "(I)I"⟩ ∈ lw_tb := lw_tb_at 797 (by decide +kernel) rfl
theorem fl_RX8_243 : Cond.fieldLink RX8 243 "HouseFiddles$Town" "notes" "LHouseFiddles$Table;" ∈ lw_tb := lw_tb_at 106 (by decide +kernel) rfl
theorem fl_RX8_246 : Cond.fieldLink RX8 246 "HouseFiddles$Town" "marks" "LHouseFiddles$Table;" ∈ lw_tb := lw_tb_at 108 (by decide +kernel) rfl
theorem ml_RX6_133 : Cond.methodLink RX6 133 ⟨"HouseFiddles$Wood", "soundBy", "(IIII)I"⟩ ∈ lw_tb := lw_tb_at 829 (by decide +kernel) rfl
theorem cv_W_soundsAsNoted : xcv yyW_soundsAsNoted 2 := ⟨⟨lw_tb_at 828 (by decide +kernel) rfl, lw_tb_at 2 (by decide +kernel) rfl, ⟨by decide +kernel, by decide +kernel⟩, by decide +kernel⟩, lw_tb_at 827 (by decide +kernel) rfl, lw_tb_sel 25 (by decide +kernel) rfl⟩
theorem ml_RX6_130 : Cond.methodLink RX6 130 ⟨"HouseFiddles$Town", "soundsAsNoted", "(II)Z"⟩ ∈ lw_tb := lw_tb_at 825 (by decide +kernel) rfl
theorem cv_W_notedKinds : xcv yyW_notedKinds 1 := ⟨⟨lw_tb_at 824 (by decide +kernel) rfl, lw_tb_at 2 (by decide +kernel) rfl, ⟨by decide +kernel, by decide +kernel⟩, by decide +kernel⟩, lw_tb_at 822 (by decide +kernel) rfl, lw_tb_at 823 (by decide +kernel) rfl⟩
theorem ml_RX8_249 : Cond.methodLink RX8 249 ⟨"HouseFiddles$Town", "notedKinds", "(I)I"⟩ ∈ lw_tb := lw_tb_at 821 (by decide +kernel) rfl
theorem ml_RX8_252 : Cond.methodLink RX8 252 ⟨"HouseFiddles$Wood", "soundBy", "(IIII)I"⟩ ∈ lw_tb := lw_tb_at 834 (by decide +kernel) rfl
theorem cv_W_playsAsMarked : xcv yyW_playsAsMarked 2 := ⟨⟨lw_tb_at 846 (by decide +kernel) rfl, lw_tb_at 2 (by decide +kernel) rfl, ⟨by decide +kernel, by decide +kernel⟩, by decide +kernel⟩, lw_tb_at 845 (by decide +kernel) rfl, lw_tb_sel 26 (by decide +kernel) rfl⟩
theorem ml_RX6_139 : Cond.methodLink RX6 139 ⟨"HouseFiddles$Town", "playsAsMarked", "(II)Z"⟩ ∈ lw_tb := lw_tb_at 843 (by decide +kernel) rfl
theorem cv_W_markedKinds : xcv yyW_markedKinds 1 := ⟨⟨lw_tb_at 842 (by decide +kernel) rfl, lw_tb_at 2 (by decide +kernel) rfl, ⟨by decide +kernel, by decide +kernel⟩, by decide +kernel⟩, lw_tb_at 840 (by decide +kernel) rfl, lw_tb_at 841 (by decide +kernel) rfl⟩
theorem ml_RX8_257 : Cond.methodLink RX8 257 ⟨"HouseFiddles$Town", "markedKinds", "(I)I"⟩ ∈ lw_tb := lw_tb_at 839 (by decide +kernel) rfl
theorem ml_RX8_343 : Cond.methodLink RX8 343 ⟨"HouseFiddles$Strings", "playBy", "(IIIII)I"⟩ ∈ lw_tb := lw_tb_at 855 (by decide +kernel) rfl
theorem cv_H_mostAlikeAsked : xcv yyH_mostAlikeAsked 4 := ⟨⟨lw_tb_at 854 (by decide +kernel) rfl, lw_tb_at 1 (by decide +kernel) rfl, ⟨by decide +kernel, by decide +kernel⟩, by decide +kernel⟩, lw_tb_at 853 (by decide +kernel) rfl, lw_tb_sel 27 (by decide +kernel) rfl⟩
theorem ml_RX8_260 : Cond.methodLink RX8 260 ⟨"HouseFiddles", "mostAlikeAsked", "(IIII)I"⟩ ∈ lw_tb := lw_tb_at 851 (by decide +kernel) rfl
theorem cs_H_firstGets : xcs yyH_firstGets 3 := ⟨⟨lw_tb_at 866 (by decide +kernel) rfl, lw_tb_at 1 (by decide +kernel) rfl, ⟨by decide +kernel, by decide +kernel⟩, by decide +kernel⟩, lw_tb_at 865 (by decide +kernel) rfl⟩
theorem ml_RX8_349 : Cond.methodLink RX8 349 ⟨"HouseFiddles", "firstGets", "(III)I"⟩ ∈ lw_tb := lw_tb_at 864 (by decide +kernel) rfl
theorem cs_H_secondGets : xcs yyH_secondGets 3 := ⟨⟨lw_tb_at 869 (by decide +kernel) rfl, lw_tb_at 1 (by decide +kernel) rfl, ⟨by decide +kernel, by decide +kernel⟩, by decide +kernel⟩, lw_tb_at 868 (by decide +kernel) rfl⟩
theorem ml_RX8_352 : Cond.methodLink RX8 352 ⟨"HouseFiddles", "secondGets", "(III)I"⟩ ∈ lw_tb := lw_tb_at 867 (by decide +kernel) rfl
theorem ml_RX8_263 : Cond.methodLink RX8 263 ⟨"java/lang/Math", "min", "(II)I"⟩ ∈ lw_tb := lw_tb_at 860 (by decide +kernel) rfl
theorem cs_H_rests : xcs yyH_rests 3 := ⟨⟨lw_tb_at 863 (by decide +kernel) rfl, lw_tb_at 1 (by decide +kernel) rfl, ⟨by decide +kernel, by decide +kernel⟩, by decide +kernel⟩, lw_tb_at 862 (by decide +kernel) rfl⟩
theorem ml_RX8_266 : Cond.methodLink RX8 266 ⟨"HouseFiddles", "rests", "(III)Z"⟩ ∈ lw_tb := lw_tb_at 861 (by decide +kernel) rfl
theorem ml_RX8_334 : Cond.methodLink RX8 334 ⟨"HouseFiddles$Boards", "moreDamp", "(II)V"⟩ ∈ lw_tb := lw_tb_at 881 (by decide +kernel) rfl
theorem cs_H_commonDivisor : xcs yyH_commonDivisor 2 := ⟨⟨lw_tb_at 889 (by decide +kernel) rfl, lw_tb_at 1 (by decide +kernel) rfl, ⟨by decide +kernel, by decide +kernel⟩, by decide +kernel⟩, lw_tb_at 888 (by decide +kernel) rfl⟩
theorem ml_RX8_355 : Cond.methodLink RX8 355 ⟨"HouseFiddles", "commonDivisor", "(JJ)J"⟩ ∈ lw_tb := lw_tb_at 887 (by decide +kernel) rfl
theorem fl_RX8_295 : Cond.fieldLink RX8 295 "HouseFiddles" "above" "J" ∈ lw_tb := lw_tb_at 206 (by decide +kernel) rfl
theorem fl_RX8_64 : Cond.fieldLink RX8 64 "HouseFiddles" "below" "J" ∈ lw_tb := lw_tb_at 207 (by decide +kernel) rfl
theorem cl_RX8_276 : Cond.constantLong RX8 276 (10 : Int64) ∈ lw_tb := lw_tb_at 882 (by decide +kernel) rfl
theorem cs_H_power : xcs yyH_power 2 := ⟨⟨lw_tb_at 876 (by decide +kernel) rfl, lw_tb_at 1 (by decide +kernel) rfl, ⟨by decide +kernel, by decide +kernel⟩, by decide +kernel⟩, lw_tb_at 875 (by decide +kernel) rfl⟩
theorem ml_RX8_269 : Cond.methodLink RX8 269 ⟨"HouseFiddles", "power", "(JI)J"⟩ ∈ lw_tb := lw_tb_at 874 (by decide +kernel) rfl
theorem cv_H_keepFraction : xcv yyH_keepFraction 2 := ⟨⟨lw_tb_at 886 (by decide +kernel) rfl, lw_tb_at 1 (by decide +kernel) rfl, ⟨by decide +kernel, by decide +kernel⟩, by decide +kernel⟩, lw_tb_at 885 (by decide +kernel) rfl, lw_tb_sel 29 (by decide +kernel) rfl⟩
theorem ml_RX8_278 : Cond.methodLink RX8 278 ⟨"HouseFiddles", "keepFraction", "(JJ)V"⟩ ∈ lw_tb := lw_tb_at 883 (by decide +kernel) rfl
theorem cv_H_playWeeping : xcv yyH_playWeeping 3 := ⟨⟨lw_tb_at 880 (by decide +kernel) rfl, lw_tb_at 1 (by decide +kernel) rfl, ⟨by decide +kernel, by decide +kernel⟩, by decide +kernel⟩, lw_tb_at 879 (by decide +kernel) rfl, lw_tb_sel 28 (by decide +kernel) rfl⟩
theorem ml_RX8_273 : Cond.methodLink RX8 273 ⟨"HouseFiddles", "playWeeping", "(III)I"⟩ ∈ lw_tb := lw_tb_at 877 (by decide +kernel) rfl
theorem ci_RX8_282 : Cond.constant RX8 282 (999999 : Int32) ∈ lw_tb := lw_tb_at 894 (by decide +kernel) rfl
theorem cl_RX8_283 : Cond.constantLong RX8 283 (1103515245 : Int64) ∈ lw_tb := lw_tb_at 895 (by decide +kernel) rfl
theorem cl_RX8_285 : Cond.constantLong RX8 285 (12345 : Int64) ∈ lw_tb := lw_tb_at 896 (by decide +kernel) rfl
theorem cl_RX8_287 : Cond.constantLong RX8 287 (2147483648 : Int64) ∈ lw_tb := lw_tb_at 897 (by decide +kernel) rfl
theorem cl_RX8_289 : Cond.constantLong RX8 289 (65536 : Int64) ∈ lw_tb := lw_tb_at 898 (by decide +kernel) rfl
theorem cl_RX8_291 : Cond.constantLong RX8 291 (4 : Int64) ∈ lw_tb := lw_tb_at 899 (by decide +kernel) rfl
theorem cl_RX8_293 : Cond.constantLong RX8 293 (1048576 : Int64) ∈ lw_tb := lw_tb_at 900 (by decide +kernel) rfl
theorem fl_RX8_19 : Cond.fieldLink RX8 19 "HouseFiddles" "secondImage" "LHouseFiddles$Town;" ∈ lw_tb := lw_tb_at 197 (by decide +kernel) rfl
theorem fl_RX8_302 : Cond.fieldLink RX8 302 "HouseFiddles" "secondKept" "Z" ∈ lw_tb := lw_tb_at 205 (by decide +kernel) rfl
theorem fl_RX8_16 : Cond.fieldLink RX8 16 "HouseFiddles" "firstImage" "LHouseFiddles$Town;" ∈ lw_tb := lw_tb_at 196 (by decide +kernel) rfl
theorem fl_RX8_298 : Cond.fieldLink RX8 298 "HouseFiddles" "firstKept" "Z" ∈ lw_tb := lw_tb_at 204 (by decide +kernel) rfl
theorem cv_B_dampOfAll : xcv yyB_dampOfAll 0 := ⟨⟨lw_tb_at 924 (by decide +kernel) rfl, lw_tb_at 3 (by decide +kernel) rfl, ⟨by decide +kernel, by decide +kernel⟩, by decide +kernel⟩, lw_tb_at 922 (by decide +kernel) rfl, lw_tb_at 923 (by decide +kernel) rfl⟩
theorem ml_RX8_314 : Cond.methodLink RX8 314 ⟨"HouseFiddles$Boards", "dampOfAll", "()I"⟩ ∈ lw_tb := lw_tb_at 921 (by decide +kernel) rfl
theorem cl_RX4_40 : Cond.constantLong RX4 40 (31 : Int64) ∈ lw_tb := lw_tb_at 936 (by decide +kernel) rfl
theorem ml_RX4_42 : Cond.methodLink RX4 42 ⟨"HouseFiddles$Table", "get", "(II)I"⟩ ∈ lw_tb := lw_tb_at 937 (by decide +kernel) rfl
theorem cl_RX8_317 : Cond.constantLong RX8 317 (1523 : Int64) ∈ lw_tb := lw_tb_at 929 (by decide +kernel) rfl
theorem cv_T_mixedInto : xcv yyT_mixedInto 1 := ⟨⟨lw_tb_at 935 (by decide +kernel) rfl, lw_tb_at 4 (by decide +kernel) rfl, ⟨by decide +kernel, by decide +kernel⟩, by decide +kernel⟩, lw_tb_at 933 (by decide +kernel) rfl, lw_tb_at 934 (by decide +kernel) rfl⟩
theorem ml_RX8_324 : Cond.methodLink RX8 324 ⟨"HouseFiddles$Table", "mixedInto", "(J)J"⟩ ∈ lw_tb := lw_tb_at 932 (by decide +kernel) rfl
theorem fl_RX8_328 : Cond.fieldLink RX8 328 "HouseFiddles$Boards" "cells" "LHouseFiddles$Table;" ∈ lw_tb := lw_tb_at 63 (by decide +kernel) rfl
theorem cl_RX8_319 : Cond.constantLong RX8 319 (31 : Int64) ∈ lw_tb := lw_tb_at 930 (by decide +kernel) rfl
theorem cv_H_count : xcv yyH_count 1 := ⟨⟨lw_tb_at 920 (by decide +kernel) rfl, lw_tb_at 1 (by decide +kernel) rfl, ⟨by decide +kernel, by decide +kernel⟩, by decide +kernel⟩, lw_tb_at 918 (by decide +kernel) rfl, lw_tb_at 919 (by decide +kernel) rfl⟩
theorem ml_RX8_321 : Cond.methodLink RX8 321 ⟨"HouseFiddles", "count", "(I)I"⟩ ∈ lw_tb := lw_tb_at 931 (by decide +kernel) rfl
theorem fl_RX9_27 : Cond.fieldLink RX9 27 "HouseFiddlesModel" "statuses" "[I" ∈ lw_tb := lw_tb_at 950 (by decide +kernel) rfl
theorem fl_RX9_7 : Cond.fieldLink RX9 7 "HouseFiddlesModel" "w" "[I" ∈ lw_tb := lw_tb_at 944 (by decide +kernel) rfl
theorem cs_M_in : xcs yyM_in 3 := ⟨⟨lw_tb_at 1000 (by decide +kernel) rfl, lw_tb_at 9 (by decide +kernel) rfl, ⟨by decide +kernel, by decide +kernel⟩, by decide +kernel⟩, lw_tb_at 999 (by decide +kernel) rfl⟩
theorem ml_RX9_40 : Cond.methodLink RX9 40 ⟨"HouseFiddlesModel", "in", "(JJJ)Z"⟩ ∈ lw_tb := lw_tb_at 998 (by decide +kernel) rfl
theorem cl_RX9_44 : Cond.constantLong RX9 44 (3 : Int64) ∈ lw_tb := lw_tb_at 1012 (by decide +kernel) rfl
theorem cs_M_door : xcs yyM_door 2 := ⟨⟨lw_tb_at 1201 (by decide +kernel) rfl, lw_tb_at 9 (by decide +kernel) rfl, ⟨by decide +kernel, by decide +kernel⟩, by decide +kernel⟩, lw_tb_at 1200 (by decide +kernel) rfl⟩
theorem ml_RX9_46 : Cond.methodLink RX9 46 ⟨"HouseFiddlesModel", "door", "(II)I"⟩ ∈ lw_tb := lw_tb_at 1199 (by decide +kernel) rfl
theorem cs_M_stair : xcs yyM_stair 3 := ⟨⟨lw_tb_at 1198 (by decide +kernel) rfl, lw_tb_at 9 (by decide +kernel) rfl, ⟨by decide +kernel, by decide +kernel⟩, by decide +kernel⟩, lw_tb_at 1197 (by decide +kernel) rfl⟩
theorem ml_RX9_50 : Cond.methodLink RX9 50 ⟨"HouseFiddlesModel", "stair", "(III)I"⟩ ∈ lw_tb := lw_tb_at 1196 (by decide +kernel) rfl
theorem cs_M_sill : xcs yyM_sill 3 := ⟨⟨lw_tb_at 1204 (by decide +kernel) rfl, lw_tb_at 9 (by decide +kernel) rfl, ⟨by decide +kernel, by decide +kernel⟩, by decide +kernel⟩, lw_tb_at 1203 (by decide +kernel) rfl⟩
theorem ml_RX9_54 : Cond.methodLink RX9 54 ⟨"HouseFiddlesModel", "sill", "(III)I"⟩ ∈ lw_tb := lw_tb_at 1202 (by decide +kernel) rfl
theorem cs_M_lent : xcs yyM_lent 2 := ⟨⟨lw_tb_at 1218 (by decide +kernel) rfl, lw_tb_at 9 (by decide +kernel) rfl, ⟨by decide +kernel, by decide +kernel⟩, by decide +kernel⟩, lw_tb_at 1217 (by decide +kernel) rfl⟩
theorem ml_RX9_57 : Cond.methodLink RX9 57 ⟨"HouseFiddlesModel", "lent", "(II)I"⟩ ∈ lw_tb := lw_tb_at 1216 (by decide +kernel) rfl
theorem cv_M_empties : xcv yyM_empties 1 := ⟨⟨lw_tb_at 992 (by decide +kernel) rfl, lw_tb_at 9 (by decide +kernel) rfl, ⟨by decide +kernel, by decide +kernel⟩, by decide +kernel⟩, lw_tb_at 991 (by decide +kernel) rfl, lw_tb_sel 30 (by decide +kernel) rfl⟩
theorem ml_RX9_60 : Cond.methodLink RX9 60 ⟨"HouseFiddlesModel", "empties", "(I)V"⟩ ∈ lw_tb := lw_tb_at 989 (by decide +kernel) rfl
theorem cl_RX9_64 : Cond.constantLong RX9 64 (4 : Int64) ∈ lw_tb := lw_tb_at 997 (by decide +kernel) rfl
theorem cv_M_bad : xcv yyM_bad 1 := ⟨⟨lw_tb_at 1004 (by decide +kernel) rfl, lw_tb_at 9 (by decide +kernel) rfl, ⟨by decide +kernel, by decide +kernel⟩, by decide +kernel⟩, lw_tb_at 1003 (by decide +kernel) rfl, lw_tb_sel 31 (by decide +kernel) rfl⟩
theorem ml_RX9_66 : Cond.methodLink RX9 66 ⟨"HouseFiddlesModel", "bad", "(I)I"⟩ ∈ lw_tb := lw_tb_at 1001 (by decide +kernel) rfl
theorem cl_RX9_70 : Cond.constantLong RX9 70 (5 : Int64) ∈ lw_tb := lw_tb_at 1009 (by decide +kernel) rfl
theorem cl_RX9_72 : Cond.constantLong RX9 72 (99 : Int64) ∈ lw_tb := lw_tb_at 1010 (by decide +kernel) rfl
theorem cl_RX9_74 : Cond.constantLong RX9 74 (9 : Int64) ∈ lw_tb := lw_tb_at 1011 (by decide +kernel) rfl
theorem cv_M_adds : xcv yyM_adds 5 := ⟨⟨lw_tb_at 1020 (by decide +kernel) rfl, lw_tb_at 9 (by decide +kernel) rfl, ⟨by decide +kernel, by decide +kernel⟩, by decide +kernel⟩, lw_tb_at 1019 (by decide +kernel) rfl, lw_tb_sel 33 (by decide +kernel) rfl⟩
theorem ml_RX9_80 : Cond.methodLink RX9 80 ⟨"HouseFiddlesModel", "adds", "(IIIII)V"⟩ ∈ lw_tb := lw_tb_at 1017 (by decide +kernel) rfl
theorem cv_M_full : xcv yyM_full 0 := ⟨⟨lw_tb_at 1016 (by decide +kernel) rfl, lw_tb_at 9 (by decide +kernel) rfl, ⟨by decide +kernel, by decide +kernel⟩, by decide +kernel⟩, lw_tb_at 1015 (by decide +kernel) rfl, lw_tb_sel 32 (by decide +kernel) rfl⟩
theorem ml_RX9_76 : Cond.methodLink RX9 76 ⟨"HouseFiddlesModel", "full", "()I"⟩ ∈ lw_tb := lw_tb_at 1013 (by decide +kernel) rfl
theorem cv_M_isBoard : xcv yyM_isBoard 1 := ⟨⟨lw_tb_at 1032 (by decide +kernel) rfl, lw_tb_at 9 (by decide +kernel) rfl, ⟨by decide +kernel, by decide +kernel⟩, by decide +kernel⟩, lw_tb_at 1031 (by decide +kernel) rfl, lw_tb_sel 34 (by decide +kernel) rfl⟩
theorem ml_RX9_84 : Cond.methodLink RX9 84 ⟨"HouseFiddlesModel", "isBoard", "(I)Z"⟩ ∈ lw_tb := lw_tb_at 1029 (by decide +kernel) rfl
theorem cl_RX9_88 : Cond.constantLong RX9 88 (127 : Int64) ∈ lw_tb := lw_tb_at 1037 (by decide +kernel) rfl
theorem fl_RX9_36 : Cond.fieldLink RX9 36 "HouseFiddlesModel" "texted" "I" ∈ lw_tb := lw_tb_at 947 (by decide +kernel) rfl
theorem fl_RX9_17 : Cond.fieldLink RX9 17 "HouseFiddlesModel" "text" "[I" ∈ lw_tb := lw_tb_at 946 (by decide +kernel) rfl
theorem fl_RX9_90 : Cond.fieldLink RX9 90 "HouseFiddlesModel" "at" "I" ∈ lw_tb := lw_tb_at 951 (by decide +kernel) rfl
theorem cv_M_byteAt : xcv yyM_byteAt 1 := ⟨⟨lw_tb_at 1053 (by decide +kernel) rfl, lw_tb_at 9 (by decide +kernel) rfl, ⟨by decide +kernel, by decide +kernel⟩, by decide +kernel⟩, lw_tb_at 1052 (by decide +kernel) rfl, lw_tb_sel 36 (by decide +kernel) rfl⟩
theorem ml_RX9_93 : Cond.methodLink RX9 93 ⟨"HouseFiddlesModel", "byteAt", "(I)I"⟩ ∈ lw_tb := lw_tb_at 1050 (by decide +kernel) rfl
theorem fl_RX9_96 : Cond.fieldLink RX9 96 "HouseFiddlesModel" "start" "I" ∈ lw_tb := lw_tb_at 952 (by decide +kernel) rfl
theorem cv_M_blanks : xcv yyM_blanks 0 := ⟨⟨lw_tb_at 1049 (by decide +kernel) rfl, lw_tb_at 9 (by decide +kernel) rfl, ⟨by decide +kernel, by decide +kernel⟩, by decide +kernel⟩, lw_tb_at 1048 (by decide +kernel) rfl, lw_tb_sel 35 (by decide +kernel) rfl⟩
theorem ml_RX9_99 : Cond.methodLink RX9 99 ⟨"HouseFiddlesModel", "blanks", "()V"⟩ ∈ lw_tb := lw_tb_at 1046 (by decide +kernel) rfl
theorem cl_RX9_102 : Cond.constantLong RX9 102 (97 : Int64) ∈ lw_tb := lw_tb_at 1062 (by decide +kernel) rfl
theorem cl_RX9_104 : Cond.constantLong RX9 104 (122 : Int64) ∈ lw_tb := lw_tb_at 1063 (by decide +kernel) rfl
theorem cv_M_isLetter : xcv yyM_isLetter 3 := ⟨⟨lw_tb_at 1075 (by decide +kernel) rfl, lw_tb_at 9 (by decide +kernel) rfl, ⟨by decide +kernel, by decide +kernel⟩, by decide +kernel⟩, lw_tb_at 1074 (by decide +kernel) rfl, lw_tb_sel 41 (by decide +kernel) rfl⟩
theorem ml_RX9_106 : Cond.methodLink RX9 106 ⟨"HouseFiddlesModel", "isLetter", "(III)Z"⟩ ∈ lw_tb := lw_tb_at 1072 (by decide +kernel) rfl
theorem cv_M_isWord : xcv yyM_isWord 7 := ⟨⟨lw_tb_at 1071 (by decide +kernel) rfl, lw_tb_at 9 (by decide +kernel) rfl, ⟨by decide +kernel, by decide +kernel⟩, by decide +kernel⟩, lw_tb_at 1070 (by decide +kernel) rfl, lw_tb_sel 40 (by decide +kernel) rfl⟩
theorem ml_RX9_110 : Cond.methodLink RX9 110 ⟨"HouseFiddlesModel", "isWord", "(IIIIIII)Z"⟩ ∈ lw_tb := lw_tb_at 1068 (by decide +kernel) rfl
theorem fl_RX9_114 : Cond.fieldLink RX9 114 "HouseFiddlesModel" "number" "I" ∈ lw_tb := lw_tb_at 953 (by decide +kernel) rfl
theorem cl_RX9_117 : Cond.constantLong RX9 117 (48 : Int64) ∈ lw_tb := lw_tb_at 1084 (by decide +kernel) rfl
theorem cl_RX9_119 : Cond.constantLong RX9 119 (57 : Int64) ∈ lw_tb := lw_tb_at 1085 (by decide +kernel) rfl
theorem cl_RX9_121 : Cond.constantLong RX9 121 (2 : Int64) ∈ lw_tb := lw_tb_at 1086 (by decide +kernel) rfl
theorem cv_M_takesNumber : xcv yyM_takesNumber 2 := ⟨⟨lw_tb_at 1083 (by decide +kernel) rfl, lw_tb_at 9 (by decide +kernel) rfl, ⟨by decide +kernel, by decide +kernel⟩, by decide +kernel⟩, lw_tb_at 1082 (by decide +kernel) rfl, lw_tb_sel 43 (by decide +kernel) rfl⟩
theorem ml_RX9_123 : Cond.methodLink RX9 123 ⟨"HouseFiddlesModel", "takesNumber", "(II)Z"⟩ ∈ lw_tb := lw_tb_at 1080 (by decide +kernel) rfl
theorem cv_M_boardsOf : xcv yyM_boardsOf 2 := ⟨⟨lw_tb_at 1102 (by decide +kernel) rfl, lw_tb_at 9 (by decide +kernel) rfl, ⟨by decide +kernel, by decide +kernel⟩, by decide +kernel⟩, lw_tb_at 1101 (by decide +kernel) rfl, lw_tb_sel 47 (by decide +kernel) rfl⟩
theorem ml_RX9_127 : Cond.methodLink RX9 127 ⟨"HouseFiddlesModel", "boardsOf", "(II)I"⟩ ∈ lw_tb := lw_tb_at 1099 (by decide +kernel) rfl
theorem cv_M_passes : xcv yyM_passes 1 := ⟨⟨lw_tb_at 1114 (by decide +kernel) rfl, lw_tb_at 9 (by decide +kernel) rfl, ⟨by decide +kernel, by decide +kernel⟩, by decide +kernel⟩, lw_tb_at 1113 (by decide +kernel) rfl, lw_tb_sel 50 (by decide +kernel) rfl⟩
theorem ml_RX9_130 : Cond.methodLink RX9 130 ⟨"HouseFiddlesModel", "passes", "(I)V"⟩ ∈ lw_tb := lw_tb_at 1111 (by decide +kernel) rfl
theorem cv_M_takesWord : xcv yyM_takesWord 0 := ⟨⟨lw_tb_at 1061 (by decide +kernel) rfl, lw_tb_at 9 (by decide +kernel) rfl, ⟨by decide +kernel, by decide +kernel⟩, by decide +kernel⟩, lw_tb_at 1060 (by decide +kernel) rfl, lw_tb_sel 38 (by decide +kernel) rfl⟩
theorem ml_RX9_133 : Cond.methodLink RX9 133 ⟨"HouseFiddlesModel", "takesWord", "()V"⟩ ∈ lw_tb := lw_tb_at 1058 (by decide +kernel) rfl
theorem cv_M_wordOf : xcv yyM_wordOf 0 := ⟨⟨lw_tb_at 1067 (by decide +kernel) rfl, lw_tb_at 9 (by decide +kernel) rfl, ⟨by decide +kernel, by decide +kernel⟩, by decide +kernel⟩, lw_tb_at 1066 (by decide +kernel) rfl, lw_tb_sel 39 (by decide +kernel) rfl⟩
theorem ml_RX9_136 : Cond.methodLink RX9 136 ⟨"HouseFiddlesModel", "wordOf", "()I"⟩ ∈ lw_tb := lw_tb_at 1064 (by decide +kernel) rfl
theorem cv_M_readsYears : xcv yyM_readsYears 0 := ⟨⟨lw_tb_at 1110 (by decide +kernel) rfl, lw_tb_at 9 (by decide +kernel) rfl, ⟨by decide +kernel, by decide +kernel⟩, by decide +kernel⟩, lw_tb_at 1109 (by decide +kernel) rfl, lw_tb_sel 49 (by decide +kernel) rfl⟩
theorem ml_RX9_155 : Cond.methodLink RX9 155 ⟨"HouseFiddlesModel", "readsYears", "()Z"⟩ ∈ lw_tb := lw_tb_at 1107 (by decide +kernel) rfl
theorem cv_M_readsWorm : xcv yyM_readsWorm 0 := ⟨⟨lw_tb_at 1106 (by decide +kernel) rfl, lw_tb_at 9 (by decide +kernel) rfl, ⟨by decide +kernel, by decide +kernel⟩, by decide +kernel⟩, lw_tb_at 1105 (by decide +kernel) rfl, lw_tb_sel 48 (by decide +kernel) rfl⟩
theorem ml_RX9_152 : Cond.methodLink RX9 152 ⟨"HouseFiddlesModel", "readsWorm", "()Z"⟩ ∈ lw_tb := lw_tb_at 1103 (by decide +kernel) rfl
theorem cv_M_readsCut : xcv yyM_readsCut 0 := ⟨⟨lw_tb_at 1098 (by decide +kernel) rfl, lw_tb_at 9 (by decide +kernel) rfl, ⟨by decide +kernel, by decide +kernel⟩, by decide +kernel⟩, lw_tb_at 1097 (by decide +kernel) rfl, lw_tb_sel 46 (by decide +kernel) rfl⟩
theorem ml_RX9_149 : Cond.methodLink RX9 149 ⟨"HouseFiddlesModel", "readsCut", "()Z"⟩ ∈ lw_tb := lw_tb_at 1095 (by decide +kernel) rfl
theorem cv_M_readsMake : xcv yyM_readsMake 0 := ⟨⟨lw_tb_at 1094 (by decide +kernel) rfl, lw_tb_at 9 (by decide +kernel) rfl, ⟨by decide +kernel, by decide +kernel⟩, by decide +kernel⟩, lw_tb_at 1093 (by decide +kernel) rfl, lw_tb_sel 45 (by decide +kernel) rfl⟩
theorem ml_RX9_146 : Cond.methodLink RX9 146 ⟨"HouseFiddlesModel", "readsMake", "()Z"⟩ ∈ lw_tb := lw_tb_at 1091 (by decide +kernel) rfl
theorem cv_M_readsBoard : xcv yyM_readsBoard 0 := ⟨⟨lw_tb_at 1090 (by decide +kernel) rfl, lw_tb_at 9 (by decide +kernel) rfl, ⟨by decide +kernel, by decide +kernel⟩, by decide +kernel⟩, lw_tb_at 1089 (by decide +kernel) rfl, lw_tb_sel 44 (by decide +kernel) rfl⟩
theorem ml_RX9_143 : Cond.methodLink RX9 143 ⟨"HouseFiddlesModel", "readsBoard", "()Z"⟩ ∈ lw_tb := lw_tb_at 1087 (by decide +kernel) rfl
theorem cv_M_readsWet : xcv yyM_readsWet 0 := ⟨⟨lw_tb_at 1079 (by decide +kernel) rfl, lw_tb_at 9 (by decide +kernel) rfl, ⟨by decide +kernel, by decide +kernel⟩, by decide +kernel⟩, lw_tb_at 1078 (by decide +kernel) rfl, lw_tb_sel 42 (by decide +kernel) rfl⟩
theorem ml_RX9_139 : Cond.methodLink RX9 139 ⟨"HouseFiddlesModel", "readsWet", "()Z"⟩ ∈ lw_tb := lw_tb_at 1076 (by decide +kernel) rfl
theorem cv_M_takesEnd : xcv yyM_takesEnd 0 := ⟨⟨lw_tb_at 1118 (by decide +kernel) rfl, lw_tb_at 9 (by decide +kernel) rfl, ⟨by decide +kernel, by decide +kernel⟩, by decide +kernel⟩, lw_tb_at 1117 (by decide +kernel) rfl, lw_tb_sel 51 (by decide +kernel) rfl⟩
theorem ml_RX9_158 : Cond.methodLink RX9 158 ⟨"HouseFiddlesModel", "takesEnd", "()Z"⟩ ∈ lw_tb := lw_tb_at 1115 (by decide +kernel) rfl
theorem cv_M_readsItem : xcv yyM_readsItem 1 := ⟨⟨lw_tb_at 1057 (by decide +kernel) rfl, lw_tb_at 9 (by decide +kernel) rfl, ⟨by decide +kernel, by decide +kernel⟩, by decide +kernel⟩, lw_tb_at 1056 (by decide +kernel) rfl, lw_tb_sel 37 (by decide +kernel) rfl⟩
theorem ml_RX9_161 : Cond.methodLink RX9 161 ⟨"HouseFiddlesModel", "readsItem", "(Z)Z"⟩ ∈ lw_tb := lw_tb_at 1054 (by decide +kernel) rfl
theorem cv_M_copy : xcv yyM_copy 2 := ⟨⟨lw_tb_at 1122 (by decide +kernel) rfl, lw_tb_at 9 (by decide +kernel) rfl, ⟨by decide +kernel, by decide +kernel⟩, by decide +kernel⟩, lw_tb_at 1121 (by decide +kernel) rfl, lw_tb_sel 52 (by decide +kernel) rfl⟩
theorem ml_RX9_165 : Cond.methodLink RX9 165 ⟨"HouseFiddlesModel", "copy", "(II)V"⟩ ∈ lw_tb := lw_tb_at 1119 (by decide +kernel) rfl
theorem cl_RX9_169 : Cond.constantLong RX9 169 (60 : Int64) ∈ lw_tb := lw_tb_at 1127 (by decide +kernel) rfl
theorem cv_M_minds : xcv yyM_minds 0 := ⟨⟨lw_tb_at 1131 (by decide +kernel) rfl, lw_tb_at 9 (by decide +kernel) rfl, ⟨by decide +kernel, by decide +kernel⟩, by decide +kernel⟩, lw_tb_at 1130 (by decide +kernel) rfl, lw_tb_sel 53 (by decide +kernel) rfl⟩
theorem ml_RX9_171 : Cond.methodLink RX9 171 ⟨"HouseFiddlesModel", "minds", "()V"⟩ ∈ lw_tb := lw_tb_at 1128 (by decide +kernel) rfl
theorem cv_M_sumOf : xcv yyM_sumOf 1 := ⟨⟨lw_tb_at 1135 (by decide +kernel) rfl, lw_tb_at 9 (by decide +kernel) rfl, ⟨by decide +kernel, by decide +kernel⟩, by decide +kernel⟩, lw_tb_at 1134 (by decide +kernel) rfl, lw_tb_sel 54 (by decide +kernel) rfl⟩
theorem ml_RX9_174 : Cond.methodLink RX9 174 ⟨"HouseFiddlesModel", "sumOf", "(I)I"⟩ ∈ lw_tb := lw_tb_at 1132 (by decide +kernel) rfl
theorem cv_M_isInstrument : xcv yyM_isInstrument 1 := ⟨⟨lw_tb_at 1143 (by decide +kernel) rfl, lw_tb_at 9 (by decide +kernel) rfl, ⟨by decide +kernel, by decide +kernel⟩, by decide +kernel⟩, lw_tb_at 1142 (by decide +kernel) rfl, lw_tb_sel 55 (by decide +kernel) rfl⟩
theorem ml_RX9_177 : Cond.methodLink RX9 177 ⟨"HouseFiddlesModel", "isInstrument", "(I)Z"⟩ ∈ lw_tb := lw_tb_at 1140 (by decide +kernel) rfl
theorem cv_M_no : xcv yyM_no 0 := ⟨⟨lw_tb_at 1147 (by decide +kernel) rfl, lw_tb_at 9 (by decide +kernel) rfl, ⟨by decide +kernel, by decide +kernel⟩, by decide +kernel⟩, lw_tb_at 1146 (by decide +kernel) rfl, lw_tb_sel 56 (by decide +kernel) rfl⟩
theorem ml_RX9_180 : Cond.methodLink RX9 180 ⟨"HouseFiddlesModel", "no", "()I"⟩ ∈ lw_tb := lw_tb_at 1144 (by decide +kernel) rfl
theorem cs_M_less : xcs yyM_less 2 := ⟨⟨lw_tb_at 1158 (by decide +kernel) rfl, lw_tb_at 9 (by decide +kernel) rfl, ⟨by decide +kernel, by decide +kernel⟩, by decide +kernel⟩, lw_tb_at 1157 (by decide +kernel) rfl⟩
theorem ml_RX9_183 : Cond.methodLink RX9 183 ⟨"HouseFiddlesModel", "less", "(II)I"⟩ ∈ lw_tb := lw_tb_at 1156 (by decide +kernel) rfl
theorem cv_M_ofBoard : xcv yyM_ofBoard 2 := ⟨⟨lw_tb_at 1170 (by decide +kernel) rfl, lw_tb_at 9 (by decide +kernel) rfl, ⟨by decide +kernel, by decide +kernel⟩, by decide +kernel⟩, lw_tb_at 1169 (by decide +kernel) rfl, lw_tb_sel 57 (by decide +kernel) rfl⟩
theorem ml_RX9_186 : Cond.methodLink RX9 186 ⟨"HouseFiddlesModel", "ofBoard", "(II)I"⟩ ∈ lw_tb := lw_tb_at 1167 (by decide +kernel) rfl
theorem cs_M_ones : xcs yyM_ones 1 := ⟨⟨lw_tb_at 1181 (by decide +kernel) rfl, lw_tb_at 9 (by decide +kernel) rfl, ⟨by decide +kernel, by decide +kernel⟩, by decide +kernel⟩, lw_tb_at 1180 (by decide +kernel) rfl⟩
theorem ml_RX9_189 : Cond.methodLink RX9 189 ⟨"HouseFiddlesModel", "ones", "(I)I"⟩ ∈ lw_tb := lw_tb_at 1179 (by decide +kernel) rfl
theorem cv_M_housesOf : xcv yyM_housesOf 2 := ⟨⟨lw_tb_at 1178 (by decide +kernel) rfl, lw_tb_at 9 (by decide +kernel) rfl, ⟨by decide +kernel, by decide +kernel⟩, by decide +kernel⟩, lw_tb_at 1177 (by decide +kernel) rfl, lw_tb_sel 58 (by decide +kernel) rfl⟩
theorem ml_RX9_192 : Cond.methodLink RX9 192 ⟨"HouseFiddlesModel", "housesOf", "(II)I"⟩ ∈ lw_tb := lw_tb_at 1175 (by decide +kernel) rfl
theorem cs_M_soundOf : xcs yyM_soundOf 4 := ⟨⟨lw_tb_at 1195 (by decide +kernel) rfl, lw_tb_at 9 (by decide +kernel) rfl, ⟨by decide +kernel, by decide +kernel⟩, by decide +kernel⟩, lw_tb_at 1194 (by decide +kernel) rfl⟩
theorem ml_RX9_195 : Cond.methodLink RX9 195 ⟨"HouseFiddlesModel", "soundOf", "(IIII)I"⟩ ∈ lw_tb := lw_tb_at 1193 (by decide +kernel) rfl
theorem cs_M_playOf : xcs yyM_playOf 5 := ⟨⟨lw_tb_at 1215 (by decide +kernel) rfl, lw_tb_at 9 (by decide +kernel) rfl, ⟨by decide +kernel, by decide +kernel⟩, by decide +kernel⟩, lw_tb_at 1214 (by decide +kernel) rfl⟩
theorem ml_RX9_202 : Cond.methodLink RX9 202 ⟨"HouseFiddlesModel", "playOf", "(IIIII)I"⟩ ∈ lw_tb := lw_tb_at 1213 (by decide +kernel) rfl
theorem cv_M_soundsIn : xcv yyM_soundsIn 3 := ⟨⟨lw_tb_at 1192 (by decide +kernel) rfl, lw_tb_at 9 (by decide +kernel) rfl, ⟨by decide +kernel, by decide +kernel⟩, by decide +kernel⟩, lw_tb_at 1191 (by decide +kernel) rfl, lw_tb_sel 59 (by decide +kernel) rfl⟩
theorem ml_RX9_199 : Cond.methodLink RX9 199 ⟨"HouseFiddlesModel", "soundsIn", "(III)I"⟩ ∈ lw_tb := lw_tb_at 1189 (by decide +kernel) rfl
theorem cs_M_isString : xcs yyM_isString 1 := ⟨⟨lw_tb_at 1188 (by decide +kernel) rfl, lw_tb_at 9 (by decide +kernel) rfl, ⟨by decide +kernel, by decide +kernel⟩, by decide +kernel⟩, lw_tb_at 1187 (by decide +kernel) rfl⟩
theorem ml_RX9_206 : Cond.methodLink RX9 206 ⟨"HouseFiddlesModel", "isString", "(I)Z"⟩ ∈ lw_tb := lw_tb_at 1186 (by decide +kernel) rfl
theorem cv_M_playsIn : xcv yyM_playsIn 3 := ⟨⟨lw_tb_at 1212 (by decide +kernel) rfl, lw_tb_at 9 (by decide +kernel) rfl, ⟨by decide +kernel, by decide +kernel⟩, by decide +kernel⟩, lw_tb_at 1211 (by decide +kernel) rfl, lw_tb_sel 60 (by decide +kernel) rfl⟩
theorem ml_RX9_209 : Cond.methodLink RX9 209 ⟨"HouseFiddlesModel", "playsIn", "(III)I"⟩ ∈ lw_tb := lw_tb_at 1209 (by decide +kernel) rfl
theorem cv_M_tries : xcv yyM_tries 0 := ⟨⟨lw_tb_at 1226 (by decide +kernel) rfl, lw_tb_at 9 (by decide +kernel) rfl, ⟨by decide +kernel, by decide +kernel⟩, by decide +kernel⟩, lw_tb_at 1225 (by decide +kernel) rfl, lw_tb_sel 61 (by decide +kernel) rfl⟩
theorem ml_RX9_212 : Cond.methodLink RX9 212 ⟨"HouseFiddlesModel", "tries", "()V"⟩ ∈ lw_tb := lw_tb_at 1223 (by decide +kernel) rfl
theorem cl_RX9_215 : Cond.constantLong RX9 215 (200 : Int64) ∈ lw_tb := lw_tb_at 1235 (by decide +kernel) rfl
theorem cv_M_freeOnes : xcv yyM_freeOnes 0 := ⟨⟨lw_tb_at 1243 (by decide +kernel) rfl, lw_tb_at 9 (by decide +kernel) rfl, ⟨by decide +kernel, by decide +kernel⟩, by decide +kernel⟩, lw_tb_at 1242 (by decide +kernel) rfl, lw_tb_sel 62 (by decide +kernel) rfl⟩
theorem ml_RX9_217 : Cond.methodLink RX9 217 ⟨"HouseFiddlesModel", "freeOnes", "()I"⟩ ∈ lw_tb := lw_tb_at 1240 (by decide +kernel) rfl
theorem cs_M_has : xcs yyM_has 2 := ⟨⟨lw_tb_at 1246 (by decide +kernel) rfl, lw_tb_at 9 (by decide +kernel) rfl, ⟨by decide +kernel, by decide +kernel⟩, by decide +kernel⟩, lw_tb_at 1245 (by decide +kernel) rfl⟩
theorem ml_RX9_220 : Cond.methodLink RX9 220 ⟨"HouseFiddlesModel", "has", "(II)Z"⟩ ∈ lw_tb := lw_tb_at 1244 (by decide +kernel) rfl
theorem ci_RX9_223 : Cond.constant RX9 223 (1000000 : Int32) ∈ lw_tb := lw_tb_at 1259 (by decide +kernel) rfl
theorem fl_RX9_30 : Cond.fieldLink RX9 30 "HouseFiddlesModel" "bestIn" "[I" ∈ lw_tb := lw_tb_at 954 (by decide +kernel) rfl
theorem cv_M_hasRoom : xcv yyM_hasRoom 0 := ⟨⟨lw_tb_at 1254 (by decide +kernel) rfl, lw_tb_at 9 (by decide +kernel) rfl, ⟨by decide +kernel, by decide +kernel⟩, by decide +kernel⟩, lw_tb_at 1253 (by decide +kernel) rfl, lw_tb_sel 63 (by decide +kernel) rfl⟩
theorem ml_RX9_224 : Cond.methodLink RX9 224 ⟨"HouseFiddlesModel", "hasRoom", "()Z"⟩ ∈ lw_tb := lw_tb_at 1251 (by decide +kernel) rfl
theorem cv_M_poorest : xcv yyM_poorest 1 := ⟨⟨lw_tb_at 1258 (by decide +kernel) rfl, lw_tb_at 9 (by decide +kernel) rfl, ⟨by decide +kernel, by decide +kernel⟩, by decide +kernel⟩, lw_tb_at 1257 (by decide +kernel) rfl, lw_tb_sel 64 (by decide +kernel) rfl⟩
theorem ml_RX9_227 : Cond.methodLink RX9 227 ⟨"HouseFiddlesModel", "poorest", "(I)I"⟩ ∈ lw_tb := lw_tb_at 1255 (by decide +kernel) rfl
theorem cl_RX9_230 : Cond.constantLong RX9 230 (-4 : Int64) ∈ lw_tb := lw_tb_at 1268 (by decide +kernel) rfl
theorem cv_M_areNear : xcv yyM_areNear 3 := ⟨⟨lw_tb_at 1267 (by decide +kernel) rfl, lw_tb_at 9 (by decide +kernel) rfl, ⟨by decide +kernel, by decide +kernel⟩, by decide +kernel⟩, lw_tb_at 1266 (by decide +kernel) rfl, lw_tb_sel 65 (by decide +kernel) rfl⟩
theorem ml_RX9_232 : Cond.methodLink RX9 232 ⟨"HouseFiddlesModel", "areNear", "(III)Z"⟩ ∈ lw_tb := lw_tb_at 1264 (by decide +kernel) rfl
theorem fl_RX9_33 : Cond.fieldLink RX9 33 "HouseFiddlesModel" "sixOf" "[I" ∈ lw_tb := lw_tb_at 955 (by decide +kernel) rfl
theorem cv_M_whose : xcv yyM_whose 0 := ⟨⟨lw_tb_at 1280 (by decide +kernel) rfl, lw_tb_at 9 (by decide +kernel) rfl, ⟨by decide +kernel, by decide +kernel⟩, by decide +kernel⟩, lw_tb_at 1278 (by decide +kernel) rfl, lw_tb_at 1279 (by decide +kernel) rfl⟩
theorem ml_RX9_235 : Cond.methodLink RX9 235 ⟨"HouseFiddlesModel", "whose", "()I"⟩ ∈ lw_tb := lw_tb_at 1285 (by decide +kernel) rfl
theorem cv_M_greatest : xcv yyM_greatest 1 := ⟨⟨lw_tb_at 1289 (by decide +kernel) rfl, lw_tb_at 9 (by decide +kernel) rfl, ⟨by decide +kernel, by decide +kernel⟩, by decide +kernel⟩, lw_tb_at 1288 (by decide +kernel) rfl, lw_tb_sel 66 (by decide +kernel) rfl⟩
theorem ml_RX9_238 : Cond.methodLink RX9 238 ⟨"HouseFiddlesModel", "greatest", "(I)I"⟩ ∈ lw_tb := lw_tb_at 1286 (by decide +kernel) rfl
theorem cl_RX9_241 : Cond.constantLong RX9 241 (400 : Int64) ∈ lw_tb := lw_tb_at 1298 (by decide +kernel) rfl
theorem cv_M_kindsOf : xcv yyM_kindsOf 1 := ⟨⟨lw_tb_at 1310 (by decide +kernel) rfl, lw_tb_at 9 (by decide +kernel) rfl, ⟨by decide +kernel, by decide +kernel⟩, by decide +kernel⟩, lw_tb_at 1309 (by decide +kernel) rfl, lw_tb_sel 67 (by decide +kernel) rfl⟩
theorem ml_RX9_243 : Cond.methodLink RX9 243 ⟨"HouseFiddlesModel", "kindsOf", "(I)I"⟩ ∈ lw_tb := lw_tb_at 1307 (by decide +kernel) rfl
theorem cv_M_instrumentsOf : xcv yyM_instrumentsOf 1 := ⟨⟨lw_tb_at 1322 (by decide +kernel) rfl, lw_tb_at 9 (by decide +kernel) rfl, ⟨by decide +kernel, by decide +kernel⟩, by decide +kernel⟩, lw_tb_at 1321 (by decide +kernel) rfl, lw_tb_sel 68 (by decide +kernel) rfl⟩
theorem ml_RX9_246 : Cond.methodLink RX9 246 ⟨"HouseFiddlesModel", "instrumentsOf", "(I)I"⟩ ∈ lw_tb := lw_tb_at 1319 (by decide +kernel) rfl
theorem cs_M_getsBy : xcs yyM_getsBy 4 := ⟨⟨lw_tb_at 1336 (by decide +kernel) rfl, lw_tb_at 9 (by decide +kernel) rfl, ⟨by decide +kernel, by decide +kernel⟩, by decide +kernel⟩, lw_tb_at 1335 (by decide +kernel) rfl⟩
theorem ml_RX9_249 : Cond.methodLink RX9 249 ⟨"HouseFiddlesModel", "getsBy", "(IIIZ)I"⟩ ∈ lw_tb := lw_tb_at 1334 (by decide +kernel) rfl
theorem cs_M_rests : xcs yyM_rests 3 := ⟨⟨lw_tb_at 1333 (by decide +kernel) rfl, lw_tb_at 9 (by decide +kernel) rfl, ⟨by decide +kernel, by decide +kernel⟩, by decide +kernel⟩, lw_tb_at 1332 (by decide +kernel) rfl⟩
theorem ml_RX9_253 : Cond.methodLink RX9 253 ⟨"HouseFiddlesModel", "rests", "(III)Z"⟩ ∈ lw_tb := lw_tb_at 1331 (by decide +kernel) rfl
theorem cl_RX9_256 : Cond.constantLong RX9 256 (10 : Int64) ∈ lw_tb := lw_tb_at 1341 (by decide +kernel) rfl
theorem fl_RX9_20 : Cond.fieldLink RX9 20 "HouseFiddlesModel" "above" "J" ∈ lw_tb := lw_tb_at 948 (by decide +kernel) rfl
theorem fl_RX9_24 : Cond.fieldLink RX9 24 "HouseFiddlesModel" "below" "J" ∈ lw_tb := lw_tb_at 949 (by decide +kernel) rfl
theorem cl_RX9_258 : Cond.constantLong RX9 258 (999999 : Int64) ∈ lw_tb := lw_tb_at 1346 (by decide +kernel) rfl
theorem cl_RX9_260 : Cond.constantLong RX9 260 (1103515245 : Int64) ∈ lw_tb := lw_tb_at 1347 (by decide +kernel) rfl
theorem cl_RX9_262 : Cond.constantLong RX9 262 (12345 : Int64) ∈ lw_tb := lw_tb_at 1348 (by decide +kernel) rfl
theorem cl_RX9_264 : Cond.constantLong RX9 264 (2147483648 : Int64) ∈ lw_tb := lw_tb_at 1349 (by decide +kernel) rfl
theorem cl_RX9_266 : Cond.constantLong RX9 266 (65536 : Int64) ∈ lw_tb := lw_tb_at 1350 (by decide +kernel) rfl
theorem cl_RX9_268 : Cond.constantLong RX9 268 (1048576 : Int64) ∈ lw_tb := lw_tb_at 1351 (by decide +kernel) rfl
theorem fl_RX9_13 : Cond.fieldLink RX9 13 "HouseFiddlesModel" "isKept" "[Z" ∈ lw_tb := lw_tb_at 945 (by decide +kernel) rfl
theorem cv_M_countOf : xcv yyM_countOf 1 := ⟨⟨lw_tb_at 1375 (by decide +kernel) rfl, lw_tb_at 9 (by decide +kernel) rfl, ⟨by decide +kernel, by decide +kernel⟩, by decide +kernel⟩, lw_tb_at 1374 (by decide +kernel) rfl, lw_tb_sel 69 (by decide +kernel) rfl⟩
theorem ml_RX9_270 : Cond.methodLink RX9 270 ⟨"HouseFiddlesModel", "countOf", "(I)I"⟩ ∈ lw_tb := lw_tb_at 1372 (by decide +kernel) rfl
theorem cl_RX9_273 : Cond.constantLong RX9 273 (31 : Int64) ∈ lw_tb := lw_tb_at 1385 (by decide +kernel) rfl
theorem fl_RX9_275 : Cond.fieldLink RX9 275 "HouseFiddlesModel" "h" "J" ∈ lw_tb := lw_tb_at 956 (by decide +kernel) rfl
theorem cl_RX9_278 : Cond.constantLong RX9 278 (1523 : Int64) ∈ lw_tb := lw_tb_at 1380 (by decide +kernel) rfl
theorem cv_M_mix : xcv yyM_mix 1 := ⟨⟨lw_tb_at 1384 (by decide +kernel) rfl, lw_tb_at 9 (by decide +kernel) rfl, ⟨by decide +kernel, by decide +kernel⟩, by decide +kernel⟩, lw_tb_at 1383 (by decide +kernel) rfl, lw_tb_sel 70 (by decide +kernel) rfl⟩
theorem ml_RX9_280 : Cond.methodLink RX9 280 ⟨"HouseFiddlesModel", "mix", "(J)V"⟩ ∈ lw_tb := lw_tb_at 1381 (by decide +kernel) rfl
end
section
theorem dT_many_0 : decode (xb yyT_many) 0 = .ok (.aload_n 0, 1) := by decide +kernel
theorem dT_many_1 : decode (xb yyT_many) 1 = .ok (.getfield 28, 3) := by decide +kernel
theorem dT_many_4 : decode (xb yyT_many) 4 = .ok (.ireturn, 1) := by decide +kernel
def fT_many (t : Nat) (m : xM) : Option (Int32) := some (m.1 36 t)
set_option maxRecDepth 100000 in
set_option maxHeartbeats 4000000 in
theorem kT_many (G : xG) (t : Nat) (ht : t < 36) (z : xM) (m : xM) : ∀ a, fT_many t m  = some a → xCt G yyT_many [.ref (xa G (36 + t))] (m, z) (some (.int a)) (m, z) := by
  refine xR_ct (em := (emi (m, z))) rfl (Nat.le_of_ble_eq_true rfl) ?_
  show xR G yyT_many _ 0 [(0, .ref (xa G (36 + t)))] [] _ _
  unfold fT_many
  refine xR_aln 0 0 dT_many_0 rfl rfl ?_
  refine xR_getf 1 xcf3 3 (36 + t) (by decide) (xk_T ht) (xC_tab ht) (v := .int (m.1 36 t)) rfl fl_RX4_28 dT_many_1 ?_
  exact xR_iret 4 rfl rfl dT_many_4
theorem dT_empty_0 : decode (xb yyT_empty) 0 = .ok (.aload_n 0, 1) := by decide +kernel
theorem dT_empty_1 : decode (xb yyT_empty) 1 = .ok (.iconst 0, 1) := by decide +kernel
theorem dT_empty_2 : decode (xb yyT_empty) 2 = .ok (.putfield 28, 3) := by decide +kernel
theorem dT_empty_5 : decode (xb yyT_empty) 5 = .ok (.return_, 1) := by decide +kernel
def fT_empty (t : Nat) (m : xM) : Option (xM) := some (xset m 36 t (0 : Int32))
set_option maxRecDepth 100000 in
set_option maxHeartbeats 4000000 in
theorem kT_empty (G : xG) (t : Nat) (ht : t < 36) (z : xM) (m : xM) : ∀ a, fT_empty t m = some a → xCt G yyT_empty [.ref (xa G (36 + t))] (m, z) (none) (a, z) := by
  refine xR_ct (em := (emvc z)) rfl (Nat.le_of_ble_eq_true rfl) ?_
  show xR G yyT_empty _ 0 [(0, .ref (xa G (36 + t)))] [] _ _
  unfold fT_empty
  refine xR_aln 0 0 dT_empty_0 rfl rfl ?_
  refine xR_ic 1 (0 : Int32) dT_empty_1 (by decide) ?_
  refine xR_putf 2 xcf3 3 (36 + t) (by decide) (xk_T ht) (xC_tab ht) rfl rfl rfl (Nat.le_of_ble_eq_true rfl) ((xset m 36 t (0 : Int32)), z) (xW_used ht) fl_RX4_28 dT_empty_2 ?_
  exact xR_vret 5 rfl rfl dT_empty_5
theorem dT_newRow_0 : decode (xb yyT_newRow) 0 = .ok (.aload_n 0, 1) := by decide +kernel
theorem dT_newRow_1 : decode (xb yyT_newRow) 1 = .ok (.getfield 28, 3) := by decide +kernel
theorem dT_newRow_4 : decode (xb yyT_newRow) 4 = .ok (.aload_n 0, 1) := by decide +kernel
theorem dT_newRow_5 : decode (xb yyT_newRow) 5 = .ok (.getfield 15, 3) := by decide +kernel
theorem dT_newRow_8 : decode (xb yyT_newRow) 8 = .ok (.if_icmp .ge 17, 3) := by decide +kernel
theorem dT_newRow_11 : decode (xb yyT_newRow) 11 = .ok (.aload_n 0, 1) := by decide +kernel
theorem dT_newRow_12 : decode (xb yyT_newRow) 12 = .ok (.dup, 1) := by decide +kernel
theorem dT_newRow_13 : decode (xb yyT_newRow) 13 = .ok (.getfield 28, 3) := by decide +kernel
theorem dT_newRow_16 : decode (xb yyT_newRow) 16 = .ok (.dup_x1, 1) := by decide +kernel
theorem dT_newRow_17 : decode (xb yyT_newRow) 17 = .ok (.iconst 1, 1) := by decide +kernel
theorem dT_newRow_18 : decode (xb yyT_newRow) 18 = .ok (.iadd, 1) := by decide +kernel
theorem dT_newRow_19 : decode (xb yyT_newRow) 19 = .ok (.putfield 28, 3) := by decide +kernel
theorem dT_newRow_22 : decode (xb yyT_newRow) 22 = .ok (.goto 4, 3) := by decide +kernel
theorem dT_newRow_25 : decode (xb yyT_newRow) 25 = .ok (.iconst (-1), 1) := by decide +kernel
theorem dT_newRow_26 : decode (xb yyT_newRow) 26 = .ok (.ireturn, 1) := by decide +kernel
def fT_newRow (t : Nat) (m : xM) : Option (Int32 × xM) := (if (xrows t) ≤ (m.1 36 t) then some ((-1 : Int32), m) else some ((m.1 36 t), (xset m 36 t ((m.1 36 t) + (1 : Int32)))))
set_option maxRecDepth 100000 in
set_option maxHeartbeats 4000000 in
theorem kT_newRow (G : xG) (t : Nat) (ht : t < 36) (z : xM) (m : xM) : ∀ a, fT_newRow t m = some a → xCt G yyT_newRow [.ref (xa G (36 + t))] (m, z) (some (.int a.1)) (a.2, z) := by
  refine xR_ct (em := (emic z)) rfl (Nat.le_of_ble_eq_true rfl) ?_
  show xR G yyT_newRow _ 0 [(0, .ref (xa G (36 + t)))] [] _ _
  unfold fT_newRow
  refine xR_aln 0 0 dT_newRow_0 rfl rfl ?_
  refine xR_getf 1 xcf3 3 (36 + t) (by decide) (xk_T ht) (xC_tab ht) (v := .int (m.1 36 t)) rfl fl_RX4_28 dT_newRow_1 ?_
  refine xR_aln 4 0 dT_newRow_4 rfl rfl ?_
  refine xR_getf 5 xcf3 0 (36 + t) (by decide) (xk_T ht) (xC_tab ht) (v := .int (xrows t)) rfl fl_RX4_15 dT_newRow_5 ?_
  refine xR_icge 8 25 dT_newRow_8 (by decide) ?_ ?_
  · refine xR_ic 25 (-1 : Int32) dT_newRow_25 (by decide) ?_
    exact xR_iret 26 rfl rfl dT_newRow_26
  · refine xR_aln 11 0 dT_newRow_11 rfl rfl ?_
    refine xR_dup 12 dT_newRow_12 rfl ?_
    refine xR_getf 13 xcf3 3 (36 + t) (by decide) (xk_T ht) (xC_tab ht) (v := .int (m.1 36 t)) rfl fl_RX4_28 dT_newRow_13 ?_
    refine xR_dup_x1 16 dT_newRow_16 rfl rfl ?_
    refine xR_ic 17 (1 : Int32) dT_newRow_17 (by decide) ?_
    refine xR_iadd 18 dT_newRow_18 ?_
    refine xR_putf 19 xcf3 3 (36 + t) (by decide) (xk_T ht) (xC_tab ht) rfl rfl rfl (Nat.le_of_ble_eq_true rfl) ((xset m 36 t ((m.1 36 t) + (1 : Int32))), z) (xW_used ht) fl_RX4_28 dT_newRow_19 ?_
    refine xR_goto 22 26 dT_newRow_22 (by decide) ?_
    exact xR_iret 26 rfl rfl dT_newRow_26
theorem dT_put_0 : decode (xb yyT_put) 0 = .ok (.iload_n 1, 1) := by decide +kernel
theorem dT_put_1 : decode (xb yyT_put) 1 = .ok (.aload_n 0, 1) := by decide +kernel
theorem dT_put_2 : decode (xb yyT_put) 2 = .ok (.getfield 21, 3) := by decide +kernel
theorem dT_put_5 : decode (xb yyT_put) 5 = .ok (.imul, 1) := by decide +kernel
theorem dT_put_6 : decode (xb yyT_put) 6 = .ok (.iload_n 2, 1) := by decide +kernel
theorem dT_put_7 : decode (xb yyT_put) 7 = .ok (.iadd, 1) := by decide +kernel
theorem dT_put_8 : decode (xb yyT_put) 8 = .ok (.istore 4, 2) := by decide +kernel
theorem dT_put_10 : decode (xb yyT_put) 10 = .ok (.iload_n 2, 1) := by decide +kernel
theorem dT_put_11 : decode (xb yyT_put) 11 = .ok (.ifCond .lt 34, 3) := by decide +kernel
theorem dT_put_14 : decode (xb yyT_put) 14 = .ok (.iload_n 2, 1) := by decide +kernel
theorem dT_put_15 : decode (xb yyT_put) 15 = .ok (.aload_n 0, 1) := by decide +kernel
theorem dT_put_16 : decode (xb yyT_put) 16 = .ok (.getfield 21, 3) := by decide +kernel
theorem dT_put_19 : decode (xb yyT_put) 19 = .ok (.if_icmp .ge 26, 3) := by decide +kernel
theorem dT_put_22 : decode (xb yyT_put) 22 = .ok (.iload 4, 2) := by decide +kernel
theorem dT_put_24 : decode (xb yyT_put) 24 = .ok (.ifCond .lt 21, 3) := by decide +kernel
theorem dT_put_27 : decode (xb yyT_put) 27 = .ok (.iload 4, 2) := by decide +kernel
theorem dT_put_29 : decode (xb yyT_put) 29 = .ok (.aload_n 0, 1) := by decide +kernel
theorem dT_put_30 : decode (xb yyT_put) 30 = .ok (.getfield 24, 3) := by decide +kernel
theorem dT_put_33 : decode (xb yyT_put) 33 = .ok (.arraylength, 1) := by decide +kernel
theorem dT_put_34 : decode (xb yyT_put) 34 = .ok (.if_icmp .ge 11, 3) := by decide +kernel
theorem dT_put_37 : decode (xb yyT_put) 37 = .ok (.aload_n 0, 1) := by decide +kernel
theorem dT_put_38 : decode (xb yyT_put) 38 = .ok (.getfield 24, 3) := by decide +kernel
theorem dT_put_41 : decode (xb yyT_put) 41 = .ok (.iload 4, 2) := by decide +kernel
theorem dT_put_43 : decode (xb yyT_put) 43 = .ok (.iload_n 3, 1) := by decide +kernel
theorem dT_put_44 : decode (xb yyT_put) 44 = .ok (.iastore, 1) := by decide +kernel
theorem dT_put_45 : decode (xb yyT_put) 45 = .ok (.return_, 1) := by decide +kernel
def fT_put (t : Nat) (v1 : Int32) (v2 : Int32) (v3 : Int32) (m : xM) : Option (xM) := (if v2 < 0 then some m else (if (xwid t) ≤ v2 then some m else (if ((v1 * (xwid t)) + v2) < 0 then some m else (if (Int32.ofNat (xlen t)) ≤ ((v1 * (xwid t)) + v2) then some m else xck (xlen t) ((v1 * (xwid t)) + v2) (some (xset m t ((v1 * (xwid t)) + v2).toNatClampNeg v3))))))
set_option maxRecDepth 100000 in
set_option maxHeartbeats 4000000 in
theorem kT_put (G : xG) (t : Nat) (ht : t < 36) (z : xM) (m : xM) (v1 : Int32) (v2 : Int32) (v3 : Int32) : ∀ a, fT_put t v1 v2 v3 m = some a → xCt G yyT_put [.ref (xa G (36 + t)), .int v1, .int v2, .int v3] (m, z) (none) (a, z) := by
  refine xR_ct (em := (emvc z)) rfl (Nat.le_of_ble_eq_true rfl) ?_
  show xR G yyT_put _ 0 [(0, .ref (xa G (36 + t))), (1, .int v1), (2, .int v2), (3, .int v3)] [] _ _
  unfold fT_put
  refine xR_iln 0 1 dT_put_0 rfl rfl ?_
  refine xR_aln 1 0 dT_put_1 rfl rfl ?_
  refine xR_getf 2 xcf3 1 (36 + t) (by decide) (xk_T ht) (xC_tab ht) (v := .int (xwid t)) rfl fl_RX4_21 dT_put_2 ?_
  refine xR_imul 5 dT_put_5 ?_
  refine xR_iln 6 2 dT_put_6 rfl rfl ?_
  refine xR_iadd 7 dT_put_7 ?_
  refine xR_is 8 ([(4, .int ((v1 * (xwid t)) + v2)), (0, .ref (xa G (36 + t))), (1, .int v1), (2, .int v2), (3, .int v3)]) dT_put_8 (by decide) rfl ?_
  refine xR_iln 10 3 dT_put_10 rfl rfl ?_
  refine xR_iflt 11 45 dT_put_11 (by decide) ?_ ?_
  · exact xR_vret 45 rfl rfl dT_put_45
  · refine xR_iln 14 3 dT_put_14 rfl rfl ?_
    refine xR_aln 15 1 dT_put_15 rfl rfl ?_
    refine xR_getf 16 xcf3 1 (36 + t) (by decide) (xk_T ht) (xC_tab ht) (v := .int (xwid t)) rfl fl_RX4_21 dT_put_16 ?_
    refine xR_icge 19 45 dT_put_19 (by decide) ?_ ?_
    · exact xR_vret 45 rfl rfl dT_put_45
    · refine xR_il 22 0 dT_put_22 rfl ?_
      refine xR_iflt 24 45 dT_put_24 (by decide) ?_ ?_
      · exact xR_vret 45 rfl rfl dT_put_45
      · refine xR_il 27 0 dT_put_27 rfl ?_
        refine xR_aln 29 1 dT_put_29 rfl rfl ?_
        refine xR_getf 30 xcf3 2 (36 + t) (by decide) (xk_T ht) (xC_tab ht) (v := .ref (xa G t)) rfl fl_RX4_24 dT_put_30 ?_
        refine xR_alen 33 t (xk_A ht) (xC_arr ht) dT_put_33 ?_
        refine xR_icge 34 45 dT_put_34 (by decide) ?_ ?_
        · exact xR_vret 45 rfl rfl dT_put_45
        · refine xR_aln 37 1 dT_put_37 rfl rfl ?_
          refine xR_getf 38 xcf3 2 (36 + t) (by decide) (xk_T ht) (xC_tab ht) (v := .ref (xa G t)) rfl fl_RX4_24 dT_put_38 ?_
          refine xR_il 41 0 dT_put_41 rfl ?_
          refine xR_iln 43 4 dT_put_43 rfl rfl ?_
          refine xR_iast 44 t (xk_A ht) (xC_arr ht) ((xset m t ((v1 * (xwid t)) + v2).toNatClampNeg v3), z) (xW_arr ht) dT_put_44 ?_
          exact xR_vret 45 rfl rfl dT_put_45
theorem dH_within_0 : decode (xb yyH_within) 0 = .ok (.iload_n 0, 1) := by decide +kernel
theorem dH_within_1 : decode (xb yyH_within) 1 = .ok (.iload_n 1, 1) := by decide +kernel
theorem dH_within_2 : decode (xb yyH_within) 2 = .ok (.if_icmp .lt 12, 3) := by decide +kernel
theorem dH_within_5 : decode (xb yyH_within) 5 = .ok (.iload_n 0, 1) := by decide +kernel
theorem dH_within_6 : decode (xb yyH_within) 6 = .ok (.iload_n 2, 1) := by decide +kernel
theorem dH_within_7 : decode (xb yyH_within) 7 = .ok (.if_icmp .gt 7, 3) := by decide +kernel
theorem dH_within_10 : decode (xb yyH_within) 10 = .ok (.iconst 1, 1) := by decide +kernel
theorem dH_within_11 : decode (xb yyH_within) 11 = .ok (.goto 4, 3) := by decide +kernel
theorem dH_within_14 : decode (xb yyH_within) 14 = .ok (.iconst 0, 1) := by decide +kernel
theorem dH_within_15 : decode (xb yyH_within) 15 = .ok (.ireturn, 1) := by decide +kernel
def fH_within  (v0 : Int32) (v1 : Int32) (v2 : Int32) : Option (Int32) := (if v0 < v1 then some (xnb (0 : Int32)) else (if v2 < v0 then some (xnb (0 : Int32)) else some (xnb (1 : Int32))))
set_option maxRecDepth 100000 in
set_option maxHeartbeats 4000000 in
theorem kH_within (G : xG)   (S : xS)  (v0 : Int32) (v1 : Int32) (v2 : Int32) : ∀ a, fH_within  v0 v1 v2 = some a → xCt G yyH_within [.int v0, .int v1, .int v2] S (some (.int a)) S := by
  refine xR_ct (em := (emi S)) rfl (Nat.le_of_ble_eq_true rfl) ?_
  show xR G yyH_within _ 0 [(0, .int v0), (1, .int v1), (2, .int v2)] [] _ _
  unfold fH_within
  refine xR_iln 0 0 dH_within_0 rfl rfl ?_
  refine xR_iln 1 1 dH_within_1 rfl rfl ?_
  refine xR_iclt 2 14 dH_within_2 (by decide) ?_ ?_
  · refine xR_ic 14 (0 : Int32) dH_within_14 (by decide) ?_
    exact xR_zret 15 rfl rfl dH_within_15
  · refine xR_iln 5 0 dH_within_5 rfl rfl ?_
    refine xR_iln 6 2 dH_within_6 rfl rfl ?_
    refine xR_icgt 7 14 dH_within_7 (by decide) ?_ ?_
    · refine xR_ic 14 (0 : Int32) dH_within_14 (by decide) ?_
      exact xR_zret 15 rfl rfl dH_within_15
    · refine xR_ic 10 (1 : Int32) dH_within_10 (by decide) ?_
      refine xR_goto 11 15 dH_within_11 (by decide) ?_
      exact xR_zret 15 rfl rfl dH_within_15
theorem dT_get_0 : decode (xb yyT_get) 0 = .ok (.iload_n 1, 1) := by decide +kernel
theorem dT_get_1 : decode (xb yyT_get) 1 = .ok (.aload_n 0, 1) := by decide +kernel
theorem dT_get_2 : decode (xb yyT_get) 2 = .ok (.getfield 21, 3) := by decide +kernel
theorem dT_get_5 : decode (xb yyT_get) 5 = .ok (.imul, 1) := by decide +kernel
theorem dT_get_6 : decode (xb yyT_get) 6 = .ok (.iload_n 2, 1) := by decide +kernel
theorem dT_get_7 : decode (xb yyT_get) 7 = .ok (.iadd, 1) := by decide +kernel
theorem dT_get_8 : decode (xb yyT_get) 8 = .ok (.istore_n 3, 1) := by decide +kernel
theorem dT_get_9 : decode (xb yyT_get) 9 = .ok (.iload_n 2, 1) := by decide +kernel
theorem dT_get_10 : decode (xb yyT_get) 10 = .ok (.ifCond .lt 24, 3) := by decide +kernel
theorem dT_get_13 : decode (xb yyT_get) 13 = .ok (.iload_n 2, 1) := by decide +kernel
theorem dT_get_14 : decode (xb yyT_get) 14 = .ok (.aload_n 0, 1) := by decide +kernel
theorem dT_get_15 : decode (xb yyT_get) 15 = .ok (.getfield 21, 3) := by decide +kernel
theorem dT_get_18 : decode (xb yyT_get) 18 = .ok (.if_icmp .ge 16, 3) := by decide +kernel
theorem dT_get_21 : decode (xb yyT_get) 21 = .ok (.iload_n 3, 1) := by decide +kernel
theorem dT_get_22 : decode (xb yyT_get) 22 = .ok (.ifCond .lt 12, 3) := by decide +kernel
theorem dT_get_25 : decode (xb yyT_get) 25 = .ok (.iload_n 3, 1) := by decide +kernel
theorem dT_get_26 : decode (xb yyT_get) 26 = .ok (.aload_n 0, 1) := by decide +kernel
theorem dT_get_27 : decode (xb yyT_get) 27 = .ok (.getfield 24, 3) := by decide +kernel
theorem dT_get_30 : decode (xb yyT_get) 30 = .ok (.arraylength, 1) := by decide +kernel
theorem dT_get_31 : decode (xb yyT_get) 31 = .ok (.if_icmp .lt 5, 3) := by decide +kernel
theorem dT_get_34 : decode (xb yyT_get) 34 = .ok (.iconst 0, 1) := by decide +kernel
theorem dT_get_35 : decode (xb yyT_get) 35 = .ok (.ireturn, 1) := by decide +kernel
theorem dT_get_36 : decode (xb yyT_get) 36 = .ok (.aload_n 0, 1) := by decide +kernel
theorem dT_get_37 : decode (xb yyT_get) 37 = .ok (.getfield 24, 3) := by decide +kernel
theorem dT_get_40 : decode (xb yyT_get) 40 = .ok (.iload_n 3, 1) := by decide +kernel
theorem dT_get_41 : decode (xb yyT_get) 41 = .ok (.iaload, 1) := by decide +kernel
theorem dT_get_42 : decode (xb yyT_get) 42 = .ok (.ireturn, 1) := by decide +kernel
def fT_get (t : Nat) (m : xM) (v1 : Int32) (v2 : Int32) : Option (Int32) := (if v2 < 0 then some (0 : Int32) else (if (xwid t) ≤ v2 then some (0 : Int32) else (if ((v1 * (xwid t)) + v2) < 0 then some (0 : Int32) else (if ((v1 * (xwid t)) + v2) < (Int32.ofNat (xlen t)) then xck (xlen t) ((v1 * (xwid t)) + v2) (some (m.1 t ((v1 * (xwid t)) + v2).toNatClampNeg)) else some (0 : Int32)))))
set_option maxRecDepth 100000 in
set_option maxHeartbeats 4000000 in
theorem kT_get (G : xG) (t : Nat) (ht : t < 36) (z : xM) (m : xM) (v1 : Int32) (v2 : Int32) : ∀ a, fT_get t m v1 v2 = some a → xCt G yyT_get [.ref (xa G (36 + t)), .int v1, .int v2] (m, z) (some (.int a)) (m, z) := by
  refine xR_ct (em := (emi (m, z))) rfl (Nat.le_of_ble_eq_true rfl) ?_
  show xR G yyT_get _ 0 [(0, .ref (xa G (36 + t))), (1, .int v1), (2, .int v2)] [] _ _
  unfold fT_get
  refine xR_iln 0 1 dT_get_0 rfl rfl ?_
  refine xR_aln 1 0 dT_get_1 rfl rfl ?_
  refine xR_getf 2 xcf3 1 (36 + t) (by decide) (xk_T ht) (xC_tab ht) (v := .int (xwid t)) rfl fl_RX4_21 dT_get_2 ?_
  refine xR_imul 5 dT_get_5 ?_
  refine xR_iln 6 2 dT_get_6 rfl rfl ?_
  refine xR_iadd 7 dT_get_7 ?_
  refine xR_isn 8 ([(3, .int ((v1 * (xwid t)) + v2)), (0, .ref (xa G (36 + t))), (1, .int v1), (2, .int v2)]) dT_get_8 rfl (by decide) rfl ?_
  refine xR_iln 9 3 dT_get_9 rfl rfl ?_
  refine xR_iflt 10 34 dT_get_10 (by decide) ?_ ?_
  · refine xR_ic 34 (0 : Int32) dT_get_34 (by decide) ?_
    exact xR_iret 35 rfl rfl dT_get_35
  · refine xR_iln 13 3 dT_get_13 rfl rfl ?_
    refine xR_aln 14 1 dT_get_14 rfl rfl ?_
    refine xR_getf 15 xcf3 1 (36 + t) (by decide) (xk_T ht) (xC_tab ht) (v := .int (xwid t)) rfl fl_RX4_21 dT_get_15 ?_
    refine xR_icge 18 34 dT_get_18 (by decide) ?_ ?_
    · refine xR_ic 34 (0 : Int32) dT_get_34 (by decide) ?_
      exact xR_iret 35 rfl rfl dT_get_35
    · refine xR_iln 21 0 dT_get_21 rfl rfl ?_
      refine xR_iflt 22 34 dT_get_22 (by decide) ?_ ?_
      · refine xR_ic 34 (0 : Int32) dT_get_34 (by decide) ?_
        exact xR_iret 35 rfl rfl dT_get_35
      · refine xR_iln 25 0 dT_get_25 rfl rfl ?_
        refine xR_aln 26 1 dT_get_26 rfl rfl ?_
        refine xR_getf 27 xcf3 2 (36 + t) (by decide) (xk_T ht) (xC_tab ht) (v := .ref (xa G t)) rfl fl_RX4_24 dT_get_27 ?_
        refine xR_alen 30 t (xk_A ht) (xC_arr ht) dT_get_30 ?_
        refine xR_iclt 31 36 dT_get_31 (by decide) ?_ ?_
        · refine xR_aln 36 1 dT_get_36 rfl rfl ?_
          refine xR_getf 37 xcf3 2 (36 + t) (by decide) (xk_T ht) (xC_tab ht) (v := .ref (xa G t)) rfl fl_RX4_24 dT_get_37 ?_
          refine xR_iln 40 0 dT_get_40 rfl rfl ?_
          refine xR_iald 41 t (xk_A ht) (xC_arr ht) dT_get_41 ?_
          exact xR_iret 42 rfl rfl dT_get_42
        · refine xR_ic 34 (0 : Int32) dT_get_34 (by decide) ?_
          exact xR_iret 35 rfl rfl dT_get_35
theorem dH_isKind_0 : decode (xb yyH_isKind) 0 = .ok (.iload_n 0, 1) := by decide +kernel
theorem dH_isKind_1 : decode (xb yyH_isKind) 1 = .ok (.iconst 0, 1) := by decide +kernel
theorem dH_isKind_2 : decode (xb yyH_isKind) 2 = .ok (.iconst 5, 1) := by decide +kernel
theorem dH_isKind_3 : decode (xb yyH_isKind) 3 = .ok (.invokestatic 78, 3) := by decide +kernel
theorem dH_isKind_6 : decode (xb yyH_isKind) 6 = .ok (.ireturn, 1) := by decide +kernel
def fH_isKind  (v0 : Int32) : Option (Int32) := (fH_within v0 (0 : Int32) (5 : Int32)).bind fun r3 => some (xnb r3)
set_option maxRecDepth 100000 in
set_option maxHeartbeats 4000000 in
theorem kH_isKind (G : xG)   (S : xS)  (v0 : Int32) : ∀ a, fH_isKind  v0 = some a → xCt G yyH_isKind [.int v0] S (some (.int a)) S := by
  refine xR_ct (em := (emi S)) rfl (Nat.le_of_ble_eq_true rfl) ?_
  show xR G yyH_isKind _ 0 [(0, .int v0)] [] _ _
  unfold fH_isKind
  refine xR_iln 0 0 dH_isKind_0 rfl rfl ?_
  refine xR_ic 1 (0 : Int32) dH_isKind_1 (by decide) ?_
  refine xR_ic 2 (5 : Int32) dH_isKind_2 (by decide) ?_
  refine xR_callSi 3 cs_H_within ml_RX8_78 ⟨Nat.le_of_ble_eq_true rfl, Nat.le_of_ble_eq_true rfl⟩ [.int v0, .int (0 : Int32), .int (5 : Int32)] rfl rfl (Nat.le_of_ble_eq_true rfl) dH_isKind_3 (kH_within G S v0 (0 : Int32) (5 : Int32)) (fun r3 => ?_)
  exact xR_zret 6 rfl rfl dH_isKind_6
theorem dO_textOf_0 : decode (xb yyO_textOf) 0 = .ok (.iload_n 0, 1) := by decide +kernel
theorem dO_textOf_1 : decode (xb yyO_textOf) 1 = .ok (.tableswitch 57 0 5 #[39, 42, 45, 48, 51, 54], 39) := by decide +kernel
theorem dO_textOf_40 : decode (xb yyO_textOf) 40 = .ok (.ldc 81, 2) := by decide +kernel
theorem dO_textOf_42 : decode (xb yyO_textOf) 42 = .ok (.areturn, 1) := by decide +kernel
theorem dO_textOf_43 : decode (xb yyO_textOf) 43 = .ok (.ldc 83, 2) := by decide +kernel
theorem dO_textOf_45 : decode (xb yyO_textOf) 45 = .ok (.areturn, 1) := by decide +kernel
theorem dO_textOf_46 : decode (xb yyO_textOf) 46 = .ok (.ldc 85, 2) := by decide +kernel
theorem dO_textOf_48 : decode (xb yyO_textOf) 48 = .ok (.areturn, 1) := by decide +kernel
theorem dO_textOf_49 : decode (xb yyO_textOf) 49 = .ok (.ldc 87, 2) := by decide +kernel
theorem dO_textOf_51 : decode (xb yyO_textOf) 51 = .ok (.areturn, 1) := by decide +kernel
theorem dO_textOf_52 : decode (xb yyO_textOf) 52 = .ok (.ldc 89, 2) := by decide +kernel
theorem dO_textOf_54 : decode (xb yyO_textOf) 54 = .ok (.areturn, 1) := by decide +kernel
theorem dO_textOf_55 : decode (xb yyO_textOf) 55 = .ok (.ldc 91, 2) := by decide +kernel
theorem dO_textOf_57 : decode (xb yyO_textOf) 57 = .ok (.areturn, 1) := by decide +kernel
theorem dO_textOf_58 : decode (xb yyO_textOf) 58 = .ok (.ldc 93, 2) := by decide +kernel
theorem dO_textOf_60 : decode (xb yyO_textOf) 60 = .ok (.areturn, 1) := by decide +kernel
def fO_textOf  (v0 : Int32) : Option (Nat) := (if v0 = (0 : Int32) then some 0 else (if v0 = (1 : Int32) then some 1 else (if v0 = (2 : Int32) then some 2 else (if v0 = (3 : Int32) then some 3 else (if v0 = (4 : Int32) then some 4 else (if v0 = (5 : Int32) then some 5 else some 6))))))
set_option maxRecDepth 100000 in
set_option maxHeartbeats 4000000 in
theorem kO_textOf (G : xG)   (S : xS)  (v0 : Int32) : ∀ a, fO_textOf  v0 = some a → xCt G yyO_textOf [.int v0] S (some (.ref (xa G (100 + a)))) S := by
  refine xR_ct (em := (emq G S)) rfl (Nat.le_of_ble_eq_true rfl) ?_
  show xR G yyO_textOf _ 0 [(0, .int v0)] [] _ _
  unfold fO_textOf
  refine xR_iln 0 0 dO_textOf_0 rfl rfl ?_
  refine xR_tsw 1 40 (0 : Int32) dO_textOf_1 (by decide) (by decide) rfl (by decide) ?_ (fun hs1_0 => ?_)
  · refine xR_sldc 40 0 (by decide) rfl rfl dO_textOf_40 ?_
    exact xR_aret 42 0 rfl rfl dO_textOf_42
  refine xR_tsw 1 43 (1 : Int32) dO_textOf_1 (by decide) (by decide) rfl (by decide) ?_ (fun hs1_1 => ?_)
  · refine xR_sldc 43 1 (by decide) rfl rfl dO_textOf_43 ?_
    exact xR_aret 45 1 rfl rfl dO_textOf_45
  refine xR_tsw 1 46 (2 : Int32) dO_textOf_1 (by decide) (by decide) rfl (by decide) ?_ (fun hs1_2 => ?_)
  · refine xR_sldc 46 2 (by decide) rfl rfl dO_textOf_46 ?_
    exact xR_aret 48 2 rfl rfl dO_textOf_48
  refine xR_tsw 1 49 (3 : Int32) dO_textOf_1 (by decide) (by decide) rfl (by decide) ?_ (fun hs1_3 => ?_)
  · refine xR_sldc 49 3 (by decide) rfl rfl dO_textOf_49 ?_
    exact xR_aret 51 3 rfl rfl dO_textOf_51
  refine xR_tsw 1 52 (4 : Int32) dO_textOf_1 (by decide) (by decide) rfl (by decide) ?_ (fun hs1_4 => ?_)
  · refine xR_sldc 52 4 (by decide) rfl rfl dO_textOf_52 ?_
    exact xR_aret 54 4 rfl rfl dO_textOf_54
  refine xR_tsw 1 55 (5 : Int32) dO_textOf_1 (by decide) (by decide) rfl (by decide) ?_ (fun hs1_5 => ?_)
  · refine xR_sldc 55 5 (by decide) rfl rfl dO_textOf_55 ?_
    exact xR_aret 57 5 rfl rfl dO_textOf_57
  refine xR_tso 1 58 dO_textOf_1 (by have e0 := lv_neT hs1_0 (a := 0) rfl; have e1 := lv_neT hs1_1 (a := 1) rfl; have e2 := lv_neT hs1_2 (a := 2) rfl; have e3 := lv_neT hs1_3 (a := 3) rfl; have e4 := lv_neT hs1_4 (a := 4) rfl; have e5 := lv_neT hs1_5 (a := 5) rfl; omega) (by decide) ?_
  refine xR_sldc 58 6 (by decide) rfl rfl dO_textOf_58 ?_
  exact xR_aret 60 6 rfl rfl dO_textOf_60
theorem dU_coder_0 : decode (xb yyU_coder) 0 = .ok (.getstatic 38, 3) := by decide +kernel
theorem dU_coder_3 : decode (xb yyU_coder) 3 = .ok (.ifCond .eq 10, 3) := by decide +kernel
theorem dU_coder_6 : decode (xb yyU_coder) 6 = .ok (.aload_n 0, 1) := by decide +kernel
theorem dU_coder_7 : decode (xb yyU_coder) 7 = .ok (.getfield 15, 3) := by decide +kernel
theorem dU_coder_10 : decode (xb yyU_coder) 10 = .ok (.goto 4, 3) := by decide +kernel
theorem dU_coder_13 : decode (xb yyU_coder) 13 = .ok (.iconst 1, 1) := by decide +kernel
theorem dU_coder_14 : decode (xb yyU_coder) 14 = .ok (.ireturn, 1) := by decide +kernel
def fU_coder (t : Nat) : Option (Int32) := (if (1 : Int32) = 0 then some (vp_nar .byte (1 : Int32)) else some (vp_nar .byte (0 : Int32)))
set_option maxRecDepth 100000 in
set_option maxHeartbeats 4000000 in
theorem kU_coder (G : xG) (t : Nat) (ht : t < 7) (S : xS)  : ∀ a, fU_coder t  = some a → xCt G yyU_coder [.ref (xa G (100 + t))] S (some (.int a)) S := by
  refine xR_ct (em := (emi S)) rfl (Nat.le_of_ble_eq_true rfl) ?_
  show xR G yyU_coder _ 0 [(0, .ref (xa G (100 + t)))] [] _ _
  unfold fU_coder
  refine xR_sgets 0 fl_RJ0_38 dU_coder_0 ?_
  refine xR_ifeq 3 13 dU_coder_3 (by decide) ?_ ?_
  · refine xR_ic 13 (1 : Int32) dU_coder_13 (by decide) ?_
    exact xR_nret 14 .byte (by decide) rfl rfl dU_coder_14
  · refine xR_aln 6 0 dU_coder_6 rfl rfl ?_
    refine xR_sgetc 7 t ht fl_RJ0_15 dU_coder_7 ?_
    refine xR_goto 10 14 dU_coder_10 (by decide) ?_
    exact xR_nret 14 .byte (by decide) rfl rfl dU_coder_14
theorem dU_length_0 : decode (xb yyU_length) 0 = .ok (.aload_n 0, 1) := by decide +kernel
theorem dU_length_1 : decode (xb yyU_length) 1 = .ok (.getfield 9, 3) := by decide +kernel
theorem dU_length_4 : decode (xb yyU_length) 4 = .ok (.arraylength, 1) := by decide +kernel
theorem dU_length_5 : decode (xb yyU_length) 5 = .ok (.aload_n 0, 1) := by decide +kernel
theorem dU_length_6 : decode (xb yyU_length) 6 = .ok (.invokevirtual 335, 3) := by decide +kernel
theorem dU_length_9 : decode (xb yyU_length) 9 = .ok (.ishr, 1) := by decide +kernel
theorem dU_length_10 : decode (xb yyU_length) 10 = .ok (.ireturn, 1) := by decide +kernel
def fU_length (t : Nat) : Option (Int32) := (fU_coder t).bind fun r6 => some ((Int32.ofNat (xlS.getD t 0)) >>> (r6 &&& 31))
set_option maxRecDepth 100000 in
set_option maxHeartbeats 4000000 in
theorem kU_length (G : xG) (t : Nat) (ht : t < 7) (S : xS)  : ∀ a, fU_length t  = some a → xCt G yyU_length [.ref (xa G (100 + t))] S (some (.int a)) S := by
  refine xR_ct (em := (emi S)) rfl (Nat.le_of_ble_eq_true rfl) ?_
  show xR G yyU_length _ 0 [(0, .ref (xa G (100 + t)))] [] _ _
  unfold fU_length
  refine xR_aln 0 0 dU_length_0 rfl rfl ?_
  refine xR_sgetv 1 t ht fl_RJ0_9 dU_length_1 ?_
  refine xR_salen 4 t ht dU_length_4 ?_
  refine xR_aln 5 0 dU_length_5 rfl rfl ?_
  refine xR_callQi 6 cv_U_coder ml_RJ0_335 ⟨Nat.le_of_ble_eq_true rfl, Nat.le_of_ble_eq_true rfl⟩ rfl t ht [] rfl rfl (Nat.le_of_ble_eq_true rfl) dU_length_6 (kU_coder G t ht S) (fun r6 => ?_)
  refine xR_ishr 9 dU_length_9 ?_
  exact xR_iret 10 rfl rfl dU_length_10
theorem dU_isLatin1_0 : decode (xb yyU_isLatin1) 0 = .ok (.getstatic 38, 3) := by decide +kernel
theorem dU_isLatin1_3 : decode (xb yyU_isLatin1) 3 = .ok (.ifCond .eq 14, 3) := by decide +kernel
theorem dU_isLatin1_6 : decode (xb yyU_isLatin1) 6 = .ok (.aload_n 0, 1) := by decide +kernel
theorem dU_isLatin1_7 : decode (xb yyU_isLatin1) 7 = .ok (.getfield 15, 3) := by decide +kernel
theorem dU_isLatin1_10 : decode (xb yyU_isLatin1) 10 = .ok (.ifCond .ne 7, 3) := by decide +kernel
theorem dU_isLatin1_13 : decode (xb yyU_isLatin1) 13 = .ok (.iconst 1, 1) := by decide +kernel
theorem dU_isLatin1_14 : decode (xb yyU_isLatin1) 14 = .ok (.goto 4, 3) := by decide +kernel
theorem dU_isLatin1_17 : decode (xb yyU_isLatin1) 17 = .ok (.iconst 0, 1) := by decide +kernel
theorem dU_isLatin1_18 : decode (xb yyU_isLatin1) 18 = .ok (.ireturn, 1) := by decide +kernel
def fU_isLatin1 (t : Nat) : Option (Int32) := (if (1 : Int32) = 0 then some (xnb (0 : Int32)) else (if (0 : Int32) = 0 then some (xnb (1 : Int32)) else some (xnb (0 : Int32))))
set_option maxRecDepth 100000 in
set_option maxHeartbeats 4000000 in
theorem kU_isLatin1 (G : xG) (t : Nat) (ht : t < 7) (S : xS)  : ∀ a, fU_isLatin1 t  = some a → xCt G yyU_isLatin1 [.ref (xa G (100 + t))] S (some (.int a)) S := by
  refine xR_ct (em := (emi S)) rfl (Nat.le_of_ble_eq_true rfl) ?_
  show xR G yyU_isLatin1 _ 0 [(0, .ref (xa G (100 + t)))] [] _ _
  unfold fU_isLatin1
  refine xR_sgets 0 fl_RJ0_38 dU_isLatin1_0 ?_
  refine xR_ifeq 3 17 dU_isLatin1_3 (by decide) ?_ ?_
  · refine xR_ic 17 (0 : Int32) dU_isLatin1_17 (by decide) ?_
    exact xR_zret 18 rfl rfl dU_isLatin1_18
  · refine xR_aln 6 0 dU_isLatin1_6 rfl rfl ?_
    refine xR_sgetc 7 t ht fl_RJ0_15 dU_isLatin1_7 ?_
    refine xR_ifne 10 17 dU_isLatin1_10 (by decide) ?_ ?_
    · refine xR_ic 17 (0 : Int32) dU_isLatin1_17 (by decide) ?_
      exact xR_zret 18 rfl rfl dU_isLatin1_18
    · refine xR_ic 13 (1 : Int32) dU_isLatin1_13 (by decide) ?_
      refine xR_goto 14 18 dU_isLatin1_14 (by decide) ?_
      exact xR_zret 18 rfl rfl dU_isLatin1_18
theorem dP_checkIndex_0 : decode (xb yyP_checkIndex) 0 = .ok (.iload_n 0, 1) := by decide +kernel
theorem dP_checkIndex_1 : decode (xb yyP_checkIndex) 1 = .ok (.ifCond .lt 8, 3) := by decide +kernel
theorem dP_checkIndex_4 : decode (xb yyP_checkIndex) 4 = .ok (.iload_n 0, 1) := by decide +kernel
theorem dP_checkIndex_5 : decode (xb yyP_checkIndex) 5 = .ok (.iload_n 1, 1) := by decide +kernel
theorem dP_checkIndex_6 : decode (xb yyP_checkIndex) 6 = .ok (.if_icmp .lt 10, 3) := by decide +kernel
theorem dP_checkIndex_9 : decode (xb yyP_checkIndex) 9 = .ok (.aload_n 2, 1) := by decide +kernel
theorem dP_checkIndex_10 : decode (xb yyP_checkIndex) 10 = .ok (.iload_n 0, 1) := by decide +kernel
theorem dP_checkIndex_11 : decode (xb yyP_checkIndex) 11 = .ok (.iload_n 1, 1) := by decide +kernel
theorem dP_checkIndex_12 : decode (xb yyP_checkIndex) 12 = .ok (.invokestatic 95, 3) := by decide +kernel
theorem dP_checkIndex_16 : decode (xb yyP_checkIndex) 16 = .ok (.iload_n 0, 1) := by decide +kernel
theorem dP_checkIndex_17 : decode (xb yyP_checkIndex) 17 = .ok (.ireturn, 1) := by decide +kernel
def fP_checkIndex_b9  (v0 : Int32) (v1 : Int32) : Option (Int32) := none
def fP_checkIndex  (v0 : Int32) (v1 : Int32) : Option (Int32) := (if v0 < 0 then fP_checkIndex_b9 v0 v1 else (if v0 < v1 then some v0 else fP_checkIndex_b9 v0 v1))
set_option maxRecDepth 100000 in
set_option maxHeartbeats 4000000 in
theorem kP_checkIndex_b9 (G : xG)   (S : xS)    (v0 : Int32) (v1 : Int32) : xR G yyP_checkIndex (emi S) 9 [(0, .int v0), (1, .int v1), (2, .ref (xa G 300))] [] S (fP_checkIndex_b9  v0 v1) := by
  unfold fP_checkIndex_b9
  refine xR_aln 9 2 dP_checkIndex_9 rfl rfl ?_
  refine xR_iln 10 0 dP_checkIndex_10 rfl rfl ?_
  refine xR_iln 11 1 dP_checkIndex_11 rfl rfl ?_
  exact xR_none
set_option maxRecDepth 100000 in
set_option maxHeartbeats 4000000 in
theorem kP_checkIndex (G : xG)   (S : xS)  (v0 : Int32) (v1 : Int32) : ∀ a, fP_checkIndex  v0 v1 = some a → xCt G yyP_checkIndex [.int v0, .int v1, .ref (xa G 300)] S (some (.int a)) S := by
  refine xR_ct (em := (emi S)) rfl (Nat.le_of_ble_eq_true rfl) ?_
  show xR G yyP_checkIndex _ 0 [(0, .int v0), (1, .int v1), (2, .ref (xa G 300))] [] _ _
  unfold fP_checkIndex
  refine xR_iln 0 0 dP_checkIndex_0 rfl rfl ?_
  refine xR_iflt 1 9 dP_checkIndex_1 (by decide) ?_ ?_
  · exact kP_checkIndex_b9 G S v0 v1
  · refine xR_iln 4 0 dP_checkIndex_4 rfl rfl ?_
    refine xR_iln 5 1 dP_checkIndex_5 rfl rfl ?_
    refine xR_iclt 6 16 dP_checkIndex_6 (by decide) ?_ ?_
    · refine xR_iln 16 0 dP_checkIndex_16 rfl rfl ?_
      exact xR_iret 17 rfl rfl dP_checkIndex_17
    · exact kP_checkIndex_b9 G S v0 v1
theorem dU_checkIndex_0 : decode (xb yyU_checkIndex) 0 = .ok (.iload_n 0, 1) := by decide +kernel
theorem dU_checkIndex_1 : decode (xb yyU_checkIndex) 1 = .ok (.iload_n 1, 1) := by decide +kernel
theorem dU_checkIndex_2 : decode (xb yyU_checkIndex) 2 = .ok (.getstatic 1053, 3) := by decide +kernel
theorem dU_checkIndex_5 : decode (xb yyU_checkIndex) 5 = .ok (.invokestatic 1059, 3) := by decide +kernel
theorem dU_checkIndex_8 : decode (xb yyU_checkIndex) 8 = .ok (.pop, 1) := by decide +kernel
theorem dU_checkIndex_9 : decode (xb yyU_checkIndex) 9 = .ok (.return_, 1) := by decide +kernel
def fU_checkIndex  (v0 : Int32) (v1 : Int32) : Option (Unit) := (fP_checkIndex v0 v1).bind fun r5 => some ()
set_option maxRecDepth 100000 in
set_option maxHeartbeats 4000000 in
theorem kU_checkIndex (G : xG)   (S : xS)  (v0 : Int32) (v1 : Int32) : ∀ a, fU_checkIndex  v0 v1 = some a → xCt G yyU_checkIndex [.int v0, .int v1] S (none) S := by
  refine xR_ct (em := (emu S)) rfl (Nat.le_of_ble_eq_true rfl) ?_
  show xR G yyU_checkIndex _ 0 [(0, .int v0), (1, .int v1)] [] _ _
  unfold fU_checkIndex
  refine xR_iln 0 0 dU_checkIndex_0 rfl rfl ?_
  refine xR_iln 1 1 dU_checkIndex_1 rfl rfl ?_
  refine xR_sgetf 2 fl_RJ0_1053 dU_checkIndex_2 ?_
  refine xR_callSi 5 cs_P_checkIndex ml_RJ0_1059 ⟨Nat.le_of_ble_eq_true rfl, Nat.le_of_ble_eq_true rfl⟩ [.int v0, .int v1, .ref (xa G 300)] rfl rfl (Nat.le_of_ble_eq_true rfl) dU_checkIndex_5 (kP_checkIndex G S v0 v1) (fun r5 => ?_)
  refine xR_pop 8 dU_checkIndex_8 rfl ?_
  exact xR_vret 9 rfl rfl dU_checkIndex_9
theorem dL_charAt_0 : decode (xb yyL_charAt) 0 = .ok (.iload_n 1, 1) := by decide +kernel
theorem dL_charAt_1 : decode (xb yyL_charAt) 1 = .ok (.aload_n 0, 1) := by decide +kernel
theorem dL_charAt_2 : decode (xb yyL_charAt) 2 = .ok (.arraylength, 1) := by decide +kernel
theorem dL_charAt_3 : decode (xb yyL_charAt) 3 = .ok (.invokestatic 9, 3) := by decide +kernel
theorem dL_charAt_6 : decode (xb yyL_charAt) 6 = .ok (.aload_n 0, 1) := by decide +kernel
theorem dL_charAt_7 : decode (xb yyL_charAt) 7 = .ok (.iload_n 1, 1) := by decide +kernel
theorem dL_charAt_8 : decode (xb yyL_charAt) 8 = .ok (.baload, 1) := by decide +kernel
theorem dL_charAt_9 : decode (xb yyL_charAt) 9 = .ok (.sipush 255, 3) := by decide +kernel
theorem dL_charAt_12 : decode (xb yyL_charAt) 12 = .ok (.iand, 1) := by decide +kernel
theorem dL_charAt_13 : decode (xb yyL_charAt) 13 = .ok (.i2c, 1) := by decide +kernel
theorem dL_charAt_14 : decode (xb yyL_charAt) 14 = .ok (.ireturn, 1) := by decide +kernel
def fL_charAt (t0 : Nat) (v1 : Int32) : Option (Int32) := (fU_checkIndex v1 (Int32.ofNat (xlS.getD t0 0))).bind fun r3 => xck (xlS.getD t0 0) v1 (some (vp_nar .char (((((xbS.getD t0 []).getD v1.toNatClampNeg 0) &&& (255 : Int32))).toUInt32 % 65536).toInt32))
set_option maxRecDepth 100000 in
set_option maxHeartbeats 4000000 in
theorem kL_charAt (G : xG) (t0 : Nat) (ht0 : t0 < 7) (S : xS)  (v1 : Int32) : ∀ a, fL_charAt t0 v1 = some a → xCt G yyL_charAt [.ref (xa G (200 + t0)), .int v1] S (some (.int a)) S := by
  refine xR_ct (em := (emi S)) rfl (Nat.le_of_ble_eq_true rfl) ?_
  show xR G yyL_charAt _ 0 [(0, .ref (xa G (200 + t0))), (1, .int v1)] [] _ _
  unfold fL_charAt
  refine xR_iln 0 1 dL_charAt_0 rfl rfl ?_
  refine xR_aln 1 0 dL_charAt_1 rfl rfl ?_
  refine xR_salen 2 t0 ht0 dL_charAt_2 ?_
  refine xR_callSu 3 cs_U_checkIndex ml_RJ1_9 ⟨Nat.le_of_ble_eq_true rfl, Nat.le_of_ble_eq_true rfl⟩ [.int v1, .int (Int32.ofNat (xlS.getD t0 0))] rfl rfl (Nat.le_of_ble_eq_true rfl) dL_charAt_3 (kU_checkIndex G S v1 (Int32.ofNat (xlS.getD t0 0))) (fun r3 => ?_)
  refine xR_aln 6 0 dL_charAt_6 rfl rfl ?_
  refine xR_iln 7 1 dL_charAt_7 rfl rfl ?_
  refine xR_sbald 8 t0 ht0 dL_charAt_8 ?_
  refine xR_sp 9 (255 : Int32) dL_charAt_9 (by decide) ?_
  refine xR_iand 12 dL_charAt_12 ?_
  refine xR_i2c 13 dL_charAt_13 ?_
  exact xR_nret 14 .char (by decide) rfl rfl dL_charAt_14
theorem dU_charAt_0 : decode (xb yyU_charAt) 0 = .ok (.aload_n 0, 1) := by decide +kernel
theorem dU_charAt_1 : decode (xb yyU_charAt) 1 = .ok (.invokevirtual 492, 3) := by decide +kernel
theorem dU_charAt_4 : decode (xb yyU_charAt) 4 = .ok (.ifCond .eq 12, 3) := by decide +kernel
theorem dU_charAt_7 : decode (xb yyU_charAt) 7 = .ok (.aload_n 0, 1) := by decide +kernel
theorem dU_charAt_8 : decode (xb yyU_charAt) 8 = .ok (.getfield 9, 3) := by decide +kernel
theorem dU_charAt_11 : decode (xb yyU_charAt) 11 = .ok (.iload_n 1, 1) := by decide +kernel
theorem dU_charAt_12 : decode (xb yyU_charAt) 12 = .ok (.invokestatic 495, 3) := by decide +kernel
theorem dU_charAt_15 : decode (xb yyU_charAt) 15 = .ok (.ireturn, 1) := by decide +kernel
theorem dU_charAt_16 : decode (xb yyU_charAt) 16 = .ok (.aload_n 0, 1) := by decide +kernel
theorem dU_charAt_17 : decode (xb yyU_charAt) 17 = .ok (.getfield 9, 3) := by decide +kernel
theorem dU_charAt_20 : decode (xb yyU_charAt) 20 = .ok (.iload_n 1, 1) := by decide +kernel
theorem dU_charAt_21 : decode (xb yyU_charAt) 21 = .ok (.invokestatic 498, 3) := by decide +kernel
def fU_charAt (t : Nat) (v1 : Int32) : Option (Int32) := (fU_isLatin1 t).bind fun r1 => (if r1 = 0 then none else (fL_charAt t v1).bind fun r12 => some (vp_nar .char r12))
set_option maxRecDepth 100000 in
set_option maxHeartbeats 4000000 in
theorem kU_charAt (G : xG) (t : Nat) (ht : t < 7) (S : xS)  (v1 : Int32) : ∀ a, fU_charAt t v1 = some a → xCt G yyU_charAt [.ref (xa G (100 + t)), .int v1] S (some (.int a)) S := by
  refine xR_ct (em := (emi S)) rfl (Nat.le_of_ble_eq_true rfl) ?_
  show xR G yyU_charAt _ 0 [(0, .ref (xa G (100 + t))), (1, .int v1)] [] _ _
  unfold fU_charAt
  refine xR_aln 0 0 dU_charAt_0 rfl rfl ?_
  refine xR_callQi 1 cv_U_isLatin1 ml_RJ0_492 ⟨Nat.le_of_ble_eq_true rfl, Nat.le_of_ble_eq_true rfl⟩ rfl t ht [] rfl rfl (Nat.le_of_ble_eq_true rfl) dU_charAt_1 (kU_isLatin1 G t ht S) (fun r1 => ?_)
  refine xR_ifeq 4 16 dU_charAt_4 (by decide) ?_ ?_
  · refine xR_aln 16 0 dU_charAt_16 rfl rfl ?_
    refine xR_sgetv 17 t ht fl_RJ0_9 dU_charAt_17 ?_
    refine xR_iln 20 1 dU_charAt_20 rfl rfl ?_
    exact xR_none
  · refine xR_aln 7 0 dU_charAt_7 rfl rfl ?_
    refine xR_sgetv 8 t ht fl_RJ0_9 dU_charAt_8 ?_
    refine xR_iln 11 1 dU_charAt_11 rfl rfl ?_
    refine xR_callSi 12 cs_L_charAt ml_RJ0_495 ⟨Nat.le_of_ble_eq_true rfl, Nat.le_of_ble_eq_true rfl⟩ [.ref (xa G (200 + t)), .int v1] rfl rfl (Nat.le_of_ble_eq_true rfl) dU_charAt_12 (kL_charAt G t ht S v1) (fun r12 => ?_)
    exact xR_nret 15 .char (by decide) rfl rfl dU_charAt_15
theorem dJ_bitCount_0 : decode (xb yyJ_bitCount) 0 = .ok (.iload_n 0, 1) := by decide +kernel
theorem dJ_bitCount_1 : decode (xb yyJ_bitCount) 1 = .ok (.iload_n 0, 1) := by decide +kernel
theorem dJ_bitCount_2 : decode (xb yyJ_bitCount) 2 = .ok (.iconst 1, 1) := by decide +kernel
theorem dJ_bitCount_3 : decode (xb yyJ_bitCount) 3 = .ok (.iushr, 1) := by decide +kernel
theorem dJ_bitCount_4 : decode (xb yyJ_bitCount) 4 = .ok (.ldc_w 265, 3) := by decide +kernel
theorem dJ_bitCount_7 : decode (xb yyJ_bitCount) 7 = .ok (.iand, 1) := by decide +kernel
theorem dJ_bitCount_8 : decode (xb yyJ_bitCount) 8 = .ok (.isub, 1) := by decide +kernel
theorem dJ_bitCount_9 : decode (xb yyJ_bitCount) 9 = .ok (.istore_n 0, 1) := by decide +kernel
theorem dJ_bitCount_10 : decode (xb yyJ_bitCount) 10 = .ok (.iload_n 0, 1) := by decide +kernel
theorem dJ_bitCount_11 : decode (xb yyJ_bitCount) 11 = .ok (.ldc_w 266, 3) := by decide +kernel
theorem dJ_bitCount_14 : decode (xb yyJ_bitCount) 14 = .ok (.iand, 1) := by decide +kernel
theorem dJ_bitCount_15 : decode (xb yyJ_bitCount) 15 = .ok (.iload_n 0, 1) := by decide +kernel
theorem dJ_bitCount_16 : decode (xb yyJ_bitCount) 16 = .ok (.iconst 2, 1) := by decide +kernel
theorem dJ_bitCount_17 : decode (xb yyJ_bitCount) 17 = .ok (.iushr, 1) := by decide +kernel
theorem dJ_bitCount_18 : decode (xb yyJ_bitCount) 18 = .ok (.ldc_w 266, 3) := by decide +kernel
theorem dJ_bitCount_21 : decode (xb yyJ_bitCount) 21 = .ok (.iand, 1) := by decide +kernel
theorem dJ_bitCount_22 : decode (xb yyJ_bitCount) 22 = .ok (.iadd, 1) := by decide +kernel
theorem dJ_bitCount_23 : decode (xb yyJ_bitCount) 23 = .ok (.istore_n 0, 1) := by decide +kernel
theorem dJ_bitCount_24 : decode (xb yyJ_bitCount) 24 = .ok (.iload_n 0, 1) := by decide +kernel
theorem dJ_bitCount_25 : decode (xb yyJ_bitCount) 25 = .ok (.iload_n 0, 1) := by decide +kernel
theorem dJ_bitCount_26 : decode (xb yyJ_bitCount) 26 = .ok (.iconst 4, 1) := by decide +kernel
theorem dJ_bitCount_27 : decode (xb yyJ_bitCount) 27 = .ok (.iushr, 1) := by decide +kernel
theorem dJ_bitCount_28 : decode (xb yyJ_bitCount) 28 = .ok (.iadd, 1) := by decide +kernel
theorem dJ_bitCount_29 : decode (xb yyJ_bitCount) 29 = .ok (.ldc_w 267, 3) := by decide +kernel
theorem dJ_bitCount_32 : decode (xb yyJ_bitCount) 32 = .ok (.iand, 1) := by decide +kernel
theorem dJ_bitCount_33 : decode (xb yyJ_bitCount) 33 = .ok (.istore_n 0, 1) := by decide +kernel
theorem dJ_bitCount_34 : decode (xb yyJ_bitCount) 34 = .ok (.iload_n 0, 1) := by decide +kernel
theorem dJ_bitCount_35 : decode (xb yyJ_bitCount) 35 = .ok (.iload_n 0, 1) := by decide +kernel
theorem dJ_bitCount_36 : decode (xb yyJ_bitCount) 36 = .ok (.bipush 8, 2) := by decide +kernel
theorem dJ_bitCount_38 : decode (xb yyJ_bitCount) 38 = .ok (.iushr, 1) := by decide +kernel
theorem dJ_bitCount_39 : decode (xb yyJ_bitCount) 39 = .ok (.iadd, 1) := by decide +kernel
theorem dJ_bitCount_40 : decode (xb yyJ_bitCount) 40 = .ok (.istore_n 0, 1) := by decide +kernel
theorem dJ_bitCount_41 : decode (xb yyJ_bitCount) 41 = .ok (.iload_n 0, 1) := by decide +kernel
theorem dJ_bitCount_42 : decode (xb yyJ_bitCount) 42 = .ok (.iload_n 0, 1) := by decide +kernel
theorem dJ_bitCount_43 : decode (xb yyJ_bitCount) 43 = .ok (.bipush 16, 2) := by decide +kernel
theorem dJ_bitCount_45 : decode (xb yyJ_bitCount) 45 = .ok (.iushr, 1) := by decide +kernel
theorem dJ_bitCount_46 : decode (xb yyJ_bitCount) 46 = .ok (.iadd, 1) := by decide +kernel
theorem dJ_bitCount_47 : decode (xb yyJ_bitCount) 47 = .ok (.istore_n 0, 1) := by decide +kernel
theorem dJ_bitCount_48 : decode (xb yyJ_bitCount) 48 = .ok (.iload_n 0, 1) := by decide +kernel
theorem dJ_bitCount_49 : decode (xb yyJ_bitCount) 49 = .ok (.bipush 63, 2) := by decide +kernel
theorem dJ_bitCount_51 : decode (xb yyJ_bitCount) 51 = .ok (.iand, 1) := by decide +kernel
theorem dJ_bitCount_52 : decode (xb yyJ_bitCount) 52 = .ok (.ireturn, 1) := by decide +kernel
def fJ_bitCount  (v0 : Int32) : Option (Int32) := some ((((((((v0 - ((v0.toUInt32 >>> ((1 : Int32).toUInt32 &&& Int32.toUInt32 31)).toInt32 &&& (1431655765 : Int32))) &&& (858993459 : Int32)) + (((v0 - ((v0.toUInt32 >>> ((1 : Int32).toUInt32 &&& Int32.toUInt32 31)).toInt32 &&& (1431655765 : Int32))).toUInt32 >>> ((2 : Int32).toUInt32 &&& Int32.toUInt32 31)).toInt32 &&& (858993459 : Int32))) + ((((v0 - ((v0.toUInt32 >>> ((1 : Int32).toUInt32 &&& Int32.toUInt32 31)).toInt32 &&& (1431655765 : Int32))) &&& (858993459 : Int32)) + (((v0 - ((v0.toUInt32 >>> ((1 : Int32).toUInt32 &&& Int32.toUInt32 31)).toInt32 &&& (1431655765 : Int32))).toUInt32 >>> ((2 : Int32).toUInt32 &&& Int32.toUInt32 31)).toInt32 &&& (858993459 : Int32))).toUInt32 >>> ((4 : Int32).toUInt32 &&& Int32.toUInt32 31)).toInt32) &&& (252645135 : Int32)) + ((((((v0 - ((v0.toUInt32 >>> ((1 : Int32).toUInt32 &&& Int32.toUInt32 31)).toInt32 &&& (1431655765 : Int32))) &&& (858993459 : Int32)) + (((v0 - ((v0.toUInt32 >>> ((1 : Int32).toUInt32 &&& Int32.toUInt32 31)).toInt32 &&& (1431655765 : Int32))).toUInt32 >>> ((2 : Int32).toUInt32 &&& Int32.toUInt32 31)).toInt32 &&& (858993459 : Int32))) + ((((v0 - ((v0.toUInt32 >>> ((1 : Int32).toUInt32 &&& Int32.toUInt32 31)).toInt32 &&& (1431655765 : Int32))) &&& (858993459 : Int32)) + (((v0 - ((v0.toUInt32 >>> ((1 : Int32).toUInt32 &&& Int32.toUInt32 31)).toInt32 &&& (1431655765 : Int32))).toUInt32 >>> ((2 : Int32).toUInt32 &&& Int32.toUInt32 31)).toInt32 &&& (858993459 : Int32))).toUInt32 >>> ((4 : Int32).toUInt32 &&& Int32.toUInt32 31)).toInt32) &&& (252645135 : Int32)).toUInt32 >>> ((8 : Int32).toUInt32 &&& Int32.toUInt32 31)).toInt32) + (((((((v0 - ((v0.toUInt32 >>> ((1 : Int32).toUInt32 &&& Int32.toUInt32 31)).toInt32 &&& (1431655765 : Int32))) &&& (858993459 : Int32)) + (((v0 - ((v0.toUInt32 >>> ((1 : Int32).toUInt32 &&& Int32.toUInt32 31)).toInt32 &&& (1431655765 : Int32))).toUInt32 >>> ((2 : Int32).toUInt32 &&& Int32.toUInt32 31)).toInt32 &&& (858993459 : Int32))) + ((((v0 - ((v0.toUInt32 >>> ((1 : Int32).toUInt32 &&& Int32.toUInt32 31)).toInt32 &&& (1431655765 : Int32))) &&& (858993459 : Int32)) + (((v0 - ((v0.toUInt32 >>> ((1 : Int32).toUInt32 &&& Int32.toUInt32 31)).toInt32 &&& (1431655765 : Int32))).toUInt32 >>> ((2 : Int32).toUInt32 &&& Int32.toUInt32 31)).toInt32 &&& (858993459 : Int32))).toUInt32 >>> ((4 : Int32).toUInt32 &&& Int32.toUInt32 31)).toInt32) &&& (252645135 : Int32)) + ((((((v0 - ((v0.toUInt32 >>> ((1 : Int32).toUInt32 &&& Int32.toUInt32 31)).toInt32 &&& (1431655765 : Int32))) &&& (858993459 : Int32)) + (((v0 - ((v0.toUInt32 >>> ((1 : Int32).toUInt32 &&& Int32.toUInt32 31)).toInt32 &&& (1431655765 : Int32))).toUInt32 >>> ((2 : Int32).toUInt32 &&& Int32.toUInt32 31)).toInt32 &&& (858993459 : Int32))) + ((((v0 - ((v0.toUInt32 >>> ((1 : Int32).toUInt32 &&& Int32.toUInt32 31)).toInt32 &&& (1431655765 : Int32))) &&& (858993459 : Int32)) + (((v0 - ((v0.toUInt32 >>> ((1 : Int32).toUInt32 &&& Int32.toUInt32 31)).toInt32 &&& (1431655765 : Int32))).toUInt32 >>> ((2 : Int32).toUInt32 &&& Int32.toUInt32 31)).toInt32 &&& (858993459 : Int32))).toUInt32 >>> ((4 : Int32).toUInt32 &&& Int32.toUInt32 31)).toInt32) &&& (252645135 : Int32)).toUInt32 >>> ((8 : Int32).toUInt32 &&& Int32.toUInt32 31)).toInt32).toUInt32 >>> ((16 : Int32).toUInt32 &&& Int32.toUInt32 31)).toInt32) &&& (63 : Int32))
set_option maxRecDepth 100000 in
set_option maxHeartbeats 4000000 in
theorem kJ_bitCount (G : xG)   (S : xS)  (v0 : Int32) : ∀ a, fJ_bitCount  v0 = some a → xCt G yyJ_bitCount [.int v0] S (some (.int a)) S := by
  refine xR_ct (em := (emi S)) rfl (Nat.le_of_ble_eq_true rfl) ?_
  show xR G yyJ_bitCount _ 0 [(0, .int v0)] [] _ _
  unfold fJ_bitCount
  refine xR_iln 0 0 dJ_bitCount_0 rfl rfl ?_
  refine xR_iln 1 0 dJ_bitCount_1 rfl rfl ?_
  refine xR_ic 2 (1 : Int32) dJ_bitCount_2 (by decide) ?_
  refine xR_iushr 3 dJ_bitCount_3 ?_
  refine xR_ldcw 4 ci_RJ6_265 dJ_bitCount_4 ?_
  refine xR_iand 7 dJ_bitCount_7 ?_
  refine xR_isub 8 dJ_bitCount_8 ?_
  refine xR_isn 9 ([(0, .int (v0 - ((v0.toUInt32 >>> ((1 : Int32).toUInt32 &&& Int32.toUInt32 31)).toInt32 &&& (1431655765 : Int32))))]) dJ_bitCount_9 rfl (by decide) rfl ?_
  refine xR_iln 10 0 dJ_bitCount_10 rfl rfl ?_
  refine xR_ldcw 11 ci_RJ6_266 dJ_bitCount_11 ?_
  refine xR_iand 14 dJ_bitCount_14 ?_
  refine xR_iln 15 0 dJ_bitCount_15 rfl rfl ?_
  refine xR_ic 16 (2 : Int32) dJ_bitCount_16 (by decide) ?_
  refine xR_iushr 17 dJ_bitCount_17 ?_
  refine xR_ldcw 18 ci_RJ6_266 dJ_bitCount_18 ?_
  refine xR_iand 21 dJ_bitCount_21 ?_
  refine xR_iadd 22 dJ_bitCount_22 ?_
  refine xR_isn 23 ([(0, .int (((v0 - ((v0.toUInt32 >>> ((1 : Int32).toUInt32 &&& Int32.toUInt32 31)).toInt32 &&& (1431655765 : Int32))) &&& (858993459 : Int32)) + (((v0 - ((v0.toUInt32 >>> ((1 : Int32).toUInt32 &&& Int32.toUInt32 31)).toInt32 &&& (1431655765 : Int32))).toUInt32 >>> ((2 : Int32).toUInt32 &&& Int32.toUInt32 31)).toInt32 &&& (858993459 : Int32))))]) dJ_bitCount_23 rfl (by decide) rfl ?_
  refine xR_iln 24 0 dJ_bitCount_24 rfl rfl ?_
  refine xR_iln 25 0 dJ_bitCount_25 rfl rfl ?_
  refine xR_ic 26 (4 : Int32) dJ_bitCount_26 (by decide) ?_
  refine xR_iushr 27 dJ_bitCount_27 ?_
  refine xR_iadd 28 dJ_bitCount_28 ?_
  refine xR_ldcw 29 ci_RJ6_267 dJ_bitCount_29 ?_
  refine xR_iand 32 dJ_bitCount_32 ?_
  refine xR_isn 33 ([(0, .int (((((v0 - ((v0.toUInt32 >>> ((1 : Int32).toUInt32 &&& Int32.toUInt32 31)).toInt32 &&& (1431655765 : Int32))) &&& (858993459 : Int32)) + (((v0 - ((v0.toUInt32 >>> ((1 : Int32).toUInt32 &&& Int32.toUInt32 31)).toInt32 &&& (1431655765 : Int32))).toUInt32 >>> ((2 : Int32).toUInt32 &&& Int32.toUInt32 31)).toInt32 &&& (858993459 : Int32))) + ((((v0 - ((v0.toUInt32 >>> ((1 : Int32).toUInt32 &&& Int32.toUInt32 31)).toInt32 &&& (1431655765 : Int32))) &&& (858993459 : Int32)) + (((v0 - ((v0.toUInt32 >>> ((1 : Int32).toUInt32 &&& Int32.toUInt32 31)).toInt32 &&& (1431655765 : Int32))).toUInt32 >>> ((2 : Int32).toUInt32 &&& Int32.toUInt32 31)).toInt32 &&& (858993459 : Int32))).toUInt32 >>> ((4 : Int32).toUInt32 &&& Int32.toUInt32 31)).toInt32) &&& (252645135 : Int32)))]) dJ_bitCount_33 rfl (by decide) rfl ?_
  refine xR_iln 34 0 dJ_bitCount_34 rfl rfl ?_
  refine xR_iln 35 0 dJ_bitCount_35 rfl rfl ?_
  refine xR_bp 36 (8 : Int32) dJ_bitCount_36 (by decide) ?_
  refine xR_iushr 38 dJ_bitCount_38 ?_
  refine xR_iadd 39 dJ_bitCount_39 ?_
  refine xR_isn 40 ([(0, .int ((((((v0 - ((v0.toUInt32 >>> ((1 : Int32).toUInt32 &&& Int32.toUInt32 31)).toInt32 &&& (1431655765 : Int32))) &&& (858993459 : Int32)) + (((v0 - ((v0.toUInt32 >>> ((1 : Int32).toUInt32 &&& Int32.toUInt32 31)).toInt32 &&& (1431655765 : Int32))).toUInt32 >>> ((2 : Int32).toUInt32 &&& Int32.toUInt32 31)).toInt32 &&& (858993459 : Int32))) + ((((v0 - ((v0.toUInt32 >>> ((1 : Int32).toUInt32 &&& Int32.toUInt32 31)).toInt32 &&& (1431655765 : Int32))) &&& (858993459 : Int32)) + (((v0 - ((v0.toUInt32 >>> ((1 : Int32).toUInt32 &&& Int32.toUInt32 31)).toInt32 &&& (1431655765 : Int32))).toUInt32 >>> ((2 : Int32).toUInt32 &&& Int32.toUInt32 31)).toInt32 &&& (858993459 : Int32))).toUInt32 >>> ((4 : Int32).toUInt32 &&& Int32.toUInt32 31)).toInt32) &&& (252645135 : Int32)) + ((((((v0 - ((v0.toUInt32 >>> ((1 : Int32).toUInt32 &&& Int32.toUInt32 31)).toInt32 &&& (1431655765 : Int32))) &&& (858993459 : Int32)) + (((v0 - ((v0.toUInt32 >>> ((1 : Int32).toUInt32 &&& Int32.toUInt32 31)).toInt32 &&& (1431655765 : Int32))).toUInt32 >>> ((2 : Int32).toUInt32 &&& Int32.toUInt32 31)).toInt32 &&& (858993459 : Int32))) + ((((v0 - ((v0.toUInt32 >>> ((1 : Int32).toUInt32 &&& Int32.toUInt32 31)).toInt32 &&& (1431655765 : Int32))) &&& (858993459 : Int32)) + (((v0 - ((v0.toUInt32 >>> ((1 : Int32).toUInt32 &&& Int32.toUInt32 31)).toInt32 &&& (1431655765 : Int32))).toUInt32 >>> ((2 : Int32).toUInt32 &&& Int32.toUInt32 31)).toInt32 &&& (858993459 : Int32))).toUInt32 >>> ((4 : Int32).toUInt32 &&& Int32.toUInt32 31)).toInt32) &&& (252645135 : Int32)).toUInt32 >>> ((8 : Int32).toUInt32 &&& Int32.toUInt32 31)).toInt32))]) dJ_bitCount_40 rfl (by decide) rfl ?_
  refine xR_iln 41 0 dJ_bitCount_41 rfl rfl ?_
  refine xR_iln 42 0 dJ_bitCount_42 rfl rfl ?_
  refine xR_bp 43 (16 : Int32) dJ_bitCount_43 (by decide) ?_
  refine xR_iushr 45 dJ_bitCount_45 ?_
  refine xR_iadd 46 dJ_bitCount_46 ?_
  refine xR_isn 47 ([(0, .int (((((((v0 - ((v0.toUInt32 >>> ((1 : Int32).toUInt32 &&& Int32.toUInt32 31)).toInt32 &&& (1431655765 : Int32))) &&& (858993459 : Int32)) + (((v0 - ((v0.toUInt32 >>> ((1 : Int32).toUInt32 &&& Int32.toUInt32 31)).toInt32 &&& (1431655765 : Int32))).toUInt32 >>> ((2 : Int32).toUInt32 &&& Int32.toUInt32 31)).toInt32 &&& (858993459 : Int32))) + ((((v0 - ((v0.toUInt32 >>> ((1 : Int32).toUInt32 &&& Int32.toUInt32 31)).toInt32 &&& (1431655765 : Int32))) &&& (858993459 : Int32)) + (((v0 - ((v0.toUInt32 >>> ((1 : Int32).toUInt32 &&& Int32.toUInt32 31)).toInt32 &&& (1431655765 : Int32))).toUInt32 >>> ((2 : Int32).toUInt32 &&& Int32.toUInt32 31)).toInt32 &&& (858993459 : Int32))).toUInt32 >>> ((4 : Int32).toUInt32 &&& Int32.toUInt32 31)).toInt32) &&& (252645135 : Int32)) + ((((((v0 - ((v0.toUInt32 >>> ((1 : Int32).toUInt32 &&& Int32.toUInt32 31)).toInt32 &&& (1431655765 : Int32))) &&& (858993459 : Int32)) + (((v0 - ((v0.toUInt32 >>> ((1 : Int32).toUInt32 &&& Int32.toUInt32 31)).toInt32 &&& (1431655765 : Int32))).toUInt32 >>> ((2 : Int32).toUInt32 &&& Int32.toUInt32 31)).toInt32 &&& (858993459 : Int32))) + ((((v0 - ((v0.toUInt32 >>> ((1 : Int32).toUInt32 &&& Int32.toUInt32 31)).toInt32 &&& (1431655765 : Int32))) &&& (858993459 : Int32)) + (((v0 - ((v0.toUInt32 >>> ((1 : Int32).toUInt32 &&& Int32.toUInt32 31)).toInt32 &&& (1431655765 : Int32))).toUInt32 >>> ((2 : Int32).toUInt32 &&& Int32.toUInt32 31)).toInt32 &&& (858993459 : Int32))).toUInt32 >>> ((4 : Int32).toUInt32 &&& Int32.toUInt32 31)).toInt32) &&& (252645135 : Int32)).toUInt32 >>> ((8 : Int32).toUInt32 &&& Int32.toUInt32 31)).toInt32) + (((((((v0 - ((v0.toUInt32 >>> ((1 : Int32).toUInt32 &&& Int32.toUInt32 31)).toInt32 &&& (1431655765 : Int32))) &&& (858993459 : Int32)) + (((v0 - ((v0.toUInt32 >>> ((1 : Int32).toUInt32 &&& Int32.toUInt32 31)).toInt32 &&& (1431655765 : Int32))).toUInt32 >>> ((2 : Int32).toUInt32 &&& Int32.toUInt32 31)).toInt32 &&& (858993459 : Int32))) + ((((v0 - ((v0.toUInt32 >>> ((1 : Int32).toUInt32 &&& Int32.toUInt32 31)).toInt32 &&& (1431655765 : Int32))) &&& (858993459 : Int32)) + (((v0 - ((v0.toUInt32 >>> ((1 : Int32).toUInt32 &&& Int32.toUInt32 31)).toInt32 &&& (1431655765 : Int32))).toUInt32 >>> ((2 : Int32).toUInt32 &&& Int32.toUInt32 31)).toInt32 &&& (858993459 : Int32))).toUInt32 >>> ((4 : Int32).toUInt32 &&& Int32.toUInt32 31)).toInt32) &&& (252645135 : Int32)) + ((((((v0 - ((v0.toUInt32 >>> ((1 : Int32).toUInt32 &&& Int32.toUInt32 31)).toInt32 &&& (1431655765 : Int32))) &&& (858993459 : Int32)) + (((v0 - ((v0.toUInt32 >>> ((1 : Int32).toUInt32 &&& Int32.toUInt32 31)).toInt32 &&& (1431655765 : Int32))).toUInt32 >>> ((2 : Int32).toUInt32 &&& Int32.toUInt32 31)).toInt32 &&& (858993459 : Int32))) + ((((v0 - ((v0.toUInt32 >>> ((1 : Int32).toUInt32 &&& Int32.toUInt32 31)).toInt32 &&& (1431655765 : Int32))) &&& (858993459 : Int32)) + (((v0 - ((v0.toUInt32 >>> ((1 : Int32).toUInt32 &&& Int32.toUInt32 31)).toInt32 &&& (1431655765 : Int32))).toUInt32 >>> ((2 : Int32).toUInt32 &&& Int32.toUInt32 31)).toInt32 &&& (858993459 : Int32))).toUInt32 >>> ((4 : Int32).toUInt32 &&& Int32.toUInt32 31)).toInt32) &&& (252645135 : Int32)).toUInt32 >>> ((8 : Int32).toUInt32 &&& Int32.toUInt32 31)).toInt32).toUInt32 >>> ((16 : Int32).toUInt32 &&& Int32.toUInt32 31)).toInt32))]) dJ_bitCount_47 rfl (by decide) rfl ?_
  refine xR_iln 48 0 dJ_bitCount_48 rfl rfl ?_
  refine xR_bp 49 (63 : Int32) dJ_bitCount_49 (by decide) ?_
  refine xR_iand 51 dJ_bitCount_51 ?_
  exact xR_iret 52 rfl rfl dJ_bitCount_52
theorem dT_become_0 : decode (xb yyT_become) 0 = .ok (.aload_n 1, 1) := by decide +kernel
theorem dT_become_1 : decode (xb yyT_become) 1 = .ok (.getfield 24, 3) := by decide +kernel
theorem dT_become_4 : decode (xb yyT_become) 4 = .ok (.iconst 0, 1) := by decide +kernel
theorem dT_become_5 : decode (xb yyT_become) 5 = .ok (.aload_n 0, 1) := by decide +kernel
theorem dT_become_6 : decode (xb yyT_become) 6 = .ok (.getfield 24, 3) := by decide +kernel
theorem dT_become_9 : decode (xb yyT_become) 9 = .ok (.iconst 0, 1) := by decide +kernel
theorem dT_become_10 : decode (xb yyT_become) 10 = .ok (.aload_n 0, 1) := by decide +kernel
theorem dT_become_11 : decode (xb yyT_become) 11 = .ok (.getfield 24, 3) := by decide +kernel
theorem dT_become_14 : decode (xb yyT_become) 14 = .ok (.arraylength, 1) := by decide +kernel
theorem dT_become_15 : decode (xb yyT_become) 15 = .ok (.aload_n 1, 1) := by decide +kernel
theorem dT_become_16 : decode (xb yyT_become) 16 = .ok (.getfield 24, 3) := by decide +kernel
theorem dT_become_19 : decode (xb yyT_become) 19 = .ok (.arraylength, 1) := by decide +kernel
theorem dT_become_20 : decode (xb yyT_become) 20 = .ok (.invokestatic 37, 3) := by decide +kernel
theorem dT_become_23 : decode (xb yyT_become) 23 = .ok (.invokestatic 31, 3) := by decide +kernel
theorem dT_become_26 : decode (xb yyT_become) 26 = .ok (.aload_n 0, 1) := by decide +kernel
theorem dT_become_27 : decode (xb yyT_become) 27 = .ok (.aload_n 1, 1) := by decide +kernel
theorem dT_become_28 : decode (xb yyT_become) 28 = .ok (.getfield 28, 3) := by decide +kernel
theorem dT_become_31 : decode (xb yyT_become) 31 = .ok (.aload_n 0, 1) := by decide +kernel
theorem dT_become_32 : decode (xb yyT_become) 32 = .ok (.getfield 15, 3) := by decide +kernel
theorem dT_become_35 : decode (xb yyT_become) 35 = .ok (.invokestatic 37, 3) := by decide +kernel
theorem dT_become_38 : decode (xb yyT_become) 38 = .ok (.putfield 28, 3) := by decide +kernel
theorem dT_become_41 : decode (xb yyT_become) 41 = .ok (.return_, 1) := by decide +kernel
def fT_become (t : Nat) (t1 : Nat) (m : xM) : Option (xM) := xcpy (xlen t1) (xlen t) (0 : Int32) (0 : Int32) (xmin (Int32.ofNat (xlen t)) (Int32.ofNat (xlen t1))) (some (xset (xcpm m t1 t (0 : Int32) (0 : Int32) (xmin (Int32.ofNat (xlen t)) (Int32.ofNat (xlen t1)))) 36 t (xmin ((xcpm m t1 t (0 : Int32) (0 : Int32) (xmin (Int32.ofNat (xlen t)) (Int32.ofNat (xlen t1)))).1 36 t1) (xrows t))))
set_option maxRecDepth 100000 in
set_option maxHeartbeats 4000000 in
theorem kT_become (G : xG) (t : Nat) (t1 : Nat) (ht : t < 36) (ht1 : t1 < 36) (z : xM) (m : xM) : ∀ a, fT_become t t1 m = some a → xCt G yyT_become [.ref (xa G (36 + t)), .ref (xa G (36 + t1))] (m, z) (none) (a, z) := by
  refine xR_ct (em := (emvc z)) rfl (Nat.le_of_ble_eq_true rfl) ?_
  show xR G yyT_become _ 0 [(0, .ref (xa G (36 + t))), (1, .ref (xa G (36 + t1)))] [] _ _
  unfold fT_become
  refine xR_aln 0 1 dT_become_0 rfl rfl ?_
  refine xR_getf 1 xcf3 2 (36 + t1) (by decide) (xk_T ht1) (xC_tab ht1) (v := .ref (xa G t1)) rfl fl_RX4_24 dT_become_1 ?_
  refine xR_ic 4 (0 : Int32) dT_become_4 (by decide) ?_
  refine xR_aln 5 0 dT_become_5 rfl rfl ?_
  refine xR_getf 6 xcf3 2 (36 + t) (by decide) (xk_T ht) (xC_tab ht) (v := .ref (xa G t)) rfl fl_RX4_24 dT_become_6 ?_
  refine xR_ic 9 (0 : Int32) dT_become_9 (by decide) ?_
  refine xR_aln 10 0 dT_become_10 rfl rfl ?_
  refine xR_getf 11 xcf3 2 (36 + t) (by decide) (xk_T ht) (xC_tab ht) (v := .ref (xa G t)) rfl fl_RX4_24 dT_become_11 ?_
  refine xR_alen 14 t (xk_A ht) (xC_arr ht) dT_become_14 ?_
  refine xR_aln 15 1 dT_become_15 rfl rfl ?_
  refine xR_getf 16 xcf3 2 (36 + t1) (by decide) (xk_T ht1) (xC_tab ht1) (v := .ref (xa G t1)) rfl fl_RX4_24 dT_become_16 ?_
  refine xR_alen 19 t1 (xk_A ht1) (xC_arr ht1) dT_become_19 ?_
  refine xR_mmin 20 ml_RX4_37 ⟨Nat.le_of_ble_eq_true rfl, Nat.le_of_ble_eq_true rfl⟩ dT_become_20 ?_
  refine xR_copy 23 ml_RX4_31 t1 t (xk_A ht1) (xk_A ht) (xC_arr ht1) (xC_arr ht) ((xcpm m t1 t (0 : Int32) (0 : Int32) (xmin (Int32.ofNat (xlen t)) (Int32.ofNat (xlen t1)))), z) (xW_copy ht) ⟨Nat.le_of_ble_eq_true rfl, Nat.le_of_ble_eq_true rfl⟩ dT_become_23 ?_
  refine xR_aln 26 0 dT_become_26 rfl rfl ?_
  refine xR_aln 27 1 dT_become_27 rfl rfl ?_
  refine xR_getf 28 xcf3 3 (36 + t1) (by decide) (xk_T ht1) (xC_tab ht1) (v := .int ((xcpm m t1 t (0 : Int32) (0 : Int32) (xmin (Int32.ofNat (xlen t)) (Int32.ofNat (xlen t1)))).1 36 t1)) rfl fl_RX4_28 dT_become_28 ?_
  refine xR_aln 31 0 dT_become_31 rfl rfl ?_
  refine xR_getf 32 xcf3 0 (36 + t) (by decide) (xk_T ht) (xC_tab ht) (v := .int (xrows t)) rfl fl_RX4_15 dT_become_32 ?_
  refine xR_mmin 35 ml_RX4_37 ⟨Nat.le_of_ble_eq_true rfl, Nat.le_of_ble_eq_true rfl⟩ dT_become_35 ?_
  refine xR_putf 38 xcf3 3 (36 + t) (by decide) (xk_T ht) (xC_tab ht) rfl rfl rfl (Nat.le_of_ble_eq_true rfl) ((xset (xcpm m t1 t (0 : Int32) (0 : Int32) (xmin (Int32.ofNat (xlen t)) (Int32.ofNat (xlen t1)))) 36 t (xmin ((xcpm m t1 t (0 : Int32) (0 : Int32) (xmin (Int32.ofNat (xlen t)) (Int32.ofNat (xlen t1)))).1 36 t1) (xrows t))), z) (xW_used ht) fl_RX4_28 dT_become_38 ?_
  exact xR_vret 41 rfl rfl dT_become_41
theorem dT_dropFirst_0 : decode (xb yyT_dropFirst) 0 = .ok (.aload_n 0, 1) := by decide +kernel
theorem dT_dropFirst_1 : decode (xb yyT_dropFirst) 1 = .ok (.getfield 28, 3) := by decide +kernel
theorem dT_dropFirst_4 : decode (xb yyT_dropFirst) 4 = .ok (.ifCond .le 51, 3) := by decide +kernel
theorem dT_dropFirst_7 : decode (xb yyT_dropFirst) 7 = .ok (.aload_n 0, 1) := by decide +kernel
theorem dT_dropFirst_8 : decode (xb yyT_dropFirst) 8 = .ok (.getfield 21, 3) := by decide +kernel
theorem dT_dropFirst_11 : decode (xb yyT_dropFirst) 11 = .ok (.aload_n 0, 1) := by decide +kernel
theorem dT_dropFirst_12 : decode (xb yyT_dropFirst) 12 = .ok (.getfield 24, 3) := by decide +kernel
theorem dT_dropFirst_15 : decode (xb yyT_dropFirst) 15 = .ok (.arraylength, 1) := by decide +kernel
theorem dT_dropFirst_16 : decode (xb yyT_dropFirst) 16 = .ok (.if_icmp .gt 39, 3) := by decide +kernel
theorem dT_dropFirst_19 : decode (xb yyT_dropFirst) 19 = .ok (.aload_n 0, 1) := by decide +kernel
theorem dT_dropFirst_20 : decode (xb yyT_dropFirst) 20 = .ok (.getfield 24, 3) := by decide +kernel
theorem dT_dropFirst_23 : decode (xb yyT_dropFirst) 23 = .ok (.aload_n 0, 1) := by decide +kernel
theorem dT_dropFirst_24 : decode (xb yyT_dropFirst) 24 = .ok (.getfield 21, 3) := by decide +kernel
theorem dT_dropFirst_27 : decode (xb yyT_dropFirst) 27 = .ok (.aload_n 0, 1) := by decide +kernel
theorem dT_dropFirst_28 : decode (xb yyT_dropFirst) 28 = .ok (.getfield 24, 3) := by decide +kernel
theorem dT_dropFirst_31 : decode (xb yyT_dropFirst) 31 = .ok (.iconst 0, 1) := by decide +kernel
theorem dT_dropFirst_32 : decode (xb yyT_dropFirst) 32 = .ok (.aload_n 0, 1) := by decide +kernel
theorem dT_dropFirst_33 : decode (xb yyT_dropFirst) 33 = .ok (.getfield 24, 3) := by decide +kernel
theorem dT_dropFirst_36 : decode (xb yyT_dropFirst) 36 = .ok (.arraylength, 1) := by decide +kernel
theorem dT_dropFirst_37 : decode (xb yyT_dropFirst) 37 = .ok (.aload_n 0, 1) := by decide +kernel
theorem dT_dropFirst_38 : decode (xb yyT_dropFirst) 38 = .ok (.getfield 21, 3) := by decide +kernel
theorem dT_dropFirst_41 : decode (xb yyT_dropFirst) 41 = .ok (.isub, 1) := by decide +kernel
theorem dT_dropFirst_42 : decode (xb yyT_dropFirst) 42 = .ok (.invokestatic 31, 3) := by decide +kernel
theorem dT_dropFirst_45 : decode (xb yyT_dropFirst) 45 = .ok (.aload_n 0, 1) := by decide +kernel
theorem dT_dropFirst_46 : decode (xb yyT_dropFirst) 46 = .ok (.dup, 1) := by decide +kernel
theorem dT_dropFirst_47 : decode (xb yyT_dropFirst) 47 = .ok (.getfield 28, 3) := by decide +kernel
theorem dT_dropFirst_50 : decode (xb yyT_dropFirst) 50 = .ok (.iconst 1, 1) := by decide +kernel
theorem dT_dropFirst_51 : decode (xb yyT_dropFirst) 51 = .ok (.isub, 1) := by decide +kernel
theorem dT_dropFirst_52 : decode (xb yyT_dropFirst) 52 = .ok (.putfield 28, 3) := by decide +kernel
theorem dT_dropFirst_55 : decode (xb yyT_dropFirst) 55 = .ok (.return_, 1) := by decide +kernel
def fT_dropFirst (t : Nat) (m : xM) : Option (xM) := (if (m.1 36 t) ≤ 0 then some m else (if (Int32.ofNat (xlen t)) < (xwid t) then some m else xcpy (xlen t) (xlen t) (xwid t) (0 : Int32) ((Int32.ofNat (xlen t)) - (xwid t)) (some (xset (xcpm m t t (xwid t) (0 : Int32) ((Int32.ofNat (xlen t)) - (xwid t))) 36 t (((xcpm m t t (xwid t) (0 : Int32) ((Int32.ofNat (xlen t)) - (xwid t))).1 36 t) - (1 : Int32))))))
set_option maxRecDepth 100000 in
set_option maxHeartbeats 4000000 in
theorem kT_dropFirst (G : xG) (t : Nat) (ht : t < 36) (z : xM) (m : xM) : ∀ a, fT_dropFirst t m = some a → xCt G yyT_dropFirst [.ref (xa G (36 + t))] (m, z) (none) (a, z) := by
  refine xR_ct (em := (emvc z)) rfl (Nat.le_of_ble_eq_true rfl) ?_
  show xR G yyT_dropFirst _ 0 [(0, .ref (xa G (36 + t)))] [] _ _
  unfold fT_dropFirst
  refine xR_aln 0 0 dT_dropFirst_0 rfl rfl ?_
  refine xR_getf 1 xcf3 3 (36 + t) (by decide) (xk_T ht) (xC_tab ht) (v := .int (m.1 36 t)) rfl fl_RX4_28 dT_dropFirst_1 ?_
  refine xR_ifle 4 55 dT_dropFirst_4 (by decide) ?_ ?_
  · exact xR_vret 55 rfl rfl dT_dropFirst_55
  · refine xR_aln 7 0 dT_dropFirst_7 rfl rfl ?_
    refine xR_getf 8 xcf3 1 (36 + t) (by decide) (xk_T ht) (xC_tab ht) (v := .int (xwid t)) rfl fl_RX4_21 dT_dropFirst_8 ?_
    refine xR_aln 11 0 dT_dropFirst_11 rfl rfl ?_
    refine xR_getf 12 xcf3 2 (36 + t) (by decide) (xk_T ht) (xC_tab ht) (v := .ref (xa G t)) rfl fl_RX4_24 dT_dropFirst_12 ?_
    refine xR_alen 15 t (xk_A ht) (xC_arr ht) dT_dropFirst_15 ?_
    refine xR_icgt 16 55 dT_dropFirst_16 (by decide) ?_ ?_
    · exact xR_vret 55 rfl rfl dT_dropFirst_55
    · refine xR_aln 19 0 dT_dropFirst_19 rfl rfl ?_
      refine xR_getf 20 xcf3 2 (36 + t) (by decide) (xk_T ht) (xC_tab ht) (v := .ref (xa G t)) rfl fl_RX4_24 dT_dropFirst_20 ?_
      refine xR_aln 23 0 dT_dropFirst_23 rfl rfl ?_
      refine xR_getf 24 xcf3 1 (36 + t) (by decide) (xk_T ht) (xC_tab ht) (v := .int (xwid t)) rfl fl_RX4_21 dT_dropFirst_24 ?_
      refine xR_aln 27 0 dT_dropFirst_27 rfl rfl ?_
      refine xR_getf 28 xcf3 2 (36 + t) (by decide) (xk_T ht) (xC_tab ht) (v := .ref (xa G t)) rfl fl_RX4_24 dT_dropFirst_28 ?_
      refine xR_ic 31 (0 : Int32) dT_dropFirst_31 (by decide) ?_
      refine xR_aln 32 0 dT_dropFirst_32 rfl rfl ?_
      refine xR_getf 33 xcf3 2 (36 + t) (by decide) (xk_T ht) (xC_tab ht) (v := .ref (xa G t)) rfl fl_RX4_24 dT_dropFirst_33 ?_
      refine xR_alen 36 t (xk_A ht) (xC_arr ht) dT_dropFirst_36 ?_
      refine xR_aln 37 0 dT_dropFirst_37 rfl rfl ?_
      refine xR_getf 38 xcf3 1 (36 + t) (by decide) (xk_T ht) (xC_tab ht) (v := .int (xwid t)) rfl fl_RX4_21 dT_dropFirst_38 ?_
      refine xR_isub 41 dT_dropFirst_41 ?_
      refine xR_copy 42 ml_RX4_31 t t (xk_A ht) (xk_A ht) (xC_arr ht) (xC_arr ht) ((xcpm m t t (xwid t) (0 : Int32) ((Int32.ofNat (xlen t)) - (xwid t))), z) (xW_copy ht) ⟨Nat.le_of_ble_eq_true rfl, Nat.le_of_ble_eq_true rfl⟩ dT_dropFirst_42 ?_
      refine xR_aln 45 0 dT_dropFirst_45 rfl rfl ?_
      refine xR_dup 46 dT_dropFirst_46 rfl ?_
      refine xR_getf 47 xcf3 3 (36 + t) (by decide) (xk_T ht) (xC_tab ht) (v := .int ((xcpm m t t (xwid t) (0 : Int32) ((Int32.ofNat (xlen t)) - (xwid t))).1 36 t)) rfl fl_RX4_28 dT_dropFirst_47 ?_
      refine xR_ic 50 (1 : Int32) dT_dropFirst_50 (by decide) ?_
      refine xR_isub 51 dT_dropFirst_51 ?_
      refine xR_putf 52 xcf3 3 (36 + t) (by decide) (xk_T ht) (xC_tab ht) rfl rfl rfl (Nat.le_of_ble_eq_true rfl) ((xset (xcpm m t t (xwid t) (0 : Int32) ((Int32.ofNat (xlen t)) - (xwid t))) 36 t (((xcpm m t t (xwid t) (0 : Int32) ((Int32.ofNat (xlen t)) - (xwid t))).1 36 t) - (1 : Int32))), z) (xW_used ht) fl_RX4_28 dT_dropFirst_52 ?_
      exact xR_vret 55 rfl rfl dT_dropFirst_55
theorem dT_dropLast_0 : decode (xb yyT_dropLast) 0 = .ok (.aload_n 0, 1) := by decide +kernel
theorem dT_dropLast_1 : decode (xb yyT_dropLast) 1 = .ok (.aload_n 0, 1) := by decide +kernel
theorem dT_dropLast_2 : decode (xb yyT_dropLast) 2 = .ok (.getfield 28, 3) := by decide +kernel
theorem dT_dropLast_5 : decode (xb yyT_dropLast) 5 = .ok (.iconst 1, 1) := by decide +kernel
theorem dT_dropLast_6 : decode (xb yyT_dropLast) 6 = .ok (.isub, 1) := by decide +kernel
theorem dT_dropLast_7 : decode (xb yyT_dropLast) 7 = .ok (.iconst 0, 1) := by decide +kernel
theorem dT_dropLast_8 : decode (xb yyT_dropLast) 8 = .ok (.invokestatic 9, 3) := by decide +kernel
theorem dT_dropLast_11 : decode (xb yyT_dropLast) 11 = .ok (.putfield 28, 3) := by decide +kernel
theorem dT_dropLast_14 : decode (xb yyT_dropLast) 14 = .ok (.return_, 1) := by decide +kernel
def fT_dropLast (t : Nat) (m : xM) : Option (xM) := some (xset m 36 t (xmax ((m.1 36 t) - (1 : Int32)) (0 : Int32)))
set_option maxRecDepth 100000 in
set_option maxHeartbeats 4000000 in
theorem kT_dropLast (G : xG) (t : Nat) (ht : t < 36) (z : xM) (m : xM) : ∀ a, fT_dropLast t m = some a → xCt G yyT_dropLast [.ref (xa G (36 + t))] (m, z) (none) (a, z) := by
  refine xR_ct (em := (emvc z)) rfl (Nat.le_of_ble_eq_true rfl) ?_
  show xR G yyT_dropLast _ 0 [(0, .ref (xa G (36 + t)))] [] _ _
  unfold fT_dropLast
  refine xR_aln 0 0 dT_dropLast_0 rfl rfl ?_
  refine xR_aln 1 0 dT_dropLast_1 rfl rfl ?_
  refine xR_getf 2 xcf3 3 (36 + t) (by decide) (xk_T ht) (xC_tab ht) (v := .int (m.1 36 t)) rfl fl_RX4_28 dT_dropLast_2 ?_
  refine xR_ic 5 (1 : Int32) dT_dropLast_5 (by decide) ?_
  refine xR_isub 6 dT_dropLast_6 ?_
  refine xR_ic 7 (0 : Int32) dT_dropLast_7 (by decide) ?_
  refine xR_mmax 8 ml_RX4_9 ⟨Nat.le_of_ble_eq_true rfl, Nat.le_of_ble_eq_true rfl⟩ dT_dropLast_8 ?_
  refine xR_putf 11 xcf3 3 (36 + t) (by decide) (xk_T ht) (xC_tab ht) rfl rfl rfl (Nat.le_of_ble_eq_true rfl) ((xset m 36 t (xmax ((m.1 36 t) - (1 : Int32)) (0 : Int32))), z) (xW_used ht) fl_RX4_28 dT_dropLast_11 ?_
  exact xR_vret 14 rfl rfl dT_dropLast_14
theorem dH_isString_0 : decode (xb yyH_isString) 0 = .ok (.iload_n 0, 1) := by decide +kernel
theorem dH_isString_1 : decode (xb yyH_isString) 1 = .ok (.iconst 0, 1) := by decide +kernel
theorem dH_isString_2 : decode (xb yyH_isString) 2 = .ok (.iconst 3, 1) := by decide +kernel
theorem dH_isString_3 : decode (xb yyH_isString) 3 = .ok (.invokestatic 78, 3) := by decide +kernel
theorem dH_isString_6 : decode (xb yyH_isString) 6 = .ok (.ireturn, 1) := by decide +kernel
def fH_isString  (v0 : Int32) : Option (Int32) := (fH_within v0 (0 : Int32) (3 : Int32)).bind fun r3 => some (xnb r3)
set_option maxRecDepth 100000 in
set_option maxHeartbeats 4000000 in
theorem kH_isString (G : xG)   (S : xS)  (v0 : Int32) : ∀ a, fH_isString  v0 = some a → xCt G yyH_isString [.int v0] S (some (.int a)) S := by
  refine xR_ct (em := (emi S)) rfl (Nat.le_of_ble_eq_true rfl) ?_
  show xR G yyH_isString _ 0 [(0, .int v0)] [] _ _
  unfold fH_isString
  refine xR_iln 0 0 dH_isString_0 rfl rfl ?_
  refine xR_ic 1 (0 : Int32) dH_isString_1 (by decide) ?_
  refine xR_ic 2 (3 : Int32) dH_isString_2 (by decide) ?_
  refine xR_callSi 3 cs_H_within ml_RX8_78 ⟨Nat.le_of_ble_eq_true rfl, Nat.le_of_ble_eq_true rfl⟩ [.int v0, .int (0 : Int32), .int (3 : Int32)] rfl rfl (Nat.le_of_ble_eq_true rfl) dH_isString_3 (kH_within G S v0 (0 : Int32) (3 : Int32)) (fun r3 => ?_)
  exact xR_zret 6 rfl rfl dH_isString_6
theorem dD_door_0 : decode (xb yyD_door) 0 = .ok (.iload_n 0, 1) := by decide +kernel
theorem dD_door_1 : decode (xb yyD_door) 1 = .ok (.iconst 4, 1) := by decide +kernel
theorem dD_door_2 : decode (xb yyD_door) 2 = .ok (.idiv, 1) := by decide +kernel
theorem dD_door_3 : decode (xb yyD_door) 3 = .ok (.bipush 6, 2) := by decide +kernel
theorem dD_door_5 : decode (xb yyD_door) 5 = .ok (.iadd, 1) := by decide +kernel
theorem dD_door_6 : decode (xb yyD_door) 6 = .ok (.iload_n 1, 1) := by decide +kernel
theorem dD_door_7 : decode (xb yyD_door) 7 = .ok (.isub, 1) := by decide +kernel
theorem dD_door_8 : decode (xb yyD_door) 8 = .ok (.iconst 0, 1) := by decide +kernel
theorem dD_door_9 : decode (xb yyD_door) 9 = .ok (.invokestatic 29, 3) := by decide +kernel
theorem dD_door_12 : decode (xb yyD_door) 12 = .ok (.ireturn, 1) := by decide +kernel
def fD_door  (v0 : Int32) (v1 : Int32) : Option (Int32) := some (xmax (((v0 / (4 : Int32)) + (6 : Int32)) - v1) (0 : Int32))
set_option maxRecDepth 100000 in
set_option maxHeartbeats 4000000 in
theorem kD_door (G : xG)   (S : xS)  (v0 : Int32) (v1 : Int32) : ∀ a, fD_door  v0 v1 = some a → xCt G yyD_door [.int v0, .int v1] S (some (.int a)) S := by
  refine xR_ct (em := (emi S)) rfl (Nat.le_of_ble_eq_true rfl) ?_
  show xR G yyD_door _ 0 [(0, .int v0), (1, .int v1)] [] _ _
  unfold fD_door
  refine xR_iln 0 0 dD_door_0 rfl rfl ?_
  refine xR_ic 1 (4 : Int32) dD_door_1 (by decide) ?_
  refine xR_idiv 2 dD_door_2 (by decide) ?_
  refine xR_bp 3 (6 : Int32) dD_door_3 (by decide) ?_
  refine xR_iadd 5 dD_door_5 ?_
  refine xR_iln 6 1 dD_door_6 rfl rfl ?_
  refine xR_isub 7 dD_door_7 ?_
  refine xR_ic 8 (0 : Int32) dD_door_8 (by decide) ?_
  refine xR_mmax 9 ml_RX7_29 ⟨Nat.le_of_ble_eq_true rfl, Nat.le_of_ble_eq_true rfl⟩ dD_door_9 ?_
  exact xR_iret 12 rfl rfl dD_door_12
theorem dD_stair_0 : decode (xb yyD_stair) 0 = .ok (.iload_n 0, 1) := by decide +kernel
theorem dD_stair_1 : decode (xb yyD_stair) 1 = .ok (.iconst 2, 1) := by decide +kernel
theorem dD_stair_2 : decode (xb yyD_stair) 2 = .ok (.if_icmp .ne 9, 3) := by decide +kernel
theorem dD_stair_5 : decode (xb yyD_stair) 5 = .ok (.iload_n 1, 1) := by decide +kernel
theorem dD_stair_6 : decode (xb yyD_stair) 6 = .ok (.iconst 3, 1) := by decide +kernel
theorem dD_stair_7 : decode (xb yyD_stair) 7 = .ok (.iadd, 1) := by decide +kernel
theorem dD_stair_8 : decode (xb yyD_stair) 8 = .ok (.goto 4, 3) := by decide +kernel
theorem dD_stair_11 : decode (xb yyD_stair) 11 = .ok (.iload_n 1, 1) := by decide +kernel
theorem dD_stair_12 : decode (xb yyD_stair) 12 = .ok (.ireturn, 1) := by decide +kernel
def fD_stair  (v0 : Int32) (v1 : Int32) : Option (Int32) := (if v0 = (2 : Int32) then some (v1 + (3 : Int32)) else some v1)
set_option maxRecDepth 100000 in
set_option maxHeartbeats 4000000 in
theorem kD_stair (G : xG)   (S : xS)  (v0 : Int32) (v1 : Int32) : ∀ a, fD_stair  v0 v1 = some a → xCt G yyD_stair [.int v0, .int v1] S (some (.int a)) S := by
  refine xR_ct (em := (emi S)) rfl (Nat.le_of_ble_eq_true rfl) ?_
  show xR G yyD_stair _ 0 [(0, .int v0), (1, .int v1)] [] _ _
  unfold fD_stair
  refine xR_iln 0 0 dD_stair_0 rfl rfl ?_
  refine xR_ic 1 (2 : Int32) dD_stair_1 (by decide) ?_
  refine xR_icne 2 11 dD_stair_2 (by decide) ?_ ?_
  · refine xR_iln 11 1 dD_stair_11 rfl rfl ?_
    exact xR_iret 12 rfl rfl dD_stair_12
  · refine xR_iln 5 1 dD_stair_5 rfl rfl ?_
    refine xR_ic 6 (3 : Int32) dD_stair_6 (by decide) ?_
    refine xR_iadd 7 dD_stair_7 ?_
    refine xR_goto 8 12 dD_stair_8 (by decide) ?_
    exact xR_iret 12 rfl rfl dD_stair_12
theorem dD_sill_0 : decode (xb yyD_sill) 0 = .ok (.iload_n 0, 1) := by decide +kernel
theorem dD_sill_1 : decode (xb yyD_sill) 1 = .ok (.iconst 3, 1) := by decide +kernel
theorem dD_sill_2 : decode (xb yyD_sill) 2 = .ok (.if_icmp .ne 9, 3) := by decide +kernel
theorem dD_sill_5 : decode (xb yyD_sill) 5 = .ok (.iconst 2, 1) := by decide +kernel
theorem dD_sill_6 : decode (xb yyD_sill) 6 = .ok (.iload_n 1, 1) := by decide +kernel
theorem dD_sill_7 : decode (xb yyD_sill) 7 = .ok (.imul, 1) := by decide +kernel
theorem dD_sill_8 : decode (xb yyD_sill) 8 = .ok (.goto 4, 3) := by decide +kernel
theorem dD_sill_11 : decode (xb yyD_sill) 11 = .ok (.iload_n 1, 1) := by decide +kernel
theorem dD_sill_12 : decode (xb yyD_sill) 12 = .ok (.ireturn, 1) := by decide +kernel
def fD_sill  (v0 : Int32) (v1 : Int32) : Option (Int32) := (if v0 = (3 : Int32) then some ((2 : Int32) * v1) else some v1)
set_option maxRecDepth 100000 in
set_option maxHeartbeats 4000000 in
theorem kD_sill (G : xG)   (S : xS)  (v0 : Int32) (v1 : Int32) : ∀ a, fD_sill  v0 v1 = some a → xCt G yyD_sill [.int v0, .int v1] S (some (.int a)) S := by
  refine xR_ct (em := (emi S)) rfl (Nat.le_of_ble_eq_true rfl) ?_
  show xR G yyD_sill _ 0 [(0, .int v0), (1, .int v1)] [] _ _
  unfold fD_sill
  refine xR_iln 0 0 dD_sill_0 rfl rfl ?_
  refine xR_ic 1 (3 : Int32) dD_sill_1 (by decide) ?_
  refine xR_icne 2 11 dD_sill_2 (by decide) ?_ ?_
  · refine xR_iln 11 1 dD_sill_11 rfl rfl ?_
    exact xR_iret 12 rfl rfl dD_sill_12
  · refine xR_ic 5 (2 : Int32) dD_sill_5 (by decide) ?_
    refine xR_iln 6 1 dD_sill_6 rfl rfl ?_
    refine xR_imul 7 dD_sill_7 ?_
    refine xR_goto 8 12 dD_sill_8 (by decide) ?_
    exact xR_iret 12 rfl rfl dD_sill_12
theorem dD_attic_0 : decode (xb yyD_attic) 0 = .ok (.iload_n 0, 1) := by decide +kernel
theorem dD_attic_1 : decode (xb yyD_attic) 1 = .ok (.iconst 2, 1) := by decide +kernel
theorem dD_attic_2 : decode (xb yyD_attic) 2 = .ok (.if_icmp .lt 9, 3) := by decide +kernel
theorem dD_attic_5 : decode (xb yyD_attic) 5 = .ok (.iload_n 1, 1) := by decide +kernel
theorem dD_attic_6 : decode (xb yyD_attic) 6 = .ok (.iconst 5, 1) := by decide +kernel
theorem dD_attic_7 : decode (xb yyD_attic) 7 = .ok (.iadd, 1) := by decide +kernel
theorem dD_attic_8 : decode (xb yyD_attic) 8 = .ok (.goto 4, 3) := by decide +kernel
theorem dD_attic_11 : decode (xb yyD_attic) 11 = .ok (.iload_n 1, 1) := by decide +kernel
theorem dD_attic_12 : decode (xb yyD_attic) 12 = .ok (.ireturn, 1) := by decide +kernel
def fD_attic  (v0 : Int32) (v1 : Int32) : Option (Int32) := (if v0 < (2 : Int32) then some v1 else some (v1 + (5 : Int32)))
set_option maxRecDepth 100000 in
set_option maxHeartbeats 4000000 in
theorem kD_attic (G : xG)   (S : xS)  (v0 : Int32) (v1 : Int32) : ∀ a, fD_attic  v0 v1 = some a → xCt G yyD_attic [.int v0, .int v1] S (some (.int a)) S := by
  refine xR_ct (em := (emi S)) rfl (Nat.le_of_ble_eq_true rfl) ?_
  show xR G yyD_attic _ 0 [(0, .int v0), (1, .int v1)] [] _ _
  unfold fD_attic
  refine xR_iln 0 0 dD_attic_0 rfl rfl ?_
  refine xR_ic 1 (2 : Int32) dD_attic_1 (by decide) ?_
  refine xR_iclt 2 11 dD_attic_2 (by decide) ?_ ?_
  · refine xR_iln 11 1 dD_attic_11 rfl rfl ?_
    exact xR_iret 12 rfl rfl dD_attic_12
  · refine xR_iln 5 1 dD_attic_5 rfl rfl ?_
    refine xR_ic 6 (5 : Int32) dD_attic_6 (by decide) ?_
    refine xR_iadd 7 dD_attic_7 ?_
    refine xR_goto 8 12 dD_attic_8 (by decide) ?_
    exact xR_iret 12 rfl rfl dD_attic_12
theorem dD_kitchen_0 : decode (xb yyD_kitchen) 0 = .ok (.iload_n 0, 1) := by decide +kernel
theorem dD_kitchen_1 : decode (xb yyD_kitchen) 1 = .ok (.ifCond .ne 9, 3) := by decide +kernel
theorem dD_kitchen_4 : decode (xb yyD_kitchen) 4 = .ok (.iload_n 1, 1) := by decide +kernel
theorem dD_kitchen_5 : decode (xb yyD_kitchen) 5 = .ok (.iconst 4, 1) := by decide +kernel
theorem dD_kitchen_6 : decode (xb yyD_kitchen) 6 = .ok (.iadd, 1) := by decide +kernel
theorem dD_kitchen_7 : decode (xb yyD_kitchen) 7 = .ok (.goto 4, 3) := by decide +kernel
theorem dD_kitchen_10 : decode (xb yyD_kitchen) 10 = .ok (.iload_n 1, 1) := by decide +kernel
theorem dD_kitchen_11 : decode (xb yyD_kitchen) 11 = .ok (.ireturn, 1) := by decide +kernel
def fD_kitchen  (v0 : Int32) (v1 : Int32) : Option (Int32) := (if v0 = 0 then some (v1 + (4 : Int32)) else some v1)
set_option maxRecDepth 100000 in
set_option maxHeartbeats 4000000 in
theorem kD_kitchen (G : xG)   (S : xS)  (v0 : Int32) (v1 : Int32) : ∀ a, fD_kitchen  v0 v1 = some a → xCt G yyD_kitchen [.int v0, .int v1] S (some (.int a)) S := by
  refine xR_ct (em := (emi S)) rfl (Nat.le_of_ble_eq_true rfl) ?_
  show xR G yyD_kitchen _ 0 [(0, .int v0), (1, .int v1)] [] _ _
  unfold fD_kitchen
  refine xR_iln 0 0 dD_kitchen_0 rfl rfl ?_
  refine xR_ifne 1 10 dD_kitchen_1 (by decide) ?_ ?_
  · refine xR_iln 10 1 dD_kitchen_10 rfl rfl ?_
    exact xR_iret 11 rfl rfl dD_kitchen_11
  · refine xR_iln 4 1 dD_kitchen_4 rfl rfl ?_
    refine xR_ic 5 (4 : Int32) dD_kitchen_5 (by decide) ?_
    refine xR_iadd 6 dD_kitchen_6 ?_
    refine xR_goto 7 11 dD_kitchen_7 (by decide) ?_
    exact xR_iret 11 rfl rfl dD_kitchen_11
theorem dD_marble_0 : decode (xb yyD_marble) 0 = .ok (.iload_n 0, 1) := by decide +kernel
theorem dD_marble_1 : decode (xb yyD_marble) 1 = .ok (.iconst 3, 1) := by decide +kernel
theorem dD_marble_2 : decode (xb yyD_marble) 2 = .ok (.idiv, 1) := by decide +kernel
theorem dD_marble_3 : decode (xb yyD_marble) 3 = .ok (.ireturn, 1) := by decide +kernel
def fD_marble  (v0 : Int32) : Option (Int32) := some (v0 / (3 : Int32))
set_option maxRecDepth 100000 in
set_option maxHeartbeats 4000000 in
theorem kD_marble (G : xG)   (S : xS)  (v0 : Int32) : ∀ a, fD_marble  v0 = some a → xCt G yyD_marble [.int v0] S (some (.int a)) S := by
  refine xR_ct (em := (emi S)) rfl (Nat.le_of_ble_eq_true rfl) ?_
  show xR G yyD_marble _ 0 [(0, .int v0)] [] _ _
  unfold fD_marble
  refine xR_iln 0 0 dD_marble_0 rfl rfl ?_
  refine xR_ic 1 (3 : Int32) dD_marble_1 (by decide) ?_
  refine xR_idiv 2 dD_marble_2 (by decide) ?_
  exact xR_iret 3 rfl rfl dD_marble_3
theorem dD_soundBy_0 : decode (xb yyD_soundBy) 0 = .ok (.iload_n 0, 1) := by decide +kernel
theorem dD_soundBy_1 : decode (xb yyD_soundBy) 1 = .ok (.tableswitch 92 1 5 #[35, 45, 55, 65, 79], 35) := by decide +kernel
theorem dD_soundBy_36 : decode (xb yyD_soundBy) 36 = .ok (.iload_n 1, 1) := by decide +kernel
theorem dD_soundBy_37 : decode (xb yyD_soundBy) 37 = .ok (.iload_n 2, 1) := by decide +kernel
theorem dD_soundBy_38 : decode (xb yyD_soundBy) 38 = .ok (.iload_n 3, 1) := by decide +kernel
theorem dD_soundBy_39 : decode (xb yyD_soundBy) 39 = .ok (.invokestatic 7, 3) := by decide +kernel
theorem dD_soundBy_42 : decode (xb yyD_soundBy) 42 = .ok (.invokestatic 13, 3) := by decide +kernel
theorem dD_soundBy_45 : decode (xb yyD_soundBy) 45 = .ok (.ireturn, 1) := by decide +kernel
theorem dD_soundBy_46 : decode (xb yyD_soundBy) 46 = .ok (.iload_n 1, 1) := by decide +kernel
theorem dD_soundBy_47 : decode (xb yyD_soundBy) 47 = .ok (.iload_n 2, 1) := by decide +kernel
theorem dD_soundBy_48 : decode (xb yyD_soundBy) 48 = .ok (.iload_n 3, 1) := by decide +kernel
theorem dD_soundBy_49 : decode (xb yyD_soundBy) 49 = .ok (.invokestatic 7, 3) := by decide +kernel
theorem dD_soundBy_52 : decode (xb yyD_soundBy) 52 = .ok (.invokestatic 16, 3) := by decide +kernel
theorem dD_soundBy_55 : decode (xb yyD_soundBy) 55 = .ok (.ireturn, 1) := by decide +kernel
theorem dD_soundBy_56 : decode (xb yyD_soundBy) 56 = .ok (.iload_n 1, 1) := by decide +kernel
theorem dD_soundBy_57 : decode (xb yyD_soundBy) 57 = .ok (.iload_n 2, 1) := by decide +kernel
theorem dD_soundBy_58 : decode (xb yyD_soundBy) 58 = .ok (.iload_n 3, 1) := by decide +kernel
theorem dD_soundBy_59 : decode (xb yyD_soundBy) 59 = .ok (.invokestatic 7, 3) := by decide +kernel
theorem dD_soundBy_62 : decode (xb yyD_soundBy) 62 = .ok (.invokestatic 19, 3) := by decide +kernel
theorem dD_soundBy_65 : decode (xb yyD_soundBy) 65 = .ok (.ireturn, 1) := by decide +kernel
theorem dD_soundBy_66 : decode (xb yyD_soundBy) 66 = .ok (.iload_n 1, 1) := by decide +kernel
theorem dD_soundBy_67 : decode (xb yyD_soundBy) 67 = .ok (.iload_n 1, 1) := by decide +kernel
theorem dD_soundBy_68 : decode (xb yyD_soundBy) 68 = .ok (.iload_n 2, 1) := by decide +kernel
theorem dD_soundBy_69 : decode (xb yyD_soundBy) 69 = .ok (.iconst 0, 1) := by decide +kernel
theorem dD_soundBy_70 : decode (xb yyD_soundBy) 70 = .ok (.invokestatic 7, 3) := by decide +kernel
theorem dD_soundBy_73 : decode (xb yyD_soundBy) 73 = .ok (.invokestatic 13, 3) := by decide +kernel
theorem dD_soundBy_76 : decode (xb yyD_soundBy) 76 = .ok (.invokestatic 22, 3) := by decide +kernel
theorem dD_soundBy_79 : decode (xb yyD_soundBy) 79 = .ok (.ireturn, 1) := by decide +kernel
theorem dD_soundBy_80 : decode (xb yyD_soundBy) 80 = .ok (.iload_n 1, 1) := by decide +kernel
theorem dD_soundBy_81 : decode (xb yyD_soundBy) 81 = .ok (.iload_n 2, 1) := by decide +kernel
theorem dD_soundBy_82 : decode (xb yyD_soundBy) 82 = .ok (.iload_n 3, 1) := by decide +kernel
theorem dD_soundBy_83 : decode (xb yyD_soundBy) 83 = .ok (.invokestatic 7, 3) := by decide +kernel
theorem dD_soundBy_86 : decode (xb yyD_soundBy) 86 = .ok (.invokestatic 16, 3) := by decide +kernel
theorem dD_soundBy_89 : decode (xb yyD_soundBy) 89 = .ok (.invokestatic 25, 3) := by decide +kernel
theorem dD_soundBy_92 : decode (xb yyD_soundBy) 92 = .ok (.ireturn, 1) := by decide +kernel
theorem dD_soundBy_93 : decode (xb yyD_soundBy) 93 = .ok (.iload_n 2, 1) := by decide +kernel
theorem dD_soundBy_94 : decode (xb yyD_soundBy) 94 = .ok (.iload_n 3, 1) := by decide +kernel
theorem dD_soundBy_95 : decode (xb yyD_soundBy) 95 = .ok (.invokestatic 7, 3) := by decide +kernel
theorem dD_soundBy_98 : decode (xb yyD_soundBy) 98 = .ok (.ireturn, 1) := by decide +kernel
def fD_soundBy  (v0 : Int32) (v1 : Int32) (v2 : Int32) (v3 : Int32) : Option (Int32) := (if v0 = (1 : Int32) then (fD_door v2 v3).bind fun r39 => (fD_stair v1 r39).bind fun r42 => some r42 else (if v0 = (2 : Int32) then (fD_door v2 v3).bind fun r49 => (fD_sill v1 r49).bind fun r52 => some r52 else (if v0 = (3 : Int32) then (fD_door v2 v3).bind fun r59 => (fD_attic v1 r59).bind fun r62 => some r62 else (if v0 = (4 : Int32) then (fD_door v2 (0 : Int32)).bind fun r70 => (fD_stair v1 r70).bind fun r73 => (fD_kitchen v1 r73).bind fun r76 => some r76 else (if v0 = (5 : Int32) then (fD_door v2 v3).bind fun r83 => (fD_sill v1 r83).bind fun r86 => (fD_marble r86).bind fun r89 => some r89 else (fD_door v2 v3).bind fun r95 => some r95)))))
set_option maxRecDepth 100000 in
set_option maxHeartbeats 4000000 in
theorem kD_soundBy (G : xG)   (S : xS)  (v0 : Int32) (v1 : Int32) (v2 : Int32) (v3 : Int32) : ∀ a, fD_soundBy  v0 v1 v2 v3 = some a → xCt G yyD_soundBy [.int v0, .int v1, .int v2, .int v3] S (some (.int a)) S := by
  refine xR_ct (em := (emi S)) rfl (Nat.le_of_ble_eq_true rfl) ?_
  show xR G yyD_soundBy _ 0 [(0, .int v0), (1, .int v1), (2, .int v2), (3, .int v3)] [] _ _
  unfold fD_soundBy
  refine xR_iln 0 0 dD_soundBy_0 rfl rfl ?_
  refine xR_tsw 1 36 (1 : Int32) dD_soundBy_1 (by decide) (by decide) rfl (by decide) ?_ (fun hs1_0 => ?_)
  · refine xR_iln 36 1 dD_soundBy_36 rfl rfl ?_
    refine xR_iln 37 2 dD_soundBy_37 rfl rfl ?_
    refine xR_iln 38 3 dD_soundBy_38 rfl rfl ?_
    refine xR_callSi 39 cs_D_door ml_RX7_7 ⟨Nat.le_of_ble_eq_true rfl, Nat.le_of_ble_eq_true rfl⟩ [.int v2, .int v3] rfl rfl (Nat.le_of_ble_eq_true rfl) dD_soundBy_39 (kD_door G S v2 v3) (fun r39 => ?_)
    refine xR_callSi 42 cs_D_stair ml_RX7_13 ⟨Nat.le_of_ble_eq_true rfl, Nat.le_of_ble_eq_true rfl⟩ [.int v1, .int r39] rfl rfl (Nat.le_of_ble_eq_true rfl) dD_soundBy_42 (kD_stair G S v1 r39) (fun r42 => ?_)
    exact xR_iret 45 rfl rfl dD_soundBy_45
  refine xR_tsw 1 46 (2 : Int32) dD_soundBy_1 (by decide) (by decide) rfl (by decide) ?_ (fun hs1_1 => ?_)
  · refine xR_iln 46 1 dD_soundBy_46 rfl rfl ?_
    refine xR_iln 47 2 dD_soundBy_47 rfl rfl ?_
    refine xR_iln 48 3 dD_soundBy_48 rfl rfl ?_
    refine xR_callSi 49 cs_D_door ml_RX7_7 ⟨Nat.le_of_ble_eq_true rfl, Nat.le_of_ble_eq_true rfl⟩ [.int v2, .int v3] rfl rfl (Nat.le_of_ble_eq_true rfl) dD_soundBy_49 (kD_door G S v2 v3) (fun r49 => ?_)
    refine xR_callSi 52 cs_D_sill ml_RX7_16 ⟨Nat.le_of_ble_eq_true rfl, Nat.le_of_ble_eq_true rfl⟩ [.int v1, .int r49] rfl rfl (Nat.le_of_ble_eq_true rfl) dD_soundBy_52 (kD_sill G S v1 r49) (fun r52 => ?_)
    exact xR_iret 55 rfl rfl dD_soundBy_55
  refine xR_tsw 1 56 (3 : Int32) dD_soundBy_1 (by decide) (by decide) rfl (by decide) ?_ (fun hs1_2 => ?_)
  · refine xR_iln 56 1 dD_soundBy_56 rfl rfl ?_
    refine xR_iln 57 2 dD_soundBy_57 rfl rfl ?_
    refine xR_iln 58 3 dD_soundBy_58 rfl rfl ?_
    refine xR_callSi 59 cs_D_door ml_RX7_7 ⟨Nat.le_of_ble_eq_true rfl, Nat.le_of_ble_eq_true rfl⟩ [.int v2, .int v3] rfl rfl (Nat.le_of_ble_eq_true rfl) dD_soundBy_59 (kD_door G S v2 v3) (fun r59 => ?_)
    refine xR_callSi 62 cs_D_attic ml_RX7_19 ⟨Nat.le_of_ble_eq_true rfl, Nat.le_of_ble_eq_true rfl⟩ [.int v1, .int r59] rfl rfl (Nat.le_of_ble_eq_true rfl) dD_soundBy_62 (kD_attic G S v1 r59) (fun r62 => ?_)
    exact xR_iret 65 rfl rfl dD_soundBy_65
  refine xR_tsw 1 66 (4 : Int32) dD_soundBy_1 (by decide) (by decide) rfl (by decide) ?_ (fun hs1_3 => ?_)
  · refine xR_iln 66 1 dD_soundBy_66 rfl rfl ?_
    refine xR_iln 67 1 dD_soundBy_67 rfl rfl ?_
    refine xR_iln 68 2 dD_soundBy_68 rfl rfl ?_
    refine xR_ic 69 (0 : Int32) dD_soundBy_69 (by decide) ?_
    refine xR_callSi 70 cs_D_door ml_RX7_7 ⟨Nat.le_of_ble_eq_true rfl, Nat.le_of_ble_eq_true rfl⟩ [.int v2, .int (0 : Int32)] rfl rfl (Nat.le_of_ble_eq_true rfl) dD_soundBy_70 (kD_door G S v2 (0 : Int32)) (fun r70 => ?_)
    refine xR_callSi 73 cs_D_stair ml_RX7_13 ⟨Nat.le_of_ble_eq_true rfl, Nat.le_of_ble_eq_true rfl⟩ [.int v1, .int r70] rfl rfl (Nat.le_of_ble_eq_true rfl) dD_soundBy_73 (kD_stair G S v1 r70) (fun r73 => ?_)
    refine xR_callSi 76 cs_D_kitchen ml_RX7_22 ⟨Nat.le_of_ble_eq_true rfl, Nat.le_of_ble_eq_true rfl⟩ [.int v1, .int r73] rfl rfl (Nat.le_of_ble_eq_true rfl) dD_soundBy_76 (kD_kitchen G S v1 r73) (fun r76 => ?_)
    exact xR_iret 79 rfl rfl dD_soundBy_79
  refine xR_tsw 1 80 (5 : Int32) dD_soundBy_1 (by decide) (by decide) rfl (by decide) ?_ (fun hs1_4 => ?_)
  · refine xR_iln 80 1 dD_soundBy_80 rfl rfl ?_
    refine xR_iln 81 2 dD_soundBy_81 rfl rfl ?_
    refine xR_iln 82 3 dD_soundBy_82 rfl rfl ?_
    refine xR_callSi 83 cs_D_door ml_RX7_7 ⟨Nat.le_of_ble_eq_true rfl, Nat.le_of_ble_eq_true rfl⟩ [.int v2, .int v3] rfl rfl (Nat.le_of_ble_eq_true rfl) dD_soundBy_83 (kD_door G S v2 v3) (fun r83 => ?_)
    refine xR_callSi 86 cs_D_sill ml_RX7_16 ⟨Nat.le_of_ble_eq_true rfl, Nat.le_of_ble_eq_true rfl⟩ [.int v1, .int r83] rfl rfl (Nat.le_of_ble_eq_true rfl) dD_soundBy_86 (kD_sill G S v1 r83) (fun r86 => ?_)
    refine xR_callSi 89 cs_D_marble ml_RX7_25 ⟨Nat.le_of_ble_eq_true rfl, Nat.le_of_ble_eq_true rfl⟩ [.int r86] rfl rfl (Nat.le_of_ble_eq_true rfl) dD_soundBy_89 (kD_marble G S r86) (fun r89 => ?_)
    exact xR_iret 92 rfl rfl dD_soundBy_92
  refine xR_tso 1 93 dD_soundBy_1 (by have e0 := lv_neT hs1_0 (a := 1) rfl; have e1 := lv_neT hs1_1 (a := 2) rfl; have e2 := lv_neT hs1_2 (a := 3) rfl; have e3 := lv_neT hs1_3 (a := 4) rfl; have e4 := lv_neT hs1_4 (a := 5) rfl; omega) (by decide) ?_
  refine xR_iln 93 2 dD_soundBy_93 rfl rfl ?_
  refine xR_iln 94 3 dD_soundBy_94 rfl rfl ?_
  refine xR_callSi 95 cs_D_door ml_RX7_7 ⟨Nat.le_of_ble_eq_true rfl, Nat.le_of_ble_eq_true rfl⟩ [.int v2, .int v3] rfl rfl (Nat.le_of_ble_eq_true rfl) dD_soundBy_95 (kD_door G S v2 v3) (fun r95 => ?_)
  exact xR_iret 98 rfl rfl dD_soundBy_98
theorem dH_holdsBit_0 : decode (xb yyH_holdsBit) 0 = .ok (.iload_n 0, 1) := by decide +kernel
theorem dH_holdsBit_1 : decode (xb yyH_holdsBit) 1 = .ok (.iload_n 1, 1) := by decide +kernel
theorem dH_holdsBit_2 : decode (xb yyH_holdsBit) 2 = .ok (.ishr, 1) := by decide +kernel
theorem dH_holdsBit_3 : decode (xb yyH_holdsBit) 3 = .ok (.iconst 1, 1) := by decide +kernel
theorem dH_holdsBit_4 : decode (xb yyH_holdsBit) 4 = .ok (.iand, 1) := by decide +kernel
theorem dH_holdsBit_5 : decode (xb yyH_holdsBit) 5 = .ok (.iconst 1, 1) := by decide +kernel
theorem dH_holdsBit_6 : decode (xb yyH_holdsBit) 6 = .ok (.if_icmp .ne 7, 3) := by decide +kernel
theorem dH_holdsBit_9 : decode (xb yyH_holdsBit) 9 = .ok (.iconst 1, 1) := by decide +kernel
theorem dH_holdsBit_10 : decode (xb yyH_holdsBit) 10 = .ok (.goto 4, 3) := by decide +kernel
theorem dH_holdsBit_13 : decode (xb yyH_holdsBit) 13 = .ok (.iconst 0, 1) := by decide +kernel
theorem dH_holdsBit_14 : decode (xb yyH_holdsBit) 14 = .ok (.ireturn, 1) := by decide +kernel
def fH_holdsBit  (v0 : Int32) (v1 : Int32) : Option (Int32) := (if ((v0 >>> (v1 &&& 31)) &&& (1 : Int32)) = (1 : Int32) then some (xnb (1 : Int32)) else some (xnb (0 : Int32)))
set_option maxRecDepth 100000 in
set_option maxHeartbeats 4000000 in
theorem kH_holdsBit (G : xG)   (S : xS)  (v0 : Int32) (v1 : Int32) : ∀ a, fH_holdsBit  v0 v1 = some a → xCt G yyH_holdsBit [.int v0, .int v1] S (some (.int a)) S := by
  refine xR_ct (em := (emi S)) rfl (Nat.le_of_ble_eq_true rfl) ?_
  show xR G yyH_holdsBit _ 0 [(0, .int v0), (1, .int v1)] [] _ _
  unfold fH_holdsBit
  refine xR_iln 0 0 dH_holdsBit_0 rfl rfl ?_
  refine xR_iln 1 1 dH_holdsBit_1 rfl rfl ?_
  refine xR_ishr 2 dH_holdsBit_2 ?_
  refine xR_ic 3 (1 : Int32) dH_holdsBit_3 (by decide) ?_
  refine xR_iand 4 dH_holdsBit_4 ?_
  refine xR_ic 5 (1 : Int32) dH_holdsBit_5 (by decide) ?_
  refine xR_icne 6 13 dH_holdsBit_6 (by decide) ?_ ?_
  · refine xR_ic 13 (0 : Int32) dH_holdsBit_13 (by decide) ?_
    exact xR_zret 14 rfl rfl dH_holdsBit_14
  · refine xR_ic 9 (1 : Int32) dH_holdsBit_9 (by decide) ?_
    refine xR_goto 10 14 dH_holdsBit_10 (by decide) ?_
    exact xR_zret 14 rfl rfl dH_holdsBit_14
theorem dS_lent_0 : decode (xb yyS_lent) 0 = .ok (.iload_n 0, 1) := by decide +kernel
theorem dS_lent_1 : decode (xb yyS_lent) 1 = .ok (.iconst 3, 1) := by decide +kernel
theorem dS_lent_2 : decode (xb yyS_lent) 2 = .ok (.iload_n 1, 1) := by decide +kernel
theorem dS_lent_3 : decode (xb yyS_lent) 3 = .ok (.iconst 1, 1) := by decide +kernel
theorem dS_lent_4 : decode (xb yyS_lent) 4 = .ok (.isub, 1) := by decide +kernel
theorem dS_lent_5 : decode (xb yyS_lent) 5 = .ok (.iconst 0, 1) := by decide +kernel
theorem dS_lent_6 : decode (xb yyS_lent) 6 = .ok (.invokestatic 26, 3) := by decide +kernel
theorem dS_lent_9 : decode (xb yyS_lent) 9 = .ok (.imul, 1) := by decide +kernel
theorem dS_lent_10 : decode (xb yyS_lent) 10 = .ok (.isub, 1) := by decide +kernel
theorem dS_lent_11 : decode (xb yyS_lent) 11 = .ok (.iconst 0, 1) := by decide +kernel
theorem dS_lent_12 : decode (xb yyS_lent) 12 = .ok (.invokestatic 26, 3) := by decide +kernel
theorem dS_lent_15 : decode (xb yyS_lent) 15 = .ok (.ireturn, 1) := by decide +kernel
def fS_lent  (v0 : Int32) (v1 : Int32) : Option (Int32) := some (xmax (v0 - ((3 : Int32) * (xmax (v1 - (1 : Int32)) (0 : Int32)))) (0 : Int32))
set_option maxRecDepth 100000 in
set_option maxHeartbeats 4000000 in
theorem kS_lent (G : xG)   (S : xS)  (v0 : Int32) (v1 : Int32) : ∀ a, fS_lent  v0 v1 = some a → xCt G yyS_lent [.int v0, .int v1] S (some (.int a)) S := by
  refine xR_ct (em := (emi S)) rfl (Nat.le_of_ble_eq_true rfl) ?_
  show xR G yyS_lent _ 0 [(0, .int v0), (1, .int v1)] [] _ _
  unfold fS_lent
  refine xR_iln 0 0 dS_lent_0 rfl rfl ?_
  refine xR_ic 1 (3 : Int32) dS_lent_1 (by decide) ?_
  refine xR_iln 2 1 dS_lent_2 rfl rfl ?_
  refine xR_ic 3 (1 : Int32) dS_lent_3 (by decide) ?_
  refine xR_isub 4 dS_lent_4 ?_
  refine xR_ic 5 (0 : Int32) dS_lent_5 (by decide) ?_
  refine xR_mmax 6 ml_RX3_26 ⟨Nat.le_of_ble_eq_true rfl, Nat.le_of_ble_eq_true rfl⟩ dS_lent_6 ?_
  refine xR_imul 9 dS_lent_9 ?_
  refine xR_isub 10 dS_lent_10 ?_
  refine xR_ic 11 (0 : Int32) dS_lent_11 (by decide) ?_
  refine xR_mmax 12 ml_RX3_26 ⟨Nat.le_of_ble_eq_true rfl, Nat.le_of_ble_eq_true rfl⟩ dS_lent_12 ?_
  exact xR_iret 15 rfl rfl dS_lent_15
theorem dS_cello_0 : decode (xb yyS_cello) 0 = .ok (.iload_n 0, 1) := by decide +kernel
theorem dS_cello_1 : decode (xb yyS_cello) 1 = .ok (.ifCond .ne 9, 3) := by decide +kernel
theorem dS_cello_4 : decode (xb yyS_cello) 4 = .ok (.iconst 2, 1) := by decide +kernel
theorem dS_cello_5 : decode (xb yyS_cello) 5 = .ok (.iload_n 1, 1) := by decide +kernel
theorem dS_cello_6 : decode (xb yyS_cello) 6 = .ok (.imul, 1) := by decide +kernel
theorem dS_cello_7 : decode (xb yyS_cello) 7 = .ok (.goto 4, 3) := by decide +kernel
theorem dS_cello_10 : decode (xb yyS_cello) 10 = .ok (.iload_n 1, 1) := by decide +kernel
theorem dS_cello_11 : decode (xb yyS_cello) 11 = .ok (.ireturn, 1) := by decide +kernel
def fS_cello  (v0 : Int32) (v1 : Int32) : Option (Int32) := (if v0 = 0 then some ((2 : Int32) * v1) else some v1)
set_option maxRecDepth 100000 in
set_option maxHeartbeats 4000000 in
theorem kS_cello (G : xG)   (S : xS)  (v0 : Int32) (v1 : Int32) : ∀ a, fS_cello  v0 v1 = some a → xCt G yyS_cello [.int v0, .int v1] S (some (.int a)) S := by
  refine xR_ct (em := (emi S)) rfl (Nat.le_of_ble_eq_true rfl) ?_
  show xR G yyS_cello _ 0 [(0, .int v0), (1, .int v1)] [] _ _
  unfold fS_cello
  refine xR_iln 0 0 dS_cello_0 rfl rfl ?_
  refine xR_ifne 1 10 dS_cello_1 (by decide) ?_ ?_
  · refine xR_iln 10 1 dS_cello_10 rfl rfl ?_
    exact xR_iret 11 rfl rfl dS_cello_11
  · refine xR_ic 4 (2 : Int32) dS_cello_4 (by decide) ?_
    refine xR_iln 5 1 dS_cello_5 rfl rfl ?_
    refine xR_imul 6 dS_cello_6 ?_
    refine xR_goto 7 11 dS_cello_7 (by decide) ?_
    exact xR_iret 11 rfl rfl dS_cello_11
theorem dS_tenement_0 : decode (xb yyS_tenement) 0 = .ok (.iload_n 1, 1) := by decide +kernel
theorem dS_tenement_1 : decode (xb yyS_tenement) 1 = .ok (.iconst 3, 1) := by decide +kernel
theorem dS_tenement_2 : decode (xb yyS_tenement) 2 = .ok (.if_icmp .lt 7, 3) := by decide +kernel
theorem dS_tenement_5 : decode (xb yyS_tenement) 5 = .ok (.iconst 0, 1) := by decide +kernel
theorem dS_tenement_6 : decode (xb yyS_tenement) 6 = .ok (.goto 4, 3) := by decide +kernel
theorem dS_tenement_9 : decode (xb yyS_tenement) 9 = .ok (.iload_n 0, 1) := by decide +kernel
theorem dS_tenement_10 : decode (xb yyS_tenement) 10 = .ok (.ireturn, 1) := by decide +kernel
def fS_tenement  (v0 : Int32) (v1 : Int32) : Option (Int32) := (if v1 < (3 : Int32) then some v0 else some (0 : Int32))
set_option maxRecDepth 100000 in
set_option maxHeartbeats 4000000 in
theorem kS_tenement (G : xG)   (S : xS)  (v0 : Int32) (v1 : Int32) : ∀ a, fS_tenement  v0 v1 = some a → xCt G yyS_tenement [.int v0, .int v1] S (some (.int a)) S := by
  refine xR_ct (em := (emi S)) rfl (Nat.le_of_ble_eq_true rfl) ?_
  show xR G yyS_tenement _ 0 [(0, .int v0), (1, .int v1)] [] _ _
  unfold fS_tenement
  refine xR_iln 0 1 dS_tenement_0 rfl rfl ?_
  refine xR_ic 1 (3 : Int32) dS_tenement_1 (by decide) ?_
  refine xR_iclt 2 9 dS_tenement_2 (by decide) ?_ ?_
  · refine xR_iln 9 0 dS_tenement_9 rfl rfl ?_
    exact xR_iret 10 rfl rfl dS_tenement_10
  · refine xR_ic 5 (0 : Int32) dS_tenement_5 (by decide) ?_
    refine xR_goto 6 10 dS_tenement_6 (by decide) ?_
    exact xR_iret 10 rfl rfl dS_tenement_10
theorem dS_squeak_0 : decode (xb yyS_squeak) 0 = .ok (.iload_n 0, 1) := by decide +kernel
theorem dS_squeak_1 : decode (xb yyS_squeak) 1 = .ok (.iconst 3, 1) := by decide +kernel
theorem dS_squeak_2 : decode (xb yyS_squeak) 2 = .ok (.if_icmp .ne 9, 3) := by decide +kernel
theorem dS_squeak_5 : decode (xb yyS_squeak) 5 = .ok (.iload_n 1, 1) := by decide +kernel
theorem dS_squeak_6 : decode (xb yyS_squeak) 6 = .ok (.iload_n 2, 1) := by decide +kernel
theorem dS_squeak_7 : decode (xb yyS_squeak) 7 = .ok (.iadd, 1) := by decide +kernel
theorem dS_squeak_8 : decode (xb yyS_squeak) 8 = .ok (.goto 8, 3) := by decide +kernel
theorem dS_squeak_11 : decode (xb yyS_squeak) 11 = .ok (.iload_n 1, 1) := by decide +kernel
theorem dS_squeak_12 : decode (xb yyS_squeak) 12 = .ok (.iconst 1, 1) := by decide +kernel
theorem dS_squeak_13 : decode (xb yyS_squeak) 13 = .ok (.iadd, 1) := by decide +kernel
theorem dS_squeak_14 : decode (xb yyS_squeak) 14 = .ok (.iconst 2, 1) := by decide +kernel
theorem dS_squeak_15 : decode (xb yyS_squeak) 15 = .ok (.idiv, 1) := by decide +kernel
theorem dS_squeak_16 : decode (xb yyS_squeak) 16 = .ok (.ireturn, 1) := by decide +kernel
def fS_squeak  (v0 : Int32) (v1 : Int32) (v2 : Int32) : Option (Int32) := (if v0 = (3 : Int32) then some (v1 + v2) else some ((v1 + (1 : Int32)) / (2 : Int32)))
set_option maxRecDepth 100000 in
set_option maxHeartbeats 4000000 in
theorem kS_squeak (G : xG)   (S : xS)  (v0 : Int32) (v1 : Int32) (v2 : Int32) : ∀ a, fS_squeak  v0 v1 v2 = some a → xCt G yyS_squeak [.int v0, .int v1, .int v2] S (some (.int a)) S := by
  refine xR_ct (em := (emi S)) rfl (Nat.le_of_ble_eq_true rfl) ?_
  show xR G yyS_squeak _ 0 [(0, .int v0), (1, .int v1), (2, .int v2)] [] _ _
  unfold fS_squeak
  refine xR_iln 0 0 dS_squeak_0 rfl rfl ?_
  refine xR_ic 1 (3 : Int32) dS_squeak_1 (by decide) ?_
  refine xR_icne 2 11 dS_squeak_2 (by decide) ?_ ?_
  · refine xR_iln 11 1 dS_squeak_11 rfl rfl ?_
    refine xR_ic 12 (1 : Int32) dS_squeak_12 (by decide) ?_
    refine xR_iadd 13 dS_squeak_13 ?_
    refine xR_ic 14 (2 : Int32) dS_squeak_14 (by decide) ?_
    refine xR_idiv 15 dS_squeak_15 (by decide) ?_
    exact xR_iret 16 rfl rfl dS_squeak_16
  · refine xR_iln 5 1 dS_squeak_5 rfl rfl ?_
    refine xR_iln 6 2 dS_squeak_6 rfl rfl ?_
    refine xR_iadd 7 dS_squeak_7 ?_
    refine xR_goto 8 16 dS_squeak_8 (by decide) ?_
    exact xR_iret 16 rfl rfl dS_squeak_16
theorem dS_bass_0 : decode (xb yyS_bass) 0 = .ok (.iload_n 0, 1) := by decide +kernel
theorem dS_bass_1 : decode (xb yyS_bass) 1 = .ok (.iconst 1, 1) := by decide +kernel
theorem dS_bass_2 : decode (xb yyS_bass) 2 = .ok (.if_icmp .gt 7, 3) := by decide +kernel
theorem dS_bass_5 : decode (xb yyS_bass) 5 = .ok (.iload_n 1, 1) := by decide +kernel
theorem dS_bass_6 : decode (xb yyS_bass) 6 = .ok (.goto 4, 3) := by decide +kernel
theorem dS_bass_9 : decode (xb yyS_bass) 9 = .ok (.iconst 0, 1) := by decide +kernel
theorem dS_bass_10 : decode (xb yyS_bass) 10 = .ok (.ireturn, 1) := by decide +kernel
def fS_bass  (v0 : Int32) (v1 : Int32) : Option (Int32) := (if (1 : Int32) < v0 then some (0 : Int32) else some v1)
set_option maxRecDepth 100000 in
set_option maxHeartbeats 4000000 in
theorem kS_bass (G : xG)   (S : xS)  (v0 : Int32) (v1 : Int32) : ∀ a, fS_bass  v0 v1 = some a → xCt G yyS_bass [.int v0, .int v1] S (some (.int a)) S := by
  refine xR_ct (em := (emi S)) rfl (Nat.le_of_ble_eq_true rfl) ?_
  show xR G yyS_bass _ 0 [(0, .int v0), (1, .int v1)] [] _ _
  unfold fS_bass
  refine xR_iln 0 0 dS_bass_0 rfl rfl ?_
  refine xR_ic 1 (1 : Int32) dS_bass_1 (by decide) ?_
  refine xR_icgt 2 9 dS_bass_2 (by decide) ?_ ?_
  · refine xR_ic 9 (0 : Int32) dS_bass_9 (by decide) ?_
    exact xR_iret 10 rfl rfl dS_bass_10
  · refine xR_iln 5 1 dS_bass_5 rfl rfl ?_
    refine xR_goto 6 10 dS_bass_6 (by decide) ?_
    exact xR_iret 10 rfl rfl dS_bass_10
theorem dS_playBy_0 : decode (xb yyS_playBy) 0 = .ok (.iload_n 0, 1) := by decide +kernel
theorem dS_playBy_1 : decode (xb yyS_playBy) 1 = .ok (.tableswitch 75 1 5 #[35, 41, 47, 57, 65], 35) := by decide +kernel
theorem dS_playBy_36 : decode (xb yyS_playBy) 36 = .ok (.iload_n 2, 1) := by decide +kernel
theorem dS_playBy_37 : decode (xb yyS_playBy) 37 = .ok (.iload_n 3, 1) := by decide +kernel
theorem dS_playBy_38 : decode (xb yyS_playBy) 38 = .ok (.invokestatic 7, 3) := by decide +kernel
theorem dS_playBy_41 : decode (xb yyS_playBy) 41 = .ok (.ireturn, 1) := by decide +kernel
theorem dS_playBy_42 : decode (xb yyS_playBy) 42 = .ok (.iload_n 1, 1) := by decide +kernel
theorem dS_playBy_43 : decode (xb yyS_playBy) 43 = .ok (.iload_n 2, 1) := by decide +kernel
theorem dS_playBy_44 : decode (xb yyS_playBy) 44 = .ok (.invokestatic 13, 3) := by decide +kernel
theorem dS_playBy_47 : decode (xb yyS_playBy) 47 = .ok (.ireturn, 1) := by decide +kernel
theorem dS_playBy_48 : decode (xb yyS_playBy) 48 = .ok (.iload_n 2, 1) := by decide +kernel
theorem dS_playBy_49 : decode (xb yyS_playBy) 49 = .ok (.iload_n 3, 1) := by decide +kernel
theorem dS_playBy_50 : decode (xb yyS_playBy) 50 = .ok (.invokestatic 7, 3) := by decide +kernel
theorem dS_playBy_53 : decode (xb yyS_playBy) 53 = .ok (.iload_n 3, 1) := by decide +kernel
theorem dS_playBy_54 : decode (xb yyS_playBy) 54 = .ok (.invokestatic 16, 3) := by decide +kernel
theorem dS_playBy_57 : decode (xb yyS_playBy) 57 = .ok (.ireturn, 1) := by decide +kernel
theorem dS_playBy_58 : decode (xb yyS_playBy) 58 = .ok (.iload_n 1, 1) := by decide +kernel
theorem dS_playBy_59 : decode (xb yyS_playBy) 59 = .ok (.iload_n 2, 1) := by decide +kernel
theorem dS_playBy_60 : decode (xb yyS_playBy) 60 = .ok (.iload 4, 2) := by decide +kernel
theorem dS_playBy_62 : decode (xb yyS_playBy) 62 = .ok (.invokestatic 19, 3) := by decide +kernel
theorem dS_playBy_65 : decode (xb yyS_playBy) 65 = .ok (.ireturn, 1) := by decide +kernel
theorem dS_playBy_66 : decode (xb yyS_playBy) 66 = .ok (.iload_n 1, 1) := by decide +kernel
theorem dS_playBy_67 : decode (xb yyS_playBy) 67 = .ok (.iload_n 1, 1) := by decide +kernel
theorem dS_playBy_68 : decode (xb yyS_playBy) 68 = .ok (.iload_n 2, 1) := by decide +kernel
theorem dS_playBy_69 : decode (xb yyS_playBy) 69 = .ok (.invokestatic 13, 3) := by decide +kernel
theorem dS_playBy_72 : decode (xb yyS_playBy) 72 = .ok (.invokestatic 23, 3) := by decide +kernel
theorem dS_playBy_75 : decode (xb yyS_playBy) 75 = .ok (.ireturn, 1) := by decide +kernel
theorem dS_playBy_76 : decode (xb yyS_playBy) 76 = .ok (.iload_n 2, 1) := by decide +kernel
theorem dS_playBy_77 : decode (xb yyS_playBy) 77 = .ok (.ireturn, 1) := by decide +kernel
def fS_playBy  (v0 : Int32) (v1 : Int32) (v2 : Int32) (v3 : Int32) (v4 : Int32) : Option (Int32) := (if v0 = (1 : Int32) then (fS_lent v2 v3).bind fun r38 => some r38 else (if v0 = (2 : Int32) then (fS_cello v1 v2).bind fun r44 => some r44 else (if v0 = (3 : Int32) then (fS_lent v2 v3).bind fun r50 => (fS_tenement r50 v3).bind fun r54 => some r54 else (if v0 = (4 : Int32) then (fS_squeak v1 v2 v4).bind fun r62 => some r62 else (if v0 = (5 : Int32) then (fS_cello v1 v2).bind fun r69 => (fS_bass v1 r69).bind fun r72 => some r72 else some v2)))))
set_option maxRecDepth 100000 in
set_option maxHeartbeats 4000000 in
theorem kS_playBy (G : xG)   (S : xS)  (v0 : Int32) (v1 : Int32) (v2 : Int32) (v3 : Int32) (v4 : Int32) : ∀ a, fS_playBy  v0 v1 v2 v3 v4 = some a → xCt G yyS_playBy [.int v0, .int v1, .int v2, .int v3, .int v4] S (some (.int a)) S := by
  refine xR_ct (em := (emi S)) rfl (Nat.le_of_ble_eq_true rfl) ?_
  show xR G yyS_playBy _ 0 [(0, .int v0), (1, .int v1), (2, .int v2), (3, .int v3), (4, .int v4)] [] _ _
  unfold fS_playBy
  refine xR_iln 0 0 dS_playBy_0 rfl rfl ?_
  refine xR_tsw 1 36 (1 : Int32) dS_playBy_1 (by decide) (by decide) rfl (by decide) ?_ (fun hs1_0 => ?_)
  · refine xR_iln 36 2 dS_playBy_36 rfl rfl ?_
    refine xR_iln 37 3 dS_playBy_37 rfl rfl ?_
    refine xR_callSi 38 cs_S_lent ml_RX3_7 ⟨Nat.le_of_ble_eq_true rfl, Nat.le_of_ble_eq_true rfl⟩ [.int v2, .int v3] rfl rfl (Nat.le_of_ble_eq_true rfl) dS_playBy_38 (kS_lent G S v2 v3) (fun r38 => ?_)
    exact xR_iret 41 rfl rfl dS_playBy_41
  refine xR_tsw 1 42 (2 : Int32) dS_playBy_1 (by decide) (by decide) rfl (by decide) ?_ (fun hs1_1 => ?_)
  · refine xR_iln 42 1 dS_playBy_42 rfl rfl ?_
    refine xR_iln 43 2 dS_playBy_43 rfl rfl ?_
    refine xR_callSi 44 cs_S_cello ml_RX3_13 ⟨Nat.le_of_ble_eq_true rfl, Nat.le_of_ble_eq_true rfl⟩ [.int v1, .int v2] rfl rfl (Nat.le_of_ble_eq_true rfl) dS_playBy_44 (kS_cello G S v1 v2) (fun r44 => ?_)
    exact xR_iret 47 rfl rfl dS_playBy_47
  refine xR_tsw 1 48 (3 : Int32) dS_playBy_1 (by decide) (by decide) rfl (by decide) ?_ (fun hs1_2 => ?_)
  · refine xR_iln 48 2 dS_playBy_48 rfl rfl ?_
    refine xR_iln 49 3 dS_playBy_49 rfl rfl ?_
    refine xR_callSi 50 cs_S_lent ml_RX3_7 ⟨Nat.le_of_ble_eq_true rfl, Nat.le_of_ble_eq_true rfl⟩ [.int v2, .int v3] rfl rfl (Nat.le_of_ble_eq_true rfl) dS_playBy_50 (kS_lent G S v2 v3) (fun r50 => ?_)
    refine xR_iln 53 3 dS_playBy_53 rfl rfl ?_
    refine xR_callSi 54 cs_S_tenement ml_RX3_16 ⟨Nat.le_of_ble_eq_true rfl, Nat.le_of_ble_eq_true rfl⟩ [.int r50, .int v3] rfl rfl (Nat.le_of_ble_eq_true rfl) dS_playBy_54 (kS_tenement G S r50 v3) (fun r54 => ?_)
    exact xR_iret 57 rfl rfl dS_playBy_57
  refine xR_tsw 1 58 (4 : Int32) dS_playBy_1 (by decide) (by decide) rfl (by decide) ?_ (fun hs1_3 => ?_)
  · refine xR_iln 58 1 dS_playBy_58 rfl rfl ?_
    refine xR_iln 59 2 dS_playBy_59 rfl rfl ?_
    refine xR_il 60 4 dS_playBy_60 rfl ?_
    refine xR_callSi 62 cs_S_squeak ml_RX3_19 ⟨Nat.le_of_ble_eq_true rfl, Nat.le_of_ble_eq_true rfl⟩ [.int v1, .int v2, .int v4] rfl rfl (Nat.le_of_ble_eq_true rfl) dS_playBy_62 (kS_squeak G S v1 v2 v4) (fun r62 => ?_)
    exact xR_iret 65 rfl rfl dS_playBy_65
  refine xR_tsw 1 66 (5 : Int32) dS_playBy_1 (by decide) (by decide) rfl (by decide) ?_ (fun hs1_4 => ?_)
  · refine xR_iln 66 1 dS_playBy_66 rfl rfl ?_
    refine xR_iln 67 1 dS_playBy_67 rfl rfl ?_
    refine xR_iln 68 2 dS_playBy_68 rfl rfl ?_
    refine xR_callSi 69 cs_S_cello ml_RX3_13 ⟨Nat.le_of_ble_eq_true rfl, Nat.le_of_ble_eq_true rfl⟩ [.int v1, .int v2] rfl rfl (Nat.le_of_ble_eq_true rfl) dS_playBy_69 (kS_cello G S v1 v2) (fun r69 => ?_)
    refine xR_callSi 72 cs_S_bass ml_RX3_23 ⟨Nat.le_of_ble_eq_true rfl, Nat.le_of_ble_eq_true rfl⟩ [.int v1, .int r69] rfl rfl (Nat.le_of_ble_eq_true rfl) dS_playBy_72 (kS_bass G S v1 r69) (fun r72 => ?_)
    exact xR_iret 75 rfl rfl dS_playBy_75
  refine xR_tso 1 76 dS_playBy_1 (by have e0 := lv_neT hs1_0 (a := 1) rfl; have e1 := lv_neT hs1_1 (a := 2) rfl; have e2 := lv_neT hs1_2 (a := 3) rfl; have e3 := lv_neT hs1_3 (a := 4) rfl; have e4 := lv_neT hs1_4 (a := 5) rfl; omega) (by decide) ?_
  refine xR_iln 76 2 dS_playBy_76 rfl rfl ?_
  exact xR_iret 77 rfl rfl dS_playBy_77
theorem dH_isPartOf_0 : decode (xb yyH_isPartOf) 0 = .ok (.iload_n 0, 1) := by decide +kernel
theorem dH_isPartOf_1 : decode (xb yyH_isPartOf) 1 = .ok (.iload_n 1, 1) := by decide +kernel
theorem dH_isPartOf_2 : decode (xb yyH_isPartOf) 2 = .ok (.iconst (-1), 1) := by decide +kernel
theorem dH_isPartOf_3 : decode (xb yyH_isPartOf) 3 = .ok (.ixor, 1) := by decide +kernel
theorem dH_isPartOf_4 : decode (xb yyH_isPartOf) 4 = .ok (.iand, 1) := by decide +kernel
theorem dH_isPartOf_5 : decode (xb yyH_isPartOf) 5 = .ok (.ifCond .ne 7, 3) := by decide +kernel
theorem dH_isPartOf_8 : decode (xb yyH_isPartOf) 8 = .ok (.iconst 1, 1) := by decide +kernel
theorem dH_isPartOf_9 : decode (xb yyH_isPartOf) 9 = .ok (.goto 4, 3) := by decide +kernel
theorem dH_isPartOf_12 : decode (xb yyH_isPartOf) 12 = .ok (.iconst 0, 1) := by decide +kernel
theorem dH_isPartOf_13 : decode (xb yyH_isPartOf) 13 = .ok (.ireturn, 1) := by decide +kernel
def fH_isPartOf  (v0 : Int32) (v1 : Int32) : Option (Int32) := (if (v0 &&& (v1 ^^^ (-1 : Int32))) = 0 then some (xnb (1 : Int32)) else some (xnb (0 : Int32)))
set_option maxRecDepth 100000 in
set_option maxHeartbeats 4000000 in
theorem kH_isPartOf (G : xG)   (S : xS)  (v0 : Int32) (v1 : Int32) : ∀ a, fH_isPartOf  v0 v1 = some a → xCt G yyH_isPartOf [.int v0, .int v1] S (some (.int a)) S := by
  refine xR_ct (em := (emi S)) rfl (Nat.le_of_ble_eq_true rfl) ?_
  show xR G yyH_isPartOf _ 0 [(0, .int v0), (1, .int v1)] [] _ _
  unfold fH_isPartOf
  refine xR_iln 0 0 dH_isPartOf_0 rfl rfl ?_
  refine xR_iln 1 1 dH_isPartOf_1 rfl rfl ?_
  refine xR_ic 2 (-1 : Int32) dH_isPartOf_2 (by decide) ?_
  refine xR_ixor 3 dH_isPartOf_3 ?_
  refine xR_iand 4 dH_isPartOf_4 ?_
  refine xR_ifne 5 12 dH_isPartOf_5 (by decide) ?_ ?_
  · refine xR_ic 12 (0 : Int32) dH_isPartOf_12 (by decide) ?_
    exact xR_zret 13 rfl rfl dH_isPartOf_13
  · refine xR_ic 8 (1 : Int32) dH_isPartOf_8 (by decide) ?_
    refine xR_goto 9 13 dH_isPartOf_9 (by decide) ?_
    exact xR_zret 13 rfl rfl dH_isPartOf_13
theorem dH_firstGets_0 : decode (xb yyH_firstGets) 0 = .ok (.iload_n 1, 1) := by decide +kernel
theorem dH_firstGets_1 : decode (xb yyH_firstGets) 1 = .ok (.iload_n 2, 1) := by decide +kernel
theorem dH_firstGets_2 : decode (xb yyH_firstGets) 2 = .ok (.if_icmp .lt 9, 3) := by decide +kernel
theorem dH_firstGets_5 : decode (xb yyH_firstGets) 5 = .ok (.iload_n 0, 1) := by decide +kernel
theorem dH_firstGets_6 : decode (xb yyH_firstGets) 6 = .ok (.iload_n 1, 1) := by decide +kernel
theorem dH_firstGets_7 : decode (xb yyH_firstGets) 7 = .ok (.isub, 1) := by decide +kernel
theorem dH_firstGets_8 : decode (xb yyH_firstGets) 8 = .ok (.goto 7, 3) := by decide +kernel
theorem dH_firstGets_11 : decode (xb yyH_firstGets) 11 = .ok (.iload_n 1, 1) := by decide +kernel
theorem dH_firstGets_12 : decode (xb yyH_firstGets) 12 = .ok (.iconst 2, 1) := by decide +kernel
theorem dH_firstGets_13 : decode (xb yyH_firstGets) 13 = .ok (.idiv, 1) := by decide +kernel
theorem dH_firstGets_14 : decode (xb yyH_firstGets) 14 = .ok (.ineg, 1) := by decide +kernel
theorem dH_firstGets_15 : decode (xb yyH_firstGets) 15 = .ok (.ireturn, 1) := by decide +kernel
def fH_firstGets  (v0 : Int32) (v1 : Int32) (v2 : Int32) : Option (Int32) := (if v1 < v2 then some (-(v1 / (2 : Int32))) else some (v0 - v1))
set_option maxRecDepth 100000 in
set_option maxHeartbeats 4000000 in
theorem kH_firstGets (G : xG)   (S : xS)  (v0 : Int32) (v1 : Int32) (v2 : Int32) : ∀ a, fH_firstGets  v0 v1 v2 = some a → xCt G yyH_firstGets [.int v0, .int v1, .int v2] S (some (.int a)) S := by
  refine xR_ct (em := (emi S)) rfl (Nat.le_of_ble_eq_true rfl) ?_
  show xR G yyH_firstGets _ 0 [(0, .int v0), (1, .int v1), (2, .int v2)] [] _ _
  unfold fH_firstGets
  refine xR_iln 0 1 dH_firstGets_0 rfl rfl ?_
  refine xR_iln 1 2 dH_firstGets_1 rfl rfl ?_
  refine xR_iclt 2 11 dH_firstGets_2 (by decide) ?_ ?_
  · refine xR_iln 11 1 dH_firstGets_11 rfl rfl ?_
    refine xR_ic 12 (2 : Int32) dH_firstGets_12 (by decide) ?_
    refine xR_idiv 13 dH_firstGets_13 (by decide) ?_
    refine xR_ineg 14 dH_firstGets_14 ?_
    exact xR_iret 15 rfl rfl dH_firstGets_15
  · refine xR_iln 5 0 dH_firstGets_5 rfl rfl ?_
    refine xR_iln 6 1 dH_firstGets_6 rfl rfl ?_
    refine xR_isub 7 dH_firstGets_7 ?_
    refine xR_goto 8 15 dH_firstGets_8 (by decide) ?_
    exact xR_iret 15 rfl rfl dH_firstGets_15
theorem dH_secondGets_0 : decode (xb yyH_secondGets) 0 = .ok (.iload_n 2, 1) := by decide +kernel
theorem dH_secondGets_1 : decode (xb yyH_secondGets) 1 = .ok (.iload_n 1, 1) := by decide +kernel
theorem dH_secondGets_2 : decode (xb yyH_secondGets) 2 = .ok (.if_icmp .le 9, 3) := by decide +kernel
theorem dH_secondGets_5 : decode (xb yyH_secondGets) 5 = .ok (.iload_n 0, 1) := by decide +kernel
theorem dH_secondGets_6 : decode (xb yyH_secondGets) 6 = .ok (.iload_n 2, 1) := by decide +kernel
theorem dH_secondGets_7 : decode (xb yyH_secondGets) 7 = .ok (.isub, 1) := by decide +kernel
theorem dH_secondGets_8 : decode (xb yyH_secondGets) 8 = .ok (.goto 7, 3) := by decide +kernel
theorem dH_secondGets_11 : decode (xb yyH_secondGets) 11 = .ok (.iload_n 2, 1) := by decide +kernel
theorem dH_secondGets_12 : decode (xb yyH_secondGets) 12 = .ok (.iconst 2, 1) := by decide +kernel
theorem dH_secondGets_13 : decode (xb yyH_secondGets) 13 = .ok (.idiv, 1) := by decide +kernel
theorem dH_secondGets_14 : decode (xb yyH_secondGets) 14 = .ok (.ineg, 1) := by decide +kernel
theorem dH_secondGets_15 : decode (xb yyH_secondGets) 15 = .ok (.ireturn, 1) := by decide +kernel
def fH_secondGets  (v0 : Int32) (v1 : Int32) (v2 : Int32) : Option (Int32) := (if v2 ≤ v1 then some (-(v2 / (2 : Int32))) else some (v0 - v2))
set_option maxRecDepth 100000 in
set_option maxHeartbeats 4000000 in
theorem kH_secondGets (G : xG)   (S : xS)  (v0 : Int32) (v1 : Int32) (v2 : Int32) : ∀ a, fH_secondGets  v0 v1 v2 = some a → xCt G yyH_secondGets [.int v0, .int v1, .int v2] S (some (.int a)) S := by
  refine xR_ct (em := (emi S)) rfl (Nat.le_of_ble_eq_true rfl) ?_
  show xR G yyH_secondGets _ 0 [(0, .int v0), (1, .int v1), (2, .int v2)] [] _ _
  unfold fH_secondGets
  refine xR_iln 0 2 dH_secondGets_0 rfl rfl ?_
  refine xR_iln 1 1 dH_secondGets_1 rfl rfl ?_
  refine xR_icle 2 11 dH_secondGets_2 (by decide) ?_ ?_
  · refine xR_iln 11 2 dH_secondGets_11 rfl rfl ?_
    refine xR_ic 12 (2 : Int32) dH_secondGets_12 (by decide) ?_
    refine xR_idiv 13 dH_secondGets_13 (by decide) ?_
    refine xR_ineg 14 dH_secondGets_14 ?_
    exact xR_iret 15 rfl rfl dH_secondGets_15
  · refine xR_iln 5 0 dH_secondGets_5 rfl rfl ?_
    refine xR_iln 6 2 dH_secondGets_6 rfl rfl ?_
    refine xR_isub 7 dH_secondGets_7 ?_
    refine xR_goto 8 15 dH_secondGets_8 (by decide) ?_
    exact xR_iret 15 rfl rfl dH_secondGets_15
theorem dH_rests_0 : decode (xb yyH_rests) 0 = .ok (.iconst 0, 1) := by decide +kernel
theorem dH_rests_1 : decode (xb yyH_rests) 1 = .ok (.istore_n 3, 1) := by decide +kernel
theorem dH_rests_2 : decode (xb yyH_rests) 2 = .ok (.iload_n 3, 1) := by decide +kernel
theorem dH_rests_3 : decode (xb yyH_rests) 3 = .ok (.bipush 10, 2) := by decide +kernel
theorem dH_rests_5 : decode (xb yyH_rests) 5 = .ok (.if_icmp .ge 41, 3) := by decide +kernel
theorem dH_rests_8 : decode (xb yyH_rests) 8 = .ok (.iload_n 0, 1) := by decide +kernel
theorem dH_rests_9 : decode (xb yyH_rests) 9 = .ok (.iload_n 3, 1) := by decide +kernel
theorem dH_rests_10 : decode (xb yyH_rests) 10 = .ok (.iload_n 2, 1) := by decide +kernel
theorem dH_rests_11 : decode (xb yyH_rests) 11 = .ok (.invokestatic 349, 3) := by decide +kernel
theorem dH_rests_14 : decode (xb yyH_rests) 14 = .ok (.iload_n 0, 1) := by decide +kernel
theorem dH_rests_15 : decode (xb yyH_rests) 15 = .ok (.iload_n 1, 1) := by decide +kernel
theorem dH_rests_16 : decode (xb yyH_rests) 16 = .ok (.iload_n 2, 1) := by decide +kernel
theorem dH_rests_17 : decode (xb yyH_rests) 17 = .ok (.invokestatic 349, 3) := by decide +kernel
theorem dH_rests_20 : decode (xb yyH_rests) 20 = .ok (.if_icmp .gt 18, 3) := by decide +kernel
theorem dH_rests_23 : decode (xb yyH_rests) 23 = .ok (.iload_n 0, 1) := by decide +kernel
theorem dH_rests_24 : decode (xb yyH_rests) 24 = .ok (.iload_n 1, 1) := by decide +kernel
theorem dH_rests_25 : decode (xb yyH_rests) 25 = .ok (.iload_n 3, 1) := by decide +kernel
theorem dH_rests_26 : decode (xb yyH_rests) 26 = .ok (.invokestatic 352, 3) := by decide +kernel
theorem dH_rests_29 : decode (xb yyH_rests) 29 = .ok (.iload_n 0, 1) := by decide +kernel
theorem dH_rests_30 : decode (xb yyH_rests) 30 = .ok (.iload_n 1, 1) := by decide +kernel
theorem dH_rests_31 : decode (xb yyH_rests) 31 = .ok (.iload_n 2, 1) := by decide +kernel
theorem dH_rests_32 : decode (xb yyH_rests) 32 = .ok (.invokestatic 352, 3) := by decide +kernel
theorem dH_rests_35 : decode (xb yyH_rests) 35 = .ok (.if_icmp .le 5, 3) := by decide +kernel
theorem dH_rests_38 : decode (xb yyH_rests) 38 = .ok (.iconst 0, 1) := by decide +kernel
theorem dH_rests_39 : decode (xb yyH_rests) 39 = .ok (.ireturn, 1) := by decide +kernel
theorem dH_rests_40 : decode (xb yyH_rests) 40 = .ok (.iinc 3 1, 3) := by decide +kernel
theorem dH_rests_43 : decode (xb yyH_rests) 43 = .ok (.goto (-41), 3) := by decide +kernel
theorem dH_rests_46 : decode (xb yyH_rests) 46 = .ok (.iconst 1, 1) := by decide +kernel
theorem dH_rests_47 : decode (xb yyH_rests) 47 = .ok (.ireturn, 1) := by decide +kernel
def fH_rests_l2  : Nat → Int32 → Int32 → Int32 → Int32 → Option (Int32)
  | 0, _, _, _, _ => none
  | n + 1, v0, v1, v2, v3 => (if (10 : Int32) ≤ v3 then some (xnb (1 : Int32)) else (fH_firstGets v0 v3 v2).bind fun r11 => (fH_firstGets v0 v1 v2).bind fun r17 => (if r17 < r11 then some (xnb (0 : Int32)) else (fH_secondGets v0 v1 v3).bind fun r26 => (fH_secondGets v0 v1 v2).bind fun r32 => (if r26 ≤ r32 then fH_rests_l2 n v0 v1 v2 (v3 + 1) else some (xnb (0 : Int32)))))
def fH_rests  (v0 : Int32) (v1 : Int32) (v2 : Int32) : Option (Int32) := fH_rests_l2 xfu v0 v1 v2 (0 : Int32)
set_option maxRecDepth 100000 in
set_option maxHeartbeats 4000000 in
theorem kH_rests_l2 (G : xG)   (S : xS)    : ∀ (n : Nat) (v0 : Int32) (v1 : Int32) (v2 : Int32) (v3 : Int32), xR G yyH_rests (emi S) 2 [(0, .int v0), (1, .int v1), (2, .int v2), (3, .int v3)] [] S (fH_rests_l2  n v0 v1 v2 v3) := by
  intro n
  induction n with
  | zero =>
    intro v0 v1 v2 v3
    rw [fH_rests_l2]
    exact xR_none
  | succ n ih =>
    intro v0 v1 v2 v3
    rw [fH_rests_l2]
    refine xR_iln 2 3 dH_rests_2 rfl rfl ?_
    refine xR_bp 3 (10 : Int32) dH_rests_3 (by decide) ?_
    refine xR_icge 5 46 dH_rests_5 (by decide) ?_ ?_
    · refine xR_ic 46 (1 : Int32) dH_rests_46 (by decide) ?_
      exact xR_zret 47 rfl rfl dH_rests_47
    · refine xR_iln 8 0 dH_rests_8 rfl rfl ?_
      refine xR_iln 9 3 dH_rests_9 rfl rfl ?_
      refine xR_iln 10 2 dH_rests_10 rfl rfl ?_
      refine xR_callSi 11 cs_H_firstGets ml_RX8_349 ⟨Nat.le_of_ble_eq_true rfl, Nat.le_of_ble_eq_true rfl⟩ [.int v0, .int v3, .int v2] rfl rfl (Nat.le_of_ble_eq_true rfl) dH_rests_11 (kH_firstGets G S v0 v3 v2) (fun r11 => ?_)
      refine xR_iln 14 0 dH_rests_14 rfl rfl ?_
      refine xR_iln 15 1 dH_rests_15 rfl rfl ?_
      refine xR_iln 16 2 dH_rests_16 rfl rfl ?_
      refine xR_callSi 17 cs_H_firstGets ml_RX8_349 ⟨Nat.le_of_ble_eq_true rfl, Nat.le_of_ble_eq_true rfl⟩ [.int v0, .int v1, .int v2] rfl rfl (Nat.le_of_ble_eq_true rfl) dH_rests_17 (kH_firstGets G S v0 v1 v2) (fun r17 => ?_)
      refine xR_icgt 20 38 dH_rests_20 (by decide) ?_ ?_
      · refine xR_ic 38 (0 : Int32) dH_rests_38 (by decide) ?_
        exact xR_zret 39 rfl rfl dH_rests_39
      · refine xR_iln 23 0 dH_rests_23 rfl rfl ?_
        refine xR_iln 24 1 dH_rests_24 rfl rfl ?_
        refine xR_iln 25 3 dH_rests_25 rfl rfl ?_
        refine xR_callSi 26 cs_H_secondGets ml_RX8_352 ⟨Nat.le_of_ble_eq_true rfl, Nat.le_of_ble_eq_true rfl⟩ [.int v0, .int v1, .int v3] rfl rfl (Nat.le_of_ble_eq_true rfl) dH_rests_26 (kH_secondGets G S v0 v1 v3) (fun r26 => ?_)
        refine xR_iln 29 0 dH_rests_29 rfl rfl ?_
        refine xR_iln 30 1 dH_rests_30 rfl rfl ?_
        refine xR_iln 31 2 dH_rests_31 rfl rfl ?_
        refine xR_callSi 32 cs_H_secondGets ml_RX8_352 ⟨Nat.le_of_ble_eq_true rfl, Nat.le_of_ble_eq_true rfl⟩ [.int v0, .int v1, .int v2] rfl rfl (Nat.le_of_ble_eq_true rfl) dH_rests_32 (kH_secondGets G S v0 v1 v2) (fun r32 => ?_)
        refine xR_icle 35 40 dH_rests_35 (by decide) ?_ ?_
        · refine xR_iinc 40 3 (v3 + 1) ([(3, .int (v3 + 1)), (0, .int v0), (1, .int v1), (2, .int v2)]) dH_rests_40 rfl rfl (by decide) rfl ?_
          refine xR_goto 43 2 dH_rests_43 (by decide) ?_
          exact xR_sub [1, 2, 3, 0] rfl (ih v0 v1 v2 (v3 + 1))
        · refine xR_ic 38 (0 : Int32) dH_rests_38 (by decide) ?_
          exact xR_zret 39 rfl rfl dH_rests_39
set_option maxRecDepth 100000 in
set_option maxHeartbeats 4000000 in
theorem kH_rests (G : xG)   (S : xS)  (v0 : Int32) (v1 : Int32) (v2 : Int32) : ∀ a, fH_rests  v0 v1 v2 = some a → xCt G yyH_rests [.int v0, .int v1, .int v2] S (some (.int a)) S := by
  refine xR_ct (em := (emi S)) rfl (Nat.le_of_ble_eq_true rfl) ?_
  show xR G yyH_rests _ 0 [(0, .int v0), (1, .int v1), (2, .int v2)] [] _ _
  unfold fH_rests
  refine xR_ic 0 (0 : Int32) dH_rests_0 (by decide) ?_
  refine xR_isn 1 ([(3, .int (0 : Int32)), (0, .int v0), (1, .int v1), (2, .int v2)]) dH_rests_1 rfl (by decide) rfl ?_
  exact xR_sub [1, 2, 3, 0] rfl (kH_rests_l2 G S xfu v0 v1 v2 (0 : Int32))
theorem dH_power_0 : decode (xb yyH_power) 0 = .ok (.lconst 1, 1) := by decide +kernel
theorem dH_power_1 : decode (xb yyH_power) 1 = .ok (.lstore_n 3, 1) := by decide +kernel
theorem dH_power_2 : decode (xb yyH_power) 2 = .ok (.iconst 0, 1) := by decide +kernel
theorem dH_power_3 : decode (xb yyH_power) 3 = .ok (.istore 5, 2) := by decide +kernel
theorem dH_power_5 : decode (xb yyH_power) 5 = .ok (.iload 5, 2) := by decide +kernel
theorem dH_power_7 : decode (xb yyH_power) 7 = .ok (.iload_n 2, 1) := by decide +kernel
theorem dH_power_8 : decode (xb yyH_power) 8 = .ok (.if_icmp .ge 13, 3) := by decide +kernel
theorem dH_power_11 : decode (xb yyH_power) 11 = .ok (.lload_n 3, 1) := by decide +kernel
theorem dH_power_12 : decode (xb yyH_power) 12 = .ok (.lload_n 0, 1) := by decide +kernel
theorem dH_power_13 : decode (xb yyH_power) 13 = .ok (.lmul, 1) := by decide +kernel
theorem dH_power_14 : decode (xb yyH_power) 14 = .ok (.lstore_n 3, 1) := by decide +kernel
theorem dH_power_15 : decode (xb yyH_power) 15 = .ok (.iinc 5 1, 3) := by decide +kernel
theorem dH_power_18 : decode (xb yyH_power) 18 = .ok (.goto (-13), 3) := by decide +kernel
theorem dH_power_21 : decode (xb yyH_power) 21 = .ok (.lload_n 3, 1) := by decide +kernel
theorem dH_power_22 : decode (xb yyH_power) 22 = .ok (.lreturn, 1) := by decide +kernel
def fH_power_l5  : Nat → Int64 → Int32 → Int64 → Int32 → Option (Int64)
  | 0, _, _, _, _ => none
  | n + 1, v0, v2, v3, v5 => (if v2 ≤ v5 then some v3 else fH_power_l5 n v0 v2 (v3 * v0) (v5 + 1))
def fH_power  (v0 : Int64) (v2 : Int32) : Option (Int64) := fH_power_l5 xfu v0 v2 (1 : Int64) (0 : Int32)
set_option maxRecDepth 100000 in
set_option maxHeartbeats 4000000 in
theorem kH_power_l5 (G : xG)   (S : xS)    : ∀ (n : Nat) (v0 : Int64) (v2 : Int32) (v3 : Int64) (v5 : Int32), xR G yyH_power (eml S) 5 [(0, .long v0), (2, .int v2), (3, .long v3), (5, .int v5)] [] S (fH_power_l5  n v0 v2 v3 v5) := by
  intro n
  induction n with
  | zero =>
    intro v0 v2 v3 v5
    rw [fH_power_l5]
    exact xR_none
  | succ n ih =>
    intro v0 v2 v3 v5
    rw [fH_power_l5]
    refine xR_il 5 3 dH_power_5 rfl ?_
    refine xR_iln 7 1 dH_power_7 rfl rfl ?_
    refine xR_icge 8 21 dH_power_8 (by decide) ?_ ?_
    · refine xR_lln 21 2 dH_power_21 rfl rfl ?_
      exact xR_lret 22 rfl rfl dH_power_22
    · refine xR_lln 11 2 dH_power_11 rfl rfl ?_
      refine xR_lln 12 0 dH_power_12 rfl rfl ?_
      refine xR_lmul 13 dH_power_13 ?_
      refine xR_lsn 14 ([(3, .long (v3 * v0)), (0, .long v0), (2, .int v2), (5, .int v5)]) dH_power_14 rfl (by decide) rfl ?_
      refine xR_iinc 15 3 (v5 + 1) ([(5, .int (v5 + 1)), (3, .long (v3 * v0)), (0, .long v0), (2, .int v2)]) dH_power_15 rfl rfl (by decide) rfl ?_
      refine xR_goto 18 5 dH_power_18 (by decide) ?_
      exact xR_sub [2, 3, 1, 0] rfl (ih v0 v2 (v3 * v0) (v5 + 1))
set_option maxRecDepth 100000 in
set_option maxHeartbeats 4000000 in
theorem kH_power (G : xG)   (S : xS)  (v0 : Int64) (v2 : Int32) : ∀ a, fH_power  v0 v2 = some a → xCt G yyH_power [.long v0, .int v2] S (some (.long a)) S := by
  refine xR_ct (em := (eml S)) rfl (Nat.le_of_ble_eq_true rfl) ?_
  show xR G yyH_power _ 0 [(0, .long v0), (2, .int v2)] [] _ _
  unfold fH_power
  refine xR_lc 0 (1 : Int64) dH_power_0 (by decide) ?_
  refine xR_lsn 1 ([(3, .long (1 : Int64)), (0, .long v0), (2, .int v2)]) dH_power_1 rfl (by decide) rfl ?_
  refine xR_ic 2 (0 : Int32) dH_power_2 (by decide) ?_
  refine xR_is 3 ([(5, .int (0 : Int32)), (3, .long (1 : Int64)), (0, .long v0), (2, .int v2)]) dH_power_3 (by decide) rfl ?_
  exact xR_sub [2, 3, 1, 0] rfl (kH_power_l5 G S xfu v0 v2 (1 : Int64) (0 : Int32))
theorem dH_commonDivisor_0 : decode (xb yyH_commonDivisor) 0 = .ok (.lload_n 0, 1) := by decide +kernel
theorem dH_commonDivisor_1 : decode (xb yyH_commonDivisor) 1 = .ok (.lstore 4, 2) := by decide +kernel
theorem dH_commonDivisor_3 : decode (xb yyH_commonDivisor) 3 = .ok (.lload_n 2, 1) := by decide +kernel
theorem dH_commonDivisor_4 : decode (xb yyH_commonDivisor) 4 = .ok (.lstore 6, 2) := by decide +kernel
theorem dH_commonDivisor_6 : decode (xb yyH_commonDivisor) 6 = .ok (.iconst 0, 1) := by decide +kernel
theorem dH_commonDivisor_7 : decode (xb yyH_commonDivisor) 7 = .ok (.istore 8, 2) := by decide +kernel
theorem dH_commonDivisor_9 : decode (xb yyH_commonDivisor) 9 = .ok (.iload 8, 2) := by decide +kernel
theorem dH_commonDivisor_11 : decode (xb yyH_commonDivisor) 11 = .ok (.bipush 100, 2) := by decide +kernel
theorem dH_commonDivisor_13 : decode (xb yyH_commonDivisor) 13 = .ok (.if_icmp .ge 31, 3) := by decide +kernel
theorem dH_commonDivisor_16 : decode (xb yyH_commonDivisor) 16 = .ok (.lload 6, 2) := by decide +kernel
theorem dH_commonDivisor_18 : decode (xb yyH_commonDivisor) 18 = .ok (.lconst 0, 1) := by decide +kernel
theorem dH_commonDivisor_19 : decode (xb yyH_commonDivisor) 19 = .ok (.lcmp, 1) := by decide +kernel
theorem dH_commonDivisor_20 : decode (xb yyH_commonDivisor) 20 = .ok (.ifCond .le 24, 3) := by decide +kernel
theorem dH_commonDivisor_23 : decode (xb yyH_commonDivisor) 23 = .ok (.lload 4, 2) := by decide +kernel
theorem dH_commonDivisor_25 : decode (xb yyH_commonDivisor) 25 = .ok (.lload 6, 2) := by decide +kernel
theorem dH_commonDivisor_27 : decode (xb yyH_commonDivisor) 27 = .ok (.lrem, 1) := by decide +kernel
theorem dH_commonDivisor_28 : decode (xb yyH_commonDivisor) 28 = .ok (.lstore 9, 2) := by decide +kernel
theorem dH_commonDivisor_30 : decode (xb yyH_commonDivisor) 30 = .ok (.lload 6, 2) := by decide +kernel
theorem dH_commonDivisor_32 : decode (xb yyH_commonDivisor) 32 = .ok (.lstore 4, 2) := by decide +kernel
theorem dH_commonDivisor_34 : decode (xb yyH_commonDivisor) 34 = .ok (.lload 9, 2) := by decide +kernel
theorem dH_commonDivisor_36 : decode (xb yyH_commonDivisor) 36 = .ok (.lstore 6, 2) := by decide +kernel
theorem dH_commonDivisor_38 : decode (xb yyH_commonDivisor) 38 = .ok (.iinc 8 1, 3) := by decide +kernel
theorem dH_commonDivisor_41 : decode (xb yyH_commonDivisor) 41 = .ok (.goto (-32), 3) := by decide +kernel
theorem dH_commonDivisor_44 : decode (xb yyH_commonDivisor) 44 = .ok (.lload 4, 2) := by decide +kernel
theorem dH_commonDivisor_46 : decode (xb yyH_commonDivisor) 46 = .ok (.lreturn, 1) := by decide +kernel
def fH_commonDivisor_l9  : Nat → Int64 → Int64 → Int32 → Option (Int64)
  | 0, _, _, _ => none
  | n + 1, v4, v6, v8 => (if (100 : Int32) ≤ v8 then some v4 else (if (lg_cmp v6 (0 : Int64)) ≤ 0 then some v4 else xdl v6 (fH_commonDivisor_l9 n v6 (v4 - v4 / v6 * v6) (v8 + 1))))
def fH_commonDivisor  (v0 : Int64) (v2 : Int64) : Option (Int64) := fH_commonDivisor_l9 xfu v0 v2 (0 : Int32)
set_option maxRecDepth 100000 in
set_option maxHeartbeats 4000000 in
theorem kH_commonDivisor_l9 (G : xG)   (S : xS)    : ∀ (n : Nat) (v4 : Int64) (v6 : Int64) (v8 : Int32), xR G yyH_commonDivisor (eml S) 9 [(4, .long v4), (6, .long v6), (8, .int v8)] [] S (fH_commonDivisor_l9  n v4 v6 v8) := by
  intro n
  induction n with
  | zero =>
    intro v4 v6 v8
    rw [fH_commonDivisor_l9]
    exact xR_none
  | succ n ih =>
    intro v4 v6 v8
    rw [fH_commonDivisor_l9]
    refine xR_il 9 2 dH_commonDivisor_9 rfl ?_
    refine xR_bp 11 (100 : Int32) dH_commonDivisor_11 (by decide) ?_
    refine xR_icge 13 44 dH_commonDivisor_13 (by decide) ?_ ?_
    · refine xR_ll 44 0 dH_commonDivisor_44 rfl ?_
      exact xR_lret 46 rfl rfl dH_commonDivisor_46
    · refine xR_ll 16 1 dH_commonDivisor_16 rfl ?_
      refine xR_lc 18 (0 : Int64) dH_commonDivisor_18 (by decide) ?_
      refine xR_lcmp 19 dH_commonDivisor_19 ?_
      refine xR_ifle 20 44 dH_commonDivisor_20 (by decide) ?_ ?_
      · refine xR_ll 44 0 dH_commonDivisor_44 rfl ?_
        exact xR_lret 46 rfl rfl dH_commonDivisor_46
      · refine xR_ll 23 0 dH_commonDivisor_23 rfl ?_
        refine xR_ll 25 1 dH_commonDivisor_25 rfl ?_
        refine xR_dl (fun hd27 => ?_)
        refine xR_lrem 27 dH_commonDivisor_27 hd27 ?_
        refine xR_ls 28 ([(9, .long (v4 - v4 / v6 * v6)), (4, .long v4), (6, .long v6), (8, .int v8)]) dH_commonDivisor_28 (by decide) rfl ?_
        refine xR_ll 30 2 dH_commonDivisor_30 rfl ?_
        refine xR_ls 32 ([(4, .long v6), (9, .long (v4 - v4 / v6 * v6)), (6, .long v6), (8, .int v8)]) dH_commonDivisor_32 (by decide) rfl ?_
        refine xR_ll 34 1 dH_commonDivisor_34 rfl ?_
        refine xR_ls 36 ([(6, .long (v4 - v4 / v6 * v6)), (4, .long v6), (9, .long (v4 - v4 / v6 * v6)), (8, .int v8)]) dH_commonDivisor_36 (by decide) rfl ?_
        refine xR_iinc 38 3 (v8 + 1) ([(8, .int (v8 + 1)), (6, .long (v4 - v4 / v6 * v6)), (4, .long v6), (9, .long (v4 - v4 / v6 * v6))]) dH_commonDivisor_38 rfl rfl (by decide) rfl ?_
        refine xR_goto 41 9 dH_commonDivisor_41 (by decide) ?_
        exact xR_sub [2, 1, 0] rfl (ih v6 (v4 - v4 / v6 * v6) (v8 + 1))
set_option maxRecDepth 100000 in
set_option maxHeartbeats 4000000 in
theorem kH_commonDivisor (G : xG)   (S : xS)  (v0 : Int64) (v2 : Int64) : ∀ a, fH_commonDivisor  v0 v2 = some a → xCt G yyH_commonDivisor [.long v0, .long v2] S (some (.long a)) S := by
  refine xR_ct (em := (eml S)) rfl (Nat.le_of_ble_eq_true rfl) ?_
  show xR G yyH_commonDivisor _ 0 [(0, .long v0), (2, .long v2)] [] _ _
  unfold fH_commonDivisor
  refine xR_lln 0 0 dH_commonDivisor_0 rfl rfl ?_
  refine xR_ls 1 ([(4, .long v0), (0, .long v0), (2, .long v2)]) dH_commonDivisor_1 (by decide) rfl ?_
  refine xR_lln 3 2 dH_commonDivisor_3 rfl rfl ?_
  refine xR_ls 4 ([(6, .long v2), (4, .long v0), (0, .long v0), (2, .long v2)]) dH_commonDivisor_4 (by decide) rfl ?_
  refine xR_ic 6 (0 : Int32) dH_commonDivisor_6 (by decide) ?_
  refine xR_is 7 ([(8, .int (0 : Int32)), (6, .long v2), (4, .long v0), (0, .long v0), (2, .long v2)]) dH_commonDivisor_7 (by decide) rfl ?_
  exact xR_sub [2, 1, 0] rfl (kH_commonDivisor_l9 G S xfu v0 v2 (0 : Int32))
theorem dT_mixedInto_0 : decode (xb yyT_mixedInto) 0 = .ok (.lload_n 1, 1) := by decide +kernel
theorem dT_mixedInto_1 : decode (xb yyT_mixedInto) 1 = .ok (.lstore_n 3, 1) := by decide +kernel
theorem dT_mixedInto_2 : decode (xb yyT_mixedInto) 2 = .ok (.iconst 0, 1) := by decide +kernel
theorem dT_mixedInto_3 : decode (xb yyT_mixedInto) 3 = .ok (.istore 5, 2) := by decide +kernel
theorem dT_mixedInto_5 : decode (xb yyT_mixedInto) 5 = .ok (.iload 5, 2) := by decide +kernel
theorem dT_mixedInto_7 : decode (xb yyT_mixedInto) 7 = .ok (.aload_n 0, 1) := by decide +kernel
theorem dT_mixedInto_8 : decode (xb yyT_mixedInto) 8 = .ok (.getfield 28, 3) := by decide +kernel
theorem dT_mixedInto_11 : decode (xb yyT_mixedInto) 11 = .ok (.if_icmp .ge 43, 3) := by decide +kernel
theorem dT_mixedInto_14 : decode (xb yyT_mixedInto) 14 = .ok (.iconst 0, 1) := by decide +kernel
theorem dT_mixedInto_15 : decode (xb yyT_mixedInto) 15 = .ok (.istore 6, 2) := by decide +kernel
theorem dT_mixedInto_17 : decode (xb yyT_mixedInto) 17 = .ok (.iload 6, 2) := by decide +kernel
theorem dT_mixedInto_19 : decode (xb yyT_mixedInto) 19 = .ok (.aload_n 0, 1) := by decide +kernel
theorem dT_mixedInto_20 : decode (xb yyT_mixedInto) 20 = .ok (.getfield 21, 3) := by decide +kernel
theorem dT_mixedInto_23 : decode (xb yyT_mixedInto) 23 = .ok (.if_icmp .ge 25, 3) := by decide +kernel
theorem dT_mixedInto_26 : decode (xb yyT_mixedInto) 26 = .ok (.ldc2_w 40, 3) := by decide +kernel
theorem dT_mixedInto_29 : decode (xb yyT_mixedInto) 29 = .ok (.lload_n 3, 1) := by decide +kernel
theorem dT_mixedInto_30 : decode (xb yyT_mixedInto) 30 = .ok (.lmul, 1) := by decide +kernel
theorem dT_mixedInto_31 : decode (xb yyT_mixedInto) 31 = .ok (.aload_n 0, 1) := by decide +kernel
theorem dT_mixedInto_32 : decode (xb yyT_mixedInto) 32 = .ok (.iload 5, 2) := by decide +kernel
theorem dT_mixedInto_34 : decode (xb yyT_mixedInto) 34 = .ok (.iload 6, 2) := by decide +kernel
theorem dT_mixedInto_36 : decode (xb yyT_mixedInto) 36 = .ok (.invokevirtual 42, 3) := by decide +kernel
theorem dT_mixedInto_39 : decode (xb yyT_mixedInto) 39 = .ok (.i2l, 1) := by decide +kernel
theorem dT_mixedInto_40 : decode (xb yyT_mixedInto) 40 = .ok (.ladd, 1) := by decide +kernel
theorem dT_mixedInto_41 : decode (xb yyT_mixedInto) 41 = .ok (.lstore_n 3, 1) := by decide +kernel
theorem dT_mixedInto_42 : decode (xb yyT_mixedInto) 42 = .ok (.iinc 6 1, 3) := by decide +kernel
theorem dT_mixedInto_45 : decode (xb yyT_mixedInto) 45 = .ok (.goto (-28), 3) := by decide +kernel
theorem dT_mixedInto_48 : decode (xb yyT_mixedInto) 48 = .ok (.iinc 5 1, 3) := by decide +kernel
theorem dT_mixedInto_51 : decode (xb yyT_mixedInto) 51 = .ok (.goto (-46), 3) := by decide +kernel
theorem dT_mixedInto_54 : decode (xb yyT_mixedInto) 54 = .ok (.lload_n 3, 1) := by decide +kernel
theorem dT_mixedInto_55 : decode (xb yyT_mixedInto) 55 = .ok (.lreturn, 1) := by decide +kernel
def fT_mixedInto_l17 (t : Nat) (m : xM) (k5 : Int64 → Int32 → Option (Int64)) : Nat → Int64 → Int32 → Int32 → Option (Int64)
  | 0, _, _, _ => none
  | n + 1, v3, v5, v6 => (if (xwid t) ≤ v6 then k5 v3 (v5 + 1) else (fT_get t m v5 v6).bind fun r36 => fT_mixedInto_l17 t m k5 n (((31 : Int64) * v3) + ((r36).toInt64)) v5 (v6 + 1))
def fT_mixedInto_l5 (t : Nat) (m : xM) : Nat → Int64 → Int32 → Option (Int64)
  | 0, _, _ => none
  | n + 1, v3, v5 => (if (m.1 36 t) ≤ v5 then some v3 else fT_mixedInto_l17 t m (fT_mixedInto_l5 t m n) xfu v3 v5 (0 : Int32))
def fT_mixedInto (t : Nat) (m : xM) (v1 : Int64) : Option (Int64) := fT_mixedInto_l5 t m xfu v1 (0 : Int32)
set_option maxRecDepth 100000 in
set_option maxHeartbeats 4000000 in
theorem kT_mixedInto_l17 (G : xG) (t : Nat) (ht : t < 36) (z : xM) (m : xM) (k5 : Int64 → Int32 → Option (Int64)) (hk5 : ∀ (v3 : Int64) (v5 : Int32), xR G yyT_mixedInto (eml (m, z)) 5 [(0, .ref (xa G (36 + t))), (3, .long v3), (5, .int v5)] [] (m, z) (k5 v3 v5)) : ∀ (n : Nat) (v3 : Int64) (v5 : Int32) (v6 : Int32), xR G yyT_mixedInto (eml (m, z)) 17 [(0, .ref (xa G (36 + t))), (3, .long v3), (5, .int v5), (6, .int v6)] [] (m, z) (fT_mixedInto_l17 t m k5 n v3 v5 v6) := by
  intro n
  induction n with
  | zero =>
    intro v3 v5 v6
    rw [fT_mixedInto_l17]
    exact xR_none
  | succ n ih =>
    intro v3 v5 v6
    rw [fT_mixedInto_l17]
    refine xR_il 17 3 dT_mixedInto_17 rfl ?_
    refine xR_aln 19 0 dT_mixedInto_19 rfl rfl ?_
    refine xR_getf 20 xcf3 1 (36 + t) (by decide) (xk_T ht) (xC_tab ht) (v := .int (xwid t)) rfl fl_RX4_21 dT_mixedInto_20 ?_
    refine xR_icge 23 48 dT_mixedInto_23 (by decide) ?_ ?_
    · refine xR_iinc 48 2 (v5 + 1) ([(5, .int (v5 + 1)), (0, .ref (xa G (36 + t))), (3, .long v3), (6, .int v6)]) dT_mixedInto_48 rfl rfl (by decide) rfl ?_
      refine xR_goto 51 5 dT_mixedInto_51 (by decide) ?_
      exact xR_sub [1, 2, 0] rfl (hk5 v3 (v5 + 1))
    · refine xR_ldc2 26 cl_RX4_40 dT_mixedInto_26 ?_
      refine xR_lln 29 1 dT_mixedInto_29 rfl rfl ?_
      refine xR_lmul 30 dT_mixedInto_30 ?_
      refine xR_aln 31 0 dT_mixedInto_31 rfl rfl ?_
      refine xR_il 32 2 dT_mixedInto_32 rfl ?_
      refine xR_il 34 3 dT_mixedInto_34 rfl ?_
      refine xR_callVi 36 cv_T_get ml_RX4_42 ⟨Nat.le_of_ble_eq_true rfl, Nat.le_of_ble_eq_true rfl⟩ xcf3 rfl (36 + t) (xk_T ht) (xC_tab ht) [.int v5, .int v6] rfl rfl (Nat.le_of_ble_eq_true rfl) dT_mixedInto_36 (kT_get G t ht z m v5 v6) (fun r36 => ?_)
      refine xR_i2l 39 dT_mixedInto_39 ?_
      refine xR_ladd 40 dT_mixedInto_40 ?_
      refine xR_lsn 41 ([(3, .long (((31 : Int64) * v3) + ((r36).toInt64))), (0, .ref (xa G (36 + t))), (5, .int v5), (6, .int v6)]) dT_mixedInto_41 rfl (by decide) rfl ?_
      refine xR_iinc 42 3 (v6 + 1) ([(6, .int (v6 + 1)), (3, .long (((31 : Int64) * v3) + ((r36).toInt64))), (0, .ref (xa G (36 + t))), (5, .int v5)]) dT_mixedInto_42 rfl rfl (by decide) rfl ?_
      refine xR_goto 45 17 dT_mixedInto_45 (by decide) ?_
      exact xR_sub [2, 1, 3, 0] rfl (ih (((31 : Int64) * v3) + ((r36).toInt64)) v5 (v6 + 1))
set_option maxRecDepth 100000 in
set_option maxHeartbeats 4000000 in
theorem kT_mixedInto_l5 (G : xG) (t : Nat) (ht : t < 36) (z : xM) (m : xM)   : ∀ (n : Nat) (v3 : Int64) (v5 : Int32), xR G yyT_mixedInto (eml (m, z)) 5 [(0, .ref (xa G (36 + t))), (3, .long v3), (5, .int v5)] [] (m, z) (fT_mixedInto_l5 t m n v3 v5) := by
  intro n
  induction n with
  | zero =>
    intro v3 v5
    rw [fT_mixedInto_l5]
    exact xR_none
  | succ n ih =>
    intro v3 v5
    rw [fT_mixedInto_l5]
    refine xR_il 5 2 dT_mixedInto_5 rfl ?_
    refine xR_aln 7 0 dT_mixedInto_7 rfl rfl ?_
    refine xR_getf 8 xcf3 3 (36 + t) (by decide) (xk_T ht) (xC_tab ht) (v := .int (m.1 36 t)) rfl fl_RX4_28 dT_mixedInto_8 ?_
    refine xR_icge 11 54 dT_mixedInto_11 (by decide) ?_ ?_
    · refine xR_lln 54 1 dT_mixedInto_54 rfl rfl ?_
      exact xR_lret 55 rfl rfl dT_mixedInto_55
    · refine xR_ic 14 (0 : Int32) dT_mixedInto_14 (by decide) ?_
      refine xR_is 15 ([(6, .int (0 : Int32)), (0, .ref (xa G (36 + t))), (3, .long v3), (5, .int v5)]) dT_mixedInto_15 (by decide) rfl ?_
      exact xR_sub [1, 2, 3, 0] rfl (kT_mixedInto_l17 G t ht z m (fT_mixedInto_l5 t m n) ih xfu v3 v5 (0 : Int32))
set_option maxRecDepth 100000 in
set_option maxHeartbeats 4000000 in
theorem kT_mixedInto (G : xG) (t : Nat) (ht : t < 36) (z : xM) (m : xM) (v1 : Int64) : ∀ a, fT_mixedInto t m v1 = some a → xCt G yyT_mixedInto [.ref (xa G (36 + t)), .long v1] (m, z) (some (.long a)) (m, z) := by
  refine xR_ct (em := (eml (m, z))) rfl (Nat.le_of_ble_eq_true rfl) ?_
  show xR G yyT_mixedInto _ 0 [(0, .ref (xa G (36 + t))), (1, .long v1)] [] _ _
  unfold fT_mixedInto
  refine xR_lln 0 1 dT_mixedInto_0 rfl rfl ?_
  refine xR_lsn 1 ([(3, .long v1), (0, .ref (xa G (36 + t))), (1, .long v1)]) dT_mixedInto_1 rfl (by decide) rfl ?_
  refine xR_ic 2 (0 : Int32) dT_mixedInto_2 (by decide) ?_
  refine xR_is 3 ([(5, .int (0 : Int32)), (3, .long v1), (0, .ref (xa G (36 + t))), (1, .long v1)]) dT_mixedInto_3 (by decide) rfl ?_
  exact xR_sub [2, 1, 0] rfl (kT_mixedInto_l5 G t ht z m xfu v1 (0 : Int32))
theorem dM_in_0 : decode (xb yyM_in) 0 = .ok (.lload_n 0, 1) := by decide +kernel
theorem dM_in_1 : decode (xb yyM_in) 1 = .ok (.lload_n 2, 1) := by decide +kernel
theorem dM_in_2 : decode (xb yyM_in) 2 = .ok (.lcmp, 1) := by decide +kernel
theorem dM_in_3 : decode (xb yyM_in) 3 = .ok (.ifCond .lt 14, 3) := by decide +kernel
theorem dM_in_6 : decode (xb yyM_in) 6 = .ok (.lload_n 0, 1) := by decide +kernel
theorem dM_in_7 : decode (xb yyM_in) 7 = .ok (.lload 4, 2) := by decide +kernel
theorem dM_in_9 : decode (xb yyM_in) 9 = .ok (.lcmp, 1) := by decide +kernel
theorem dM_in_10 : decode (xb yyM_in) 10 = .ok (.ifCond .gt 7, 3) := by decide +kernel
theorem dM_in_13 : decode (xb yyM_in) 13 = .ok (.iconst 1, 1) := by decide +kernel
theorem dM_in_14 : decode (xb yyM_in) 14 = .ok (.goto 4, 3) := by decide +kernel
theorem dM_in_17 : decode (xb yyM_in) 17 = .ok (.iconst 0, 1) := by decide +kernel
theorem dM_in_18 : decode (xb yyM_in) 18 = .ok (.ireturn, 1) := by decide +kernel
def fM_in  (v0 : Int64) (v2 : Int64) (v4 : Int64) : Option (Int32) := (if (lg_cmp v0 v2) < 0 then some (xnb (0 : Int32)) else (if 0 < (lg_cmp v0 v4) then some (xnb (0 : Int32)) else some (xnb (1 : Int32))))
set_option maxRecDepth 100000 in
set_option maxHeartbeats 4000000 in
theorem kM_in (G : xG)   (S : xS)  (v0 : Int64) (v2 : Int64) (v4 : Int64) : ∀ a, fM_in  v0 v2 v4 = some a → xCt G yyM_in [.long v0, .long v2, .long v4] S (some (.int a)) S := by
  refine xR_ct (em := (emi S)) rfl (Nat.le_of_ble_eq_true rfl) ?_
  show xR G yyM_in _ 0 [(0, .long v0), (2, .long v2), (4, .long v4)] [] _ _
  unfold fM_in
  refine xR_lln 0 0 dM_in_0 rfl rfl ?_
  refine xR_lln 1 1 dM_in_1 rfl rfl ?_
  refine xR_lcmp 2 dM_in_2 ?_
  refine xR_iflt 3 17 dM_in_3 (by decide) ?_ ?_
  · refine xR_ic 17 (0 : Int32) dM_in_17 (by decide) ?_
    exact xR_zret 18 rfl rfl dM_in_18
  · refine xR_lln 6 0 dM_in_6 rfl rfl ?_
    refine xR_ll 7 2 dM_in_7 rfl ?_
    refine xR_lcmp 9 dM_in_9 ?_
    refine xR_ifgt 10 17 dM_in_10 (by decide) ?_ ?_
    · refine xR_ic 17 (0 : Int32) dM_in_17 (by decide) ?_
      exact xR_zret 18 rfl rfl dM_in_18
    · refine xR_ic 13 (1 : Int32) dM_in_13 (by decide) ?_
      refine xR_goto 14 18 dM_in_14 (by decide) ?_
      exact xR_zret 18 rfl rfl dM_in_18
theorem dM_has_0 : decode (xb yyM_has) 0 = .ok (.iload_n 0, 1) := by decide +kernel
theorem dM_has_1 : decode (xb yyM_has) 1 = .ok (.iload_n 1, 1) := by decide +kernel
theorem dM_has_2 : decode (xb yyM_has) 2 = .ok (.ishr, 1) := by decide +kernel
theorem dM_has_3 : decode (xb yyM_has) 3 = .ok (.iconst 1, 1) := by decide +kernel
theorem dM_has_4 : decode (xb yyM_has) 4 = .ok (.iand, 1) := by decide +kernel
theorem dM_has_5 : decode (xb yyM_has) 5 = .ok (.iconst 1, 1) := by decide +kernel
theorem dM_has_6 : decode (xb yyM_has) 6 = .ok (.if_icmp .ne 7, 3) := by decide +kernel
theorem dM_has_9 : decode (xb yyM_has) 9 = .ok (.iconst 1, 1) := by decide +kernel
theorem dM_has_10 : decode (xb yyM_has) 10 = .ok (.goto 4, 3) := by decide +kernel
theorem dM_has_13 : decode (xb yyM_has) 13 = .ok (.iconst 0, 1) := by decide +kernel
theorem dM_has_14 : decode (xb yyM_has) 14 = .ok (.ireturn, 1) := by decide +kernel
def fM_has  (v0 : Int32) (v1 : Int32) : Option (Int32) := (if ((v0 >>> (v1 &&& 31)) &&& (1 : Int32)) = (1 : Int32) then some (xnb (1 : Int32)) else some (xnb (0 : Int32)))
set_option maxRecDepth 100000 in
set_option maxHeartbeats 4000000 in
theorem kM_has (G : xG)   (S : xS)  (v0 : Int32) (v1 : Int32) : ∀ a, fM_has  v0 v1 = some a → xCt G yyM_has [.int v0, .int v1] S (some (.int a)) S := by
  refine xR_ct (em := (emi S)) rfl (Nat.le_of_ble_eq_true rfl) ?_
  show xR G yyM_has _ 0 [(0, .int v0), (1, .int v1)] [] _ _
  unfold fM_has
  refine xR_iln 0 0 dM_has_0 rfl rfl ?_
  refine xR_iln 1 1 dM_has_1 rfl rfl ?_
  refine xR_ishr 2 dM_has_2 ?_
  refine xR_ic 3 (1 : Int32) dM_has_3 (by decide) ?_
  refine xR_iand 4 dM_has_4 ?_
  refine xR_ic 5 (1 : Int32) dM_has_5 (by decide) ?_
  refine xR_icne 6 13 dM_has_6 (by decide) ?_ ?_
  · refine xR_ic 13 (0 : Int32) dM_has_13 (by decide) ?_
    exact xR_zret 14 rfl rfl dM_has_14
  · refine xR_ic 9 (1 : Int32) dM_has_9 (by decide) ?_
    refine xR_goto 10 14 dM_has_10 (by decide) ?_
    exact xR_zret 14 rfl rfl dM_has_14
theorem dM_ones_0 : decode (xb yyM_ones) 0 = .ok (.iconst 0, 1) := by decide +kernel
theorem dM_ones_1 : decode (xb yyM_ones) 1 = .ok (.istore_n 1, 1) := by decide +kernel
theorem dM_ones_2 : decode (xb yyM_ones) 2 = .ok (.iconst 0, 1) := by decide +kernel
theorem dM_ones_3 : decode (xb yyM_ones) 3 = .ok (.istore_n 2, 1) := by decide +kernel
theorem dM_ones_4 : decode (xb yyM_ones) 4 = .ok (.iload_n 2, 1) := by decide +kernel
theorem dM_ones_5 : decode (xb yyM_ones) 5 = .ok (.bipush 6, 2) := by decide +kernel
theorem dM_ones_7 : decode (xb yyM_ones) 7 = .ok (.if_icmp .ge 17, 3) := by decide +kernel
theorem dM_ones_10 : decode (xb yyM_ones) 10 = .ok (.iload_n 1, 1) := by decide +kernel
theorem dM_ones_11 : decode (xb yyM_ones) 11 = .ok (.iload_n 0, 1) := by decide +kernel
theorem dM_ones_12 : decode (xb yyM_ones) 12 = .ok (.iload_n 2, 1) := by decide +kernel
theorem dM_ones_13 : decode (xb yyM_ones) 13 = .ok (.ishr, 1) := by decide +kernel
theorem dM_ones_14 : decode (xb yyM_ones) 14 = .ok (.iconst 1, 1) := by decide +kernel
theorem dM_ones_15 : decode (xb yyM_ones) 15 = .ok (.iand, 1) := by decide +kernel
theorem dM_ones_16 : decode (xb yyM_ones) 16 = .ok (.iadd, 1) := by decide +kernel
theorem dM_ones_17 : decode (xb yyM_ones) 17 = .ok (.istore_n 1, 1) := by decide +kernel
theorem dM_ones_18 : decode (xb yyM_ones) 18 = .ok (.iinc 2 1, 3) := by decide +kernel
theorem dM_ones_21 : decode (xb yyM_ones) 21 = .ok (.goto (-17), 3) := by decide +kernel
theorem dM_ones_24 : decode (xb yyM_ones) 24 = .ok (.iload_n 1, 1) := by decide +kernel
theorem dM_ones_25 : decode (xb yyM_ones) 25 = .ok (.ireturn, 1) := by decide +kernel
def fM_ones_l4  : Nat → Int32 → Int32 → Int32 → Option (Int32)
  | 0, _, _, _ => none
  | n + 1, v0, v1, v2 => (if (6 : Int32) ≤ v2 then some v1 else fM_ones_l4 n v0 (v1 + ((v0 >>> (v2 &&& 31)) &&& (1 : Int32))) (v2 + 1))
def fM_ones  (v0 : Int32) : Option (Int32) := fM_ones_l4 xfu v0 (0 : Int32) (0 : Int32)
set_option maxRecDepth 100000 in
set_option maxHeartbeats 4000000 in
theorem kM_ones_l4 (G : xG)   (S : xS)    : ∀ (n : Nat) (v0 : Int32) (v1 : Int32) (v2 : Int32), xR G yyM_ones (emi S) 4 [(0, .int v0), (1, .int v1), (2, .int v2)] [] S (fM_ones_l4  n v0 v1 v2) := by
  intro n
  induction n with
  | zero =>
    intro v0 v1 v2
    rw [fM_ones_l4]
    exact xR_none
  | succ n ih =>
    intro v0 v1 v2
    rw [fM_ones_l4]
    refine xR_iln 4 2 dM_ones_4 rfl rfl ?_
    refine xR_bp 5 (6 : Int32) dM_ones_5 (by decide) ?_
    refine xR_icge 7 24 dM_ones_7 (by decide) ?_ ?_
    · refine xR_iln 24 1 dM_ones_24 rfl rfl ?_
      exact xR_iret 25 rfl rfl dM_ones_25
    · refine xR_iln 10 1 dM_ones_10 rfl rfl ?_
      refine xR_iln 11 0 dM_ones_11 rfl rfl ?_
      refine xR_iln 12 2 dM_ones_12 rfl rfl ?_
      refine xR_ishr 13 dM_ones_13 ?_
      refine xR_ic 14 (1 : Int32) dM_ones_14 (by decide) ?_
      refine xR_iand 15 dM_ones_15 ?_
      refine xR_iadd 16 dM_ones_16 ?_
      refine xR_isn 17 ([(1, .int (v1 + ((v0 >>> (v2 &&& 31)) &&& (1 : Int32)))), (0, .int v0), (2, .int v2)]) dM_ones_17 rfl (by decide) rfl ?_
      refine xR_iinc 18 2 (v2 + 1) ([(2, .int (v2 + 1)), (1, .int (v1 + ((v0 >>> (v2 &&& 31)) &&& (1 : Int32)))), (0, .int v0)]) dM_ones_18 rfl rfl (by decide) rfl ?_
      refine xR_goto 21 4 dM_ones_21 (by decide) ?_
      exact xR_sub [2, 1, 0] rfl (ih v0 (v1 + ((v0 >>> (v2 &&& 31)) &&& (1 : Int32))) (v2 + 1))
set_option maxRecDepth 100000 in
set_option maxHeartbeats 4000000 in
theorem kM_ones (G : xG)   (S : xS)  (v0 : Int32) : ∀ a, fM_ones  v0 = some a → xCt G yyM_ones [.int v0] S (some (.int a)) S := by
  refine xR_ct (em := (emi S)) rfl (Nat.le_of_ble_eq_true rfl) ?_
  show xR G yyM_ones _ 0 [(0, .int v0)] [] _ _
  unfold fM_ones
  refine xR_ic 0 (0 : Int32) dM_ones_0 (by decide) ?_
  refine xR_isn 1 ([(1, .int (0 : Int32)), (0, .int v0)]) dM_ones_1 rfl (by decide) rfl ?_
  refine xR_ic 2 (0 : Int32) dM_ones_2 (by decide) ?_
  refine xR_isn 3 ([(2, .int (0 : Int32)), (1, .int (0 : Int32)), (0, .int v0)]) dM_ones_3 rfl (by decide) rfl ?_
  exact xR_sub [2, 1, 0] rfl (kM_ones_l4 G S xfu v0 (0 : Int32) (0 : Int32))
theorem dM_isString_0 : decode (xb yyM_isString) 0 = .ok (.iload_n 0, 1) := by decide +kernel
theorem dM_isString_1 : decode (xb yyM_isString) 1 = .ok (.i2l, 1) := by decide +kernel
theorem dM_isString_2 : decode (xb yyM_isString) 2 = .ok (.lconst 0, 1) := by decide +kernel
theorem dM_isString_3 : decode (xb yyM_isString) 3 = .ok (.ldc2_w 44, 3) := by decide +kernel
theorem dM_isString_6 : decode (xb yyM_isString) 6 = .ok (.invokestatic 40, 3) := by decide +kernel
theorem dM_isString_9 : decode (xb yyM_isString) 9 = .ok (.ireturn, 1) := by decide +kernel
def fM_isString  (v0 : Int32) : Option (Int32) := (fM_in ((v0).toInt64) (0 : Int64) (3 : Int64)).bind fun r6 => some (xnb r6)
set_option maxRecDepth 100000 in
set_option maxHeartbeats 4000000 in
theorem kM_isString (G : xG)   (S : xS)  (v0 : Int32) : ∀ a, fM_isString  v0 = some a → xCt G yyM_isString [.int v0] S (some (.int a)) S := by
  refine xR_ct (em := (emi S)) rfl (Nat.le_of_ble_eq_true rfl) ?_
  show xR G yyM_isString _ 0 [(0, .int v0)] [] _ _
  unfold fM_isString
  refine xR_iln 0 0 dM_isString_0 rfl rfl ?_
  refine xR_i2l 1 dM_isString_1 ?_
  refine xR_lc 2 (0 : Int64) dM_isString_2 (by decide) ?_
  refine xR_ldc2 3 cl_RX9_44 dM_isString_3 ?_
  refine xR_callSi 6 cs_M_in ml_RX9_40 ⟨Nat.le_of_ble_eq_true rfl, Nat.le_of_ble_eq_true rfl⟩ [.long ((v0).toInt64), .long (0 : Int64), .long (3 : Int64)] rfl rfl (Nat.le_of_ble_eq_true rfl) dM_isString_6 (kM_in G S ((v0).toInt64) (0 : Int64) (3 : Int64)) (fun r6 => ?_)
  exact xR_zret 9 rfl rfl dM_isString_9
theorem dM_door_0 : decode (xb yyM_door) 0 = .ok (.iload_n 0, 1) := by decide +kernel
theorem dM_door_1 : decode (xb yyM_door) 1 = .ok (.iconst 4, 1) := by decide +kernel
theorem dM_door_2 : decode (xb yyM_door) 2 = .ok (.idiv, 1) := by decide +kernel
theorem dM_door_3 : decode (xb yyM_door) 3 = .ok (.bipush 6, 2) := by decide +kernel
theorem dM_door_5 : decode (xb yyM_door) 5 = .ok (.iadd, 1) := by decide +kernel
theorem dM_door_6 : decode (xb yyM_door) 6 = .ok (.iload_n 1, 1) := by decide +kernel
theorem dM_door_7 : decode (xb yyM_door) 7 = .ok (.isub, 1) := by decide +kernel
theorem dM_door_8 : decode (xb yyM_door) 8 = .ok (.istore_n 2, 1) := by decide +kernel
theorem dM_door_9 : decode (xb yyM_door) 9 = .ok (.iload_n 2, 1) := by decide +kernel
theorem dM_door_10 : decode (xb yyM_door) 10 = .ok (.ifCond .ge 7, 3) := by decide +kernel
theorem dM_door_13 : decode (xb yyM_door) 13 = .ok (.iconst 0, 1) := by decide +kernel
theorem dM_door_14 : decode (xb yyM_door) 14 = .ok (.goto 4, 3) := by decide +kernel
theorem dM_door_17 : decode (xb yyM_door) 17 = .ok (.iload_n 2, 1) := by decide +kernel
theorem dM_door_18 : decode (xb yyM_door) 18 = .ok (.ireturn, 1) := by decide +kernel
def fM_door  (v0 : Int32) (v1 : Int32) : Option (Int32) := (if 0 ≤ (((v0 / (4 : Int32)) + (6 : Int32)) - v1) then some (((v0 / (4 : Int32)) + (6 : Int32)) - v1) else some (0 : Int32))
set_option maxRecDepth 100000 in
set_option maxHeartbeats 4000000 in
theorem kM_door (G : xG)   (S : xS)  (v0 : Int32) (v1 : Int32) : ∀ a, fM_door  v0 v1 = some a → xCt G yyM_door [.int v0, .int v1] S (some (.int a)) S := by
  refine xR_ct (em := (emi S)) rfl (Nat.le_of_ble_eq_true rfl) ?_
  show xR G yyM_door _ 0 [(0, .int v0), (1, .int v1)] [] _ _
  unfold fM_door
  refine xR_iln 0 0 dM_door_0 rfl rfl ?_
  refine xR_ic 1 (4 : Int32) dM_door_1 (by decide) ?_
  refine xR_idiv 2 dM_door_2 (by decide) ?_
  refine xR_bp 3 (6 : Int32) dM_door_3 (by decide) ?_
  refine xR_iadd 5 dM_door_5 ?_
  refine xR_iln 6 1 dM_door_6 rfl rfl ?_
  refine xR_isub 7 dM_door_7 ?_
  refine xR_isn 8 ([(2, .int (((v0 / (4 : Int32)) + (6 : Int32)) - v1)), (0, .int v0), (1, .int v1)]) dM_door_8 rfl (by decide) rfl ?_
  refine xR_iln 9 0 dM_door_9 rfl rfl ?_
  refine xR_ifge 10 17 dM_door_10 (by decide) ?_ ?_
  · refine xR_iln 17 0 dM_door_17 rfl rfl ?_
    exact xR_iret 18 rfl rfl dM_door_18
  · refine xR_ic 13 (0 : Int32) dM_door_13 (by decide) ?_
    refine xR_goto 14 18 dM_door_14 (by decide) ?_
    exact xR_iret 18 rfl rfl dM_door_18
theorem dM_stair_0 : decode (xb yyM_stair) 0 = .ok (.iload_n 0, 1) := by decide +kernel
theorem dM_stair_1 : decode (xb yyM_stair) 1 = .ok (.iconst 2, 1) := by decide +kernel
theorem dM_stair_2 : decode (xb yyM_stair) 2 = .ok (.if_icmp .ne 13, 3) := by decide +kernel
theorem dM_stair_5 : decode (xb yyM_stair) 5 = .ok (.iload_n 1, 1) := by decide +kernel
theorem dM_stair_6 : decode (xb yyM_stair) 6 = .ok (.iload_n 2, 1) := by decide +kernel
theorem dM_stair_7 : decode (xb yyM_stair) 7 = .ok (.invokestatic 46, 3) := by decide +kernel
theorem dM_stair_10 : decode (xb yyM_stair) 10 = .ok (.iconst 3, 1) := by decide +kernel
theorem dM_stair_11 : decode (xb yyM_stair) 11 = .ok (.iadd, 1) := by decide +kernel
theorem dM_stair_12 : decode (xb yyM_stair) 12 = .ok (.goto 8, 3) := by decide +kernel
theorem dM_stair_15 : decode (xb yyM_stair) 15 = .ok (.iload_n 1, 1) := by decide +kernel
theorem dM_stair_16 : decode (xb yyM_stair) 16 = .ok (.iload_n 2, 1) := by decide +kernel
theorem dM_stair_17 : decode (xb yyM_stair) 17 = .ok (.invokestatic 46, 3) := by decide +kernel
theorem dM_stair_20 : decode (xb yyM_stair) 20 = .ok (.ireturn, 1) := by decide +kernel
def fM_stair  (v0 : Int32) (v1 : Int32) (v2 : Int32) : Option (Int32) := (if v0 = (2 : Int32) then (fM_door v1 v2).bind fun r7 => some (r7 + (3 : Int32)) else (fM_door v1 v2).bind fun r17 => some r17)
set_option maxRecDepth 100000 in
set_option maxHeartbeats 4000000 in
theorem kM_stair (G : xG)   (S : xS)  (v0 : Int32) (v1 : Int32) (v2 : Int32) : ∀ a, fM_stair  v0 v1 v2 = some a → xCt G yyM_stair [.int v0, .int v1, .int v2] S (some (.int a)) S := by
  refine xR_ct (em := (emi S)) rfl (Nat.le_of_ble_eq_true rfl) ?_
  show xR G yyM_stair _ 0 [(0, .int v0), (1, .int v1), (2, .int v2)] [] _ _
  unfold fM_stair
  refine xR_iln 0 0 dM_stair_0 rfl rfl ?_
  refine xR_ic 1 (2 : Int32) dM_stair_1 (by decide) ?_
  refine xR_icne 2 15 dM_stair_2 (by decide) ?_ ?_
  · refine xR_iln 15 1 dM_stair_15 rfl rfl ?_
    refine xR_iln 16 2 dM_stair_16 rfl rfl ?_
    refine xR_callSi 17 cs_M_door ml_RX9_46 ⟨Nat.le_of_ble_eq_true rfl, Nat.le_of_ble_eq_true rfl⟩ [.int v1, .int v2] rfl rfl (Nat.le_of_ble_eq_true rfl) dM_stair_17 (kM_door G S v1 v2) (fun r17 => ?_)
    exact xR_iret 20 rfl rfl dM_stair_20
  · refine xR_iln 5 1 dM_stair_5 rfl rfl ?_
    refine xR_iln 6 2 dM_stair_6 rfl rfl ?_
    refine xR_callSi 7 cs_M_door ml_RX9_46 ⟨Nat.le_of_ble_eq_true rfl, Nat.le_of_ble_eq_true rfl⟩ [.int v1, .int v2] rfl rfl (Nat.le_of_ble_eq_true rfl) dM_stair_7 (kM_door G S v1 v2) (fun r7 => ?_)
    refine xR_ic 10 (3 : Int32) dM_stair_10 (by decide) ?_
    refine xR_iadd 11 dM_stair_11 ?_
    refine xR_goto 12 20 dM_stair_12 (by decide) ?_
    exact xR_iret 20 rfl rfl dM_stair_20
theorem dM_sill_0 : decode (xb yyM_sill) 0 = .ok (.iload_n 0, 1) := by decide +kernel
theorem dM_sill_1 : decode (xb yyM_sill) 1 = .ok (.iconst 3, 1) := by decide +kernel
theorem dM_sill_2 : decode (xb yyM_sill) 2 = .ok (.if_icmp .ne 13, 3) := by decide +kernel
theorem dM_sill_5 : decode (xb yyM_sill) 5 = .ok (.iconst 2, 1) := by decide +kernel
theorem dM_sill_6 : decode (xb yyM_sill) 6 = .ok (.iload_n 1, 1) := by decide +kernel
theorem dM_sill_7 : decode (xb yyM_sill) 7 = .ok (.iload_n 2, 1) := by decide +kernel
theorem dM_sill_8 : decode (xb yyM_sill) 8 = .ok (.invokestatic 46, 3) := by decide +kernel
theorem dM_sill_11 : decode (xb yyM_sill) 11 = .ok (.imul, 1) := by decide +kernel
theorem dM_sill_12 : decode (xb yyM_sill) 12 = .ok (.goto 8, 3) := by decide +kernel
theorem dM_sill_15 : decode (xb yyM_sill) 15 = .ok (.iload_n 1, 1) := by decide +kernel
theorem dM_sill_16 : decode (xb yyM_sill) 16 = .ok (.iload_n 2, 1) := by decide +kernel
theorem dM_sill_17 : decode (xb yyM_sill) 17 = .ok (.invokestatic 46, 3) := by decide +kernel
theorem dM_sill_20 : decode (xb yyM_sill) 20 = .ok (.ireturn, 1) := by decide +kernel
def fM_sill  (v0 : Int32) (v1 : Int32) (v2 : Int32) : Option (Int32) := (if v0 = (3 : Int32) then (fM_door v1 v2).bind fun r8 => some ((2 : Int32) * r8) else (fM_door v1 v2).bind fun r17 => some r17)
set_option maxRecDepth 100000 in
set_option maxHeartbeats 4000000 in
theorem kM_sill (G : xG)   (S : xS)  (v0 : Int32) (v1 : Int32) (v2 : Int32) : ∀ a, fM_sill  v0 v1 v2 = some a → xCt G yyM_sill [.int v0, .int v1, .int v2] S (some (.int a)) S := by
  refine xR_ct (em := (emi S)) rfl (Nat.le_of_ble_eq_true rfl) ?_
  show xR G yyM_sill _ 0 [(0, .int v0), (1, .int v1), (2, .int v2)] [] _ _
  unfold fM_sill
  refine xR_iln 0 0 dM_sill_0 rfl rfl ?_
  refine xR_ic 1 (3 : Int32) dM_sill_1 (by decide) ?_
  refine xR_icne 2 15 dM_sill_2 (by decide) ?_ ?_
  · refine xR_iln 15 1 dM_sill_15 rfl rfl ?_
    refine xR_iln 16 2 dM_sill_16 rfl rfl ?_
    refine xR_callSi 17 cs_M_door ml_RX9_46 ⟨Nat.le_of_ble_eq_true rfl, Nat.le_of_ble_eq_true rfl⟩ [.int v1, .int v2] rfl rfl (Nat.le_of_ble_eq_true rfl) dM_sill_17 (kM_door G S v1 v2) (fun r17 => ?_)
    exact xR_iret 20 rfl rfl dM_sill_20
  · refine xR_ic 5 (2 : Int32) dM_sill_5 (by decide) ?_
    refine xR_iln 6 1 dM_sill_6 rfl rfl ?_
    refine xR_iln 7 2 dM_sill_7 rfl rfl ?_
    refine xR_callSi 8 cs_M_door ml_RX9_46 ⟨Nat.le_of_ble_eq_true rfl, Nat.le_of_ble_eq_true rfl⟩ [.int v1, .int v2] rfl rfl (Nat.le_of_ble_eq_true rfl) dM_sill_8 (kM_door G S v1 v2) (fun r8 => ?_)
    refine xR_imul 11 dM_sill_11 ?_
    refine xR_goto 12 20 dM_sill_12 (by decide) ?_
    exact xR_iret 20 rfl rfl dM_sill_20
theorem dM_soundOf_0 : decode (xb yyM_soundOf) 0 = .ok (.iload_n 0, 1) := by decide +kernel
theorem dM_soundOf_1 : decode (xb yyM_soundOf) 1 = .ok (.tableswitch 101 1 5 #[35, 42, 49, 70, 92], 35) := by decide +kernel
theorem dM_soundOf_36 : decode (xb yyM_soundOf) 36 = .ok (.iload_n 1, 1) := by decide +kernel
theorem dM_soundOf_37 : decode (xb yyM_soundOf) 37 = .ok (.iload_n 2, 1) := by decide +kernel
theorem dM_soundOf_38 : decode (xb yyM_soundOf) 38 = .ok (.iload_n 3, 1) := by decide +kernel
theorem dM_soundOf_39 : decode (xb yyM_soundOf) 39 = .ok (.invokestatic 50, 3) := by decide +kernel
theorem dM_soundOf_42 : decode (xb yyM_soundOf) 42 = .ok (.ireturn, 1) := by decide +kernel
theorem dM_soundOf_43 : decode (xb yyM_soundOf) 43 = .ok (.iload_n 1, 1) := by decide +kernel
theorem dM_soundOf_44 : decode (xb yyM_soundOf) 44 = .ok (.iload_n 2, 1) := by decide +kernel
theorem dM_soundOf_45 : decode (xb yyM_soundOf) 45 = .ok (.iload_n 3, 1) := by decide +kernel
theorem dM_soundOf_46 : decode (xb yyM_soundOf) 46 = .ok (.invokestatic 54, 3) := by decide +kernel
theorem dM_soundOf_49 : decode (xb yyM_soundOf) 49 = .ok (.ireturn, 1) := by decide +kernel
theorem dM_soundOf_50 : decode (xb yyM_soundOf) 50 = .ok (.iload_n 1, 1) := by decide +kernel
theorem dM_soundOf_51 : decode (xb yyM_soundOf) 51 = .ok (.iconst 2, 1) := by decide +kernel
theorem dM_soundOf_52 : decode (xb yyM_soundOf) 52 = .ok (.if_icmp .ge 11, 3) := by decide +kernel
theorem dM_soundOf_55 : decode (xb yyM_soundOf) 55 = .ok (.iload_n 2, 1) := by decide +kernel
theorem dM_soundOf_56 : decode (xb yyM_soundOf) 56 = .ok (.iload_n 3, 1) := by decide +kernel
theorem dM_soundOf_57 : decode (xb yyM_soundOf) 57 = .ok (.invokestatic 46, 3) := by decide +kernel
theorem dM_soundOf_60 : decode (xb yyM_soundOf) 60 = .ok (.goto 10, 3) := by decide +kernel
theorem dM_soundOf_63 : decode (xb yyM_soundOf) 63 = .ok (.iload_n 2, 1) := by decide +kernel
theorem dM_soundOf_64 : decode (xb yyM_soundOf) 64 = .ok (.iload_n 3, 1) := by decide +kernel
theorem dM_soundOf_65 : decode (xb yyM_soundOf) 65 = .ok (.invokestatic 46, 3) := by decide +kernel
theorem dM_soundOf_68 : decode (xb yyM_soundOf) 68 = .ok (.iconst 5, 1) := by decide +kernel
theorem dM_soundOf_69 : decode (xb yyM_soundOf) 69 = .ok (.iadd, 1) := by decide +kernel
theorem dM_soundOf_70 : decode (xb yyM_soundOf) 70 = .ok (.ireturn, 1) := by decide +kernel
theorem dM_soundOf_71 : decode (xb yyM_soundOf) 71 = .ok (.iload_n 1, 1) := by decide +kernel
theorem dM_soundOf_72 : decode (xb yyM_soundOf) 72 = .ok (.ifCond .ne 14, 3) := by decide +kernel
theorem dM_soundOf_75 : decode (xb yyM_soundOf) 75 = .ok (.iload_n 1, 1) := by decide +kernel
theorem dM_soundOf_76 : decode (xb yyM_soundOf) 76 = .ok (.iload_n 2, 1) := by decide +kernel
theorem dM_soundOf_77 : decode (xb yyM_soundOf) 77 = .ok (.iconst 0, 1) := by decide +kernel
theorem dM_soundOf_78 : decode (xb yyM_soundOf) 78 = .ok (.invokestatic 50, 3) := by decide +kernel
theorem dM_soundOf_81 : decode (xb yyM_soundOf) 81 = .ok (.iconst 4, 1) := by decide +kernel
theorem dM_soundOf_82 : decode (xb yyM_soundOf) 82 = .ok (.iadd, 1) := by decide +kernel
theorem dM_soundOf_83 : decode (xb yyM_soundOf) 83 = .ok (.goto 9, 3) := by decide +kernel
theorem dM_soundOf_86 : decode (xb yyM_soundOf) 86 = .ok (.iload_n 1, 1) := by decide +kernel
theorem dM_soundOf_87 : decode (xb yyM_soundOf) 87 = .ok (.iload_n 2, 1) := by decide +kernel
theorem dM_soundOf_88 : decode (xb yyM_soundOf) 88 = .ok (.iconst 0, 1) := by decide +kernel
theorem dM_soundOf_89 : decode (xb yyM_soundOf) 89 = .ok (.invokestatic 50, 3) := by decide +kernel
theorem dM_soundOf_92 : decode (xb yyM_soundOf) 92 = .ok (.ireturn, 1) := by decide +kernel
theorem dM_soundOf_93 : decode (xb yyM_soundOf) 93 = .ok (.iload_n 1, 1) := by decide +kernel
theorem dM_soundOf_94 : decode (xb yyM_soundOf) 94 = .ok (.iload_n 2, 1) := by decide +kernel
theorem dM_soundOf_95 : decode (xb yyM_soundOf) 95 = .ok (.iload_n 3, 1) := by decide +kernel
theorem dM_soundOf_96 : decode (xb yyM_soundOf) 96 = .ok (.invokestatic 54, 3) := by decide +kernel
theorem dM_soundOf_99 : decode (xb yyM_soundOf) 99 = .ok (.iconst 3, 1) := by decide +kernel
theorem dM_soundOf_100 : decode (xb yyM_soundOf) 100 = .ok (.idiv, 1) := by decide +kernel
theorem dM_soundOf_101 : decode (xb yyM_soundOf) 101 = .ok (.ireturn, 1) := by decide +kernel
theorem dM_soundOf_102 : decode (xb yyM_soundOf) 102 = .ok (.iload_n 2, 1) := by decide +kernel
theorem dM_soundOf_103 : decode (xb yyM_soundOf) 103 = .ok (.iload_n 3, 1) := by decide +kernel
theorem dM_soundOf_104 : decode (xb yyM_soundOf) 104 = .ok (.invokestatic 46, 3) := by decide +kernel
theorem dM_soundOf_107 : decode (xb yyM_soundOf) 107 = .ok (.ireturn, 1) := by decide +kernel
def fM_soundOf  (v0 : Int32) (v1 : Int32) (v2 : Int32) (v3 : Int32) : Option (Int32) := (if v0 = (1 : Int32) then (fM_stair v1 v2 v3).bind fun r39 => some r39 else (if v0 = (2 : Int32) then (fM_sill v1 v2 v3).bind fun r46 => some r46 else (if v0 = (3 : Int32) then (if (2 : Int32) ≤ v1 then (fM_door v2 v3).bind fun r65 => some (r65 + (5 : Int32)) else (fM_door v2 v3).bind fun r57 => some r57) else (if v0 = (4 : Int32) then (if v1 = 0 then (fM_stair v1 v2 (0 : Int32)).bind fun r78 => some (r78 + (4 : Int32)) else (fM_stair v1 v2 (0 : Int32)).bind fun r89 => some r89) else (if v0 = (5 : Int32) then (fM_sill v1 v2 v3).bind fun r96 => some (r96 / (3 : Int32)) else (fM_door v2 v3).bind fun r104 => some r104)))))
set_option maxRecDepth 100000 in
set_option maxHeartbeats 4000000 in
theorem kM_soundOf (G : xG)   (S : xS)  (v0 : Int32) (v1 : Int32) (v2 : Int32) (v3 : Int32) : ∀ a, fM_soundOf  v0 v1 v2 v3 = some a → xCt G yyM_soundOf [.int v0, .int v1, .int v2, .int v3] S (some (.int a)) S := by
  refine xR_ct (em := (emi S)) rfl (Nat.le_of_ble_eq_true rfl) ?_
  show xR G yyM_soundOf _ 0 [(0, .int v0), (1, .int v1), (2, .int v2), (3, .int v3)] [] _ _
  unfold fM_soundOf
  refine xR_iln 0 0 dM_soundOf_0 rfl rfl ?_
  refine xR_tsw 1 36 (1 : Int32) dM_soundOf_1 (by decide) (by decide) rfl (by decide) ?_ (fun hs1_0 => ?_)
  · refine xR_iln 36 1 dM_soundOf_36 rfl rfl ?_
    refine xR_iln 37 2 dM_soundOf_37 rfl rfl ?_
    refine xR_iln 38 3 dM_soundOf_38 rfl rfl ?_
    refine xR_callSi 39 cs_M_stair ml_RX9_50 ⟨Nat.le_of_ble_eq_true rfl, Nat.le_of_ble_eq_true rfl⟩ [.int v1, .int v2, .int v3] rfl rfl (Nat.le_of_ble_eq_true rfl) dM_soundOf_39 (kM_stair G S v1 v2 v3) (fun r39 => ?_)
    exact xR_iret 42 rfl rfl dM_soundOf_42
  refine xR_tsw 1 43 (2 : Int32) dM_soundOf_1 (by decide) (by decide) rfl (by decide) ?_ (fun hs1_1 => ?_)
  · refine xR_iln 43 1 dM_soundOf_43 rfl rfl ?_
    refine xR_iln 44 2 dM_soundOf_44 rfl rfl ?_
    refine xR_iln 45 3 dM_soundOf_45 rfl rfl ?_
    refine xR_callSi 46 cs_M_sill ml_RX9_54 ⟨Nat.le_of_ble_eq_true rfl, Nat.le_of_ble_eq_true rfl⟩ [.int v1, .int v2, .int v3] rfl rfl (Nat.le_of_ble_eq_true rfl) dM_soundOf_46 (kM_sill G S v1 v2 v3) (fun r46 => ?_)
    exact xR_iret 49 rfl rfl dM_soundOf_49
  refine xR_tsw 1 50 (3 : Int32) dM_soundOf_1 (by decide) (by decide) rfl (by decide) ?_ (fun hs1_2 => ?_)
  · refine xR_iln 50 1 dM_soundOf_50 rfl rfl ?_
    refine xR_ic 51 (2 : Int32) dM_soundOf_51 (by decide) ?_
    refine xR_icge 52 63 dM_soundOf_52 (by decide) ?_ ?_
    · refine xR_iln 63 2 dM_soundOf_63 rfl rfl ?_
      refine xR_iln 64 3 dM_soundOf_64 rfl rfl ?_
      refine xR_callSi 65 cs_M_door ml_RX9_46 ⟨Nat.le_of_ble_eq_true rfl, Nat.le_of_ble_eq_true rfl⟩ [.int v2, .int v3] rfl rfl (Nat.le_of_ble_eq_true rfl) dM_soundOf_65 (kM_door G S v2 v3) (fun r65 => ?_)
      refine xR_ic 68 (5 : Int32) dM_soundOf_68 (by decide) ?_
      refine xR_iadd 69 dM_soundOf_69 ?_
      exact xR_iret 70 rfl rfl dM_soundOf_70
    · refine xR_iln 55 2 dM_soundOf_55 rfl rfl ?_
      refine xR_iln 56 3 dM_soundOf_56 rfl rfl ?_
      refine xR_callSi 57 cs_M_door ml_RX9_46 ⟨Nat.le_of_ble_eq_true rfl, Nat.le_of_ble_eq_true rfl⟩ [.int v2, .int v3] rfl rfl (Nat.le_of_ble_eq_true rfl) dM_soundOf_57 (kM_door G S v2 v3) (fun r57 => ?_)
      refine xR_goto 60 70 dM_soundOf_60 (by decide) ?_
      exact xR_iret 70 rfl rfl dM_soundOf_70
  refine xR_tsw 1 71 (4 : Int32) dM_soundOf_1 (by decide) (by decide) rfl (by decide) ?_ (fun hs1_3 => ?_)
  · refine xR_iln 71 1 dM_soundOf_71 rfl rfl ?_
    refine xR_ifne 72 86 dM_soundOf_72 (by decide) ?_ ?_
    · refine xR_iln 86 1 dM_soundOf_86 rfl rfl ?_
      refine xR_iln 87 2 dM_soundOf_87 rfl rfl ?_
      refine xR_ic 88 (0 : Int32) dM_soundOf_88 (by decide) ?_
      refine xR_callSi 89 cs_M_stair ml_RX9_50 ⟨Nat.le_of_ble_eq_true rfl, Nat.le_of_ble_eq_true rfl⟩ [.int v1, .int v2, .int (0 : Int32)] rfl rfl (Nat.le_of_ble_eq_true rfl) dM_soundOf_89 (kM_stair G S v1 v2 (0 : Int32)) (fun r89 => ?_)
      exact xR_iret 92 rfl rfl dM_soundOf_92
    · refine xR_iln 75 1 dM_soundOf_75 rfl rfl ?_
      refine xR_iln 76 2 dM_soundOf_76 rfl rfl ?_
      refine xR_ic 77 (0 : Int32) dM_soundOf_77 (by decide) ?_
      refine xR_callSi 78 cs_M_stair ml_RX9_50 ⟨Nat.le_of_ble_eq_true rfl, Nat.le_of_ble_eq_true rfl⟩ [.int v1, .int v2, .int (0 : Int32)] rfl rfl (Nat.le_of_ble_eq_true rfl) dM_soundOf_78 (kM_stair G S v1 v2 (0 : Int32)) (fun r78 => ?_)
      refine xR_ic 81 (4 : Int32) dM_soundOf_81 (by decide) ?_
      refine xR_iadd 82 dM_soundOf_82 ?_
      refine xR_goto 83 92 dM_soundOf_83 (by decide) ?_
      exact xR_iret 92 rfl rfl dM_soundOf_92
  refine xR_tsw 1 93 (5 : Int32) dM_soundOf_1 (by decide) (by decide) rfl (by decide) ?_ (fun hs1_4 => ?_)
  · refine xR_iln 93 1 dM_soundOf_93 rfl rfl ?_
    refine xR_iln 94 2 dM_soundOf_94 rfl rfl ?_
    refine xR_iln 95 3 dM_soundOf_95 rfl rfl ?_
    refine xR_callSi 96 cs_M_sill ml_RX9_54 ⟨Nat.le_of_ble_eq_true rfl, Nat.le_of_ble_eq_true rfl⟩ [.int v1, .int v2, .int v3] rfl rfl (Nat.le_of_ble_eq_true rfl) dM_soundOf_96 (kM_sill G S v1 v2 v3) (fun r96 => ?_)
    refine xR_ic 99 (3 : Int32) dM_soundOf_99 (by decide) ?_
    refine xR_idiv 100 dM_soundOf_100 (by decide) ?_
    exact xR_iret 101 rfl rfl dM_soundOf_101
  refine xR_tso 1 102 dM_soundOf_1 (by have e0 := lv_neT hs1_0 (a := 1) rfl; have e1 := lv_neT hs1_1 (a := 2) rfl; have e2 := lv_neT hs1_2 (a := 3) rfl; have e3 := lv_neT hs1_3 (a := 4) rfl; have e4 := lv_neT hs1_4 (a := 5) rfl; omega) (by decide) ?_
  refine xR_iln 102 2 dM_soundOf_102 rfl rfl ?_
  refine xR_iln 103 3 dM_soundOf_103 rfl rfl ?_
  refine xR_callSi 104 cs_M_door ml_RX9_46 ⟨Nat.le_of_ble_eq_true rfl, Nat.le_of_ble_eq_true rfl⟩ [.int v2, .int v3] rfl rfl (Nat.le_of_ble_eq_true rfl) dM_soundOf_104 (kM_door G S v2 v3) (fun r104 => ?_)
  exact xR_iret 107 rfl rfl dM_soundOf_107
theorem dM_lent_0 : decode (xb yyM_lent) 0 = .ok (.iload_n 1, 1) := by decide +kernel
theorem dM_lent_1 : decode (xb yyM_lent) 1 = .ok (.iconst 2, 1) := by decide +kernel
theorem dM_lent_2 : decode (xb yyM_lent) 2 = .ok (.if_icmp .ge 7, 3) := by decide +kernel
theorem dM_lent_5 : decode (xb yyM_lent) 5 = .ok (.iconst 0, 1) := by decide +kernel
theorem dM_lent_6 : decode (xb yyM_lent) 6 = .ok (.goto 8, 3) := by decide +kernel
theorem dM_lent_9 : decode (xb yyM_lent) 9 = .ok (.iconst 3, 1) := by decide +kernel
theorem dM_lent_10 : decode (xb yyM_lent) 10 = .ok (.iload_n 1, 1) := by decide +kernel
theorem dM_lent_11 : decode (xb yyM_lent) 11 = .ok (.iconst 1, 1) := by decide +kernel
theorem dM_lent_12 : decode (xb yyM_lent) 12 = .ok (.isub, 1) := by decide +kernel
theorem dM_lent_13 : decode (xb yyM_lent) 13 = .ok (.imul, 1) := by decide +kernel
theorem dM_lent_14 : decode (xb yyM_lent) 14 = .ok (.istore_n 2, 1) := by decide +kernel
theorem dM_lent_15 : decode (xb yyM_lent) 15 = .ok (.iload_n 0, 1) := by decide +kernel
theorem dM_lent_16 : decode (xb yyM_lent) 16 = .ok (.iload_n 2, 1) := by decide +kernel
theorem dM_lent_17 : decode (xb yyM_lent) 17 = .ok (.if_icmp .ge 7, 3) := by decide +kernel
theorem dM_lent_20 : decode (xb yyM_lent) 20 = .ok (.iconst 0, 1) := by decide +kernel
theorem dM_lent_21 : decode (xb yyM_lent) 21 = .ok (.goto 6, 3) := by decide +kernel
theorem dM_lent_24 : decode (xb yyM_lent) 24 = .ok (.iload_n 0, 1) := by decide +kernel
theorem dM_lent_25 : decode (xb yyM_lent) 25 = .ok (.iload_n 2, 1) := by decide +kernel
theorem dM_lent_26 : decode (xb yyM_lent) 26 = .ok (.isub, 1) := by decide +kernel
theorem dM_lent_27 : decode (xb yyM_lent) 27 = .ok (.ireturn, 1) := by decide +kernel
def fM_lent_b14  (v0 : Int32) (s0 : Int32) : Option (Int32) := (if s0 ≤ v0 then some (v0 - s0) else some (0 : Int32))
def fM_lent  (v0 : Int32) (v1 : Int32) : Option (Int32) := (if (2 : Int32) ≤ v1 then fM_lent_b14 v0 ((3 : Int32) * (v1 - (1 : Int32))) else fM_lent_b14 v0 (0 : Int32))
set_option maxRecDepth 100000 in
set_option maxHeartbeats 4000000 in
theorem kM_lent_b14 (G : xG)   (S : xS)    (v0 : Int32) (s0 : Int32) : xR G yyM_lent (emi S) 14 [(0, .int v0)] [.int s0] S (fM_lent_b14  v0 s0) := by
  unfold fM_lent_b14
  refine xR_isn 14 ([(2, .int s0), (0, .int v0)]) dM_lent_14 rfl (by decide) rfl ?_
  refine xR_iln 15 1 dM_lent_15 rfl rfl ?_
  refine xR_iln 16 0 dM_lent_16 rfl rfl ?_
  refine xR_icge 17 24 dM_lent_17 (by decide) ?_ ?_
  · refine xR_iln 24 1 dM_lent_24 rfl rfl ?_
    refine xR_iln 25 0 dM_lent_25 rfl rfl ?_
    refine xR_isub 26 dM_lent_26 ?_
    exact xR_iret 27 rfl rfl dM_lent_27
  · refine xR_ic 20 (0 : Int32) dM_lent_20 (by decide) ?_
    refine xR_goto 21 27 dM_lent_21 (by decide) ?_
    exact xR_iret 27 rfl rfl dM_lent_27
set_option maxRecDepth 100000 in
set_option maxHeartbeats 4000000 in
theorem kM_lent (G : xG)   (S : xS)  (v0 : Int32) (v1 : Int32) : ∀ a, fM_lent  v0 v1 = some a → xCt G yyM_lent [.int v0, .int v1] S (some (.int a)) S := by
  refine xR_ct (em := (emi S)) rfl (Nat.le_of_ble_eq_true rfl) ?_
  show xR G yyM_lent _ 0 [(0, .int v0), (1, .int v1)] [] _ _
  unfold fM_lent
  refine xR_iln 0 1 dM_lent_0 rfl rfl ?_
  refine xR_ic 1 (2 : Int32) dM_lent_1 (by decide) ?_
  refine xR_icge 2 9 dM_lent_2 (by decide) ?_ ?_
  · refine xR_ic 9 (3 : Int32) dM_lent_9 (by decide) ?_
    refine xR_iln 10 1 dM_lent_10 rfl rfl ?_
    refine xR_ic 11 (1 : Int32) dM_lent_11 (by decide) ?_
    refine xR_isub 12 dM_lent_12 ?_
    refine xR_imul 13 dM_lent_13 ?_
    exact xR_sub [0] rfl (kM_lent_b14 G S v0 ((3 : Int32) * (v1 - (1 : Int32))))
  · refine xR_ic 5 (0 : Int32) dM_lent_5 (by decide) ?_
    refine xR_goto 6 14 dM_lent_6 (by decide) ?_
    exact xR_sub [0] rfl (kM_lent_b14 G S v0 (0 : Int32))
theorem dM_playOf_0 : decode (xb yyM_playOf) 0 = .ok (.iload_n 0, 1) := by decide +kernel
theorem dM_playOf_1 : decode (xb yyM_playOf) 1 = .ok (.tableswitch 107 1 5 #[35, 41, 53, 68, 86], 35) := by decide +kernel
theorem dM_playOf_36 : decode (xb yyM_playOf) 36 = .ok (.iload_n 2, 1) := by decide +kernel
theorem dM_playOf_37 : decode (xb yyM_playOf) 37 = .ok (.iload_n 3, 1) := by decide +kernel
theorem dM_playOf_38 : decode (xb yyM_playOf) 38 = .ok (.invokestatic 57, 3) := by decide +kernel
theorem dM_playOf_41 : decode (xb yyM_playOf) 41 = .ok (.ireturn, 1) := by decide +kernel
theorem dM_playOf_42 : decode (xb yyM_playOf) 42 = .ok (.iload_n 1, 1) := by decide +kernel
theorem dM_playOf_43 : decode (xb yyM_playOf) 43 = .ok (.ifCond .ne 9, 3) := by decide +kernel
theorem dM_playOf_46 : decode (xb yyM_playOf) 46 = .ok (.iconst 2, 1) := by decide +kernel
theorem dM_playOf_47 : decode (xb yyM_playOf) 47 = .ok (.iload_n 2, 1) := by decide +kernel
theorem dM_playOf_48 : decode (xb yyM_playOf) 48 = .ok (.imul, 1) := by decide +kernel
theorem dM_playOf_49 : decode (xb yyM_playOf) 49 = .ok (.goto 4, 3) := by decide +kernel
theorem dM_playOf_52 : decode (xb yyM_playOf) 52 = .ok (.iload_n 2, 1) := by decide +kernel
theorem dM_playOf_53 : decode (xb yyM_playOf) 53 = .ok (.ireturn, 1) := by decide +kernel
theorem dM_playOf_54 : decode (xb yyM_playOf) 54 = .ok (.iload_n 3, 1) := by decide +kernel
theorem dM_playOf_55 : decode (xb yyM_playOf) 55 = .ok (.iconst 3, 1) := by decide +kernel
theorem dM_playOf_56 : decode (xb yyM_playOf) 56 = .ok (.if_icmp .lt 7, 3) := by decide +kernel
theorem dM_playOf_59 : decode (xb yyM_playOf) 59 = .ok (.iconst 0, 1) := by decide +kernel
theorem dM_playOf_60 : decode (xb yyM_playOf) 60 = .ok (.goto 8, 3) := by decide +kernel
theorem dM_playOf_63 : decode (xb yyM_playOf) 63 = .ok (.iload_n 2, 1) := by decide +kernel
theorem dM_playOf_64 : decode (xb yyM_playOf) 64 = .ok (.iload_n 3, 1) := by decide +kernel
theorem dM_playOf_65 : decode (xb yyM_playOf) 65 = .ok (.invokestatic 57, 3) := by decide +kernel
theorem dM_playOf_68 : decode (xb yyM_playOf) 68 = .ok (.ireturn, 1) := by decide +kernel
theorem dM_playOf_69 : decode (xb yyM_playOf) 69 = .ok (.iload_n 1, 1) := by decide +kernel
theorem dM_playOf_70 : decode (xb yyM_playOf) 70 = .ok (.iconst 3, 1) := by decide +kernel
theorem dM_playOf_71 : decode (xb yyM_playOf) 71 = .ok (.if_icmp .ne 10, 3) := by decide +kernel
theorem dM_playOf_74 : decode (xb yyM_playOf) 74 = .ok (.iload_n 2, 1) := by decide +kernel
theorem dM_playOf_75 : decode (xb yyM_playOf) 75 = .ok (.iload 4, 2) := by decide +kernel
theorem dM_playOf_77 : decode (xb yyM_playOf) 77 = .ok (.iadd, 1) := by decide +kernel
theorem dM_playOf_78 : decode (xb yyM_playOf) 78 = .ok (.goto 8, 3) := by decide +kernel
theorem dM_playOf_81 : decode (xb yyM_playOf) 81 = .ok (.iload_n 2, 1) := by decide +kernel
theorem dM_playOf_82 : decode (xb yyM_playOf) 82 = .ok (.iconst 1, 1) := by decide +kernel
theorem dM_playOf_83 : decode (xb yyM_playOf) 83 = .ok (.iadd, 1) := by decide +kernel
theorem dM_playOf_84 : decode (xb yyM_playOf) 84 = .ok (.iconst 2, 1) := by decide +kernel
theorem dM_playOf_85 : decode (xb yyM_playOf) 85 = .ok (.idiv, 1) := by decide +kernel
theorem dM_playOf_86 : decode (xb yyM_playOf) 86 = .ok (.ireturn, 1) := by decide +kernel
theorem dM_playOf_87 : decode (xb yyM_playOf) 87 = .ok (.iload_n 1, 1) := by decide +kernel
theorem dM_playOf_88 : decode (xb yyM_playOf) 88 = .ok (.ifCond .ne 9, 3) := by decide +kernel
theorem dM_playOf_91 : decode (xb yyM_playOf) 91 = .ok (.iconst 2, 1) := by decide +kernel
theorem dM_playOf_92 : decode (xb yyM_playOf) 92 = .ok (.iload_n 2, 1) := by decide +kernel
theorem dM_playOf_93 : decode (xb yyM_playOf) 93 = .ok (.imul, 1) := by decide +kernel
theorem dM_playOf_94 : decode (xb yyM_playOf) 94 = .ok (.goto 13, 3) := by decide +kernel
theorem dM_playOf_97 : decode (xb yyM_playOf) 97 = .ok (.iload_n 1, 1) := by decide +kernel
theorem dM_playOf_98 : decode (xb yyM_playOf) 98 = .ok (.iconst 1, 1) := by decide +kernel
theorem dM_playOf_99 : decode (xb yyM_playOf) 99 = .ok (.if_icmp .ne 7, 3) := by decide +kernel
theorem dM_playOf_102 : decode (xb yyM_playOf) 102 = .ok (.iload_n 2, 1) := by decide +kernel
theorem dM_playOf_103 : decode (xb yyM_playOf) 103 = .ok (.goto 4, 3) := by decide +kernel
theorem dM_playOf_106 : decode (xb yyM_playOf) 106 = .ok (.iconst 0, 1) := by decide +kernel
theorem dM_playOf_107 : decode (xb yyM_playOf) 107 = .ok (.ireturn, 1) := by decide +kernel
theorem dM_playOf_108 : decode (xb yyM_playOf) 108 = .ok (.iload_n 2, 1) := by decide +kernel
theorem dM_playOf_109 : decode (xb yyM_playOf) 109 = .ok (.ireturn, 1) := by decide +kernel
def fM_playOf  (v0 : Int32) (v1 : Int32) (v2 : Int32) (v3 : Int32) (v4 : Int32) : Option (Int32) := (if v0 = (1 : Int32) then (fM_lent v2 v3).bind fun r38 => some r38 else (if v0 = (2 : Int32) then (if v1 = 0 then some ((2 : Int32) * v2) else some v2) else (if v0 = (3 : Int32) then (if v3 < (3 : Int32) then (fM_lent v2 v3).bind fun r65 => some r65 else some (0 : Int32)) else (if v0 = (4 : Int32) then (if v1 = (3 : Int32) then some (v2 + v4) else some ((v2 + (1 : Int32)) / (2 : Int32))) else (if v0 = (5 : Int32) then (if v1 = 0 then some ((2 : Int32) * v2) else (if v1 = (1 : Int32) then some v2 else some (0 : Int32))) else some v2)))))
set_option maxRecDepth 100000 in
set_option maxHeartbeats 4000000 in
theorem kM_playOf (G : xG)   (S : xS)  (v0 : Int32) (v1 : Int32) (v2 : Int32) (v3 : Int32) (v4 : Int32) : ∀ a, fM_playOf  v0 v1 v2 v3 v4 = some a → xCt G yyM_playOf [.int v0, .int v1, .int v2, .int v3, .int v4] S (some (.int a)) S := by
  refine xR_ct (em := (emi S)) rfl (Nat.le_of_ble_eq_true rfl) ?_
  show xR G yyM_playOf _ 0 [(0, .int v0), (1, .int v1), (2, .int v2), (3, .int v3), (4, .int v4)] [] _ _
  unfold fM_playOf
  refine xR_iln 0 0 dM_playOf_0 rfl rfl ?_
  refine xR_tsw 1 36 (1 : Int32) dM_playOf_1 (by decide) (by decide) rfl (by decide) ?_ (fun hs1_0 => ?_)
  · refine xR_iln 36 2 dM_playOf_36 rfl rfl ?_
    refine xR_iln 37 3 dM_playOf_37 rfl rfl ?_
    refine xR_callSi 38 cs_M_lent ml_RX9_57 ⟨Nat.le_of_ble_eq_true rfl, Nat.le_of_ble_eq_true rfl⟩ [.int v2, .int v3] rfl rfl (Nat.le_of_ble_eq_true rfl) dM_playOf_38 (kM_lent G S v2 v3) (fun r38 => ?_)
    exact xR_iret 41 rfl rfl dM_playOf_41
  refine xR_tsw 1 42 (2 : Int32) dM_playOf_1 (by decide) (by decide) rfl (by decide) ?_ (fun hs1_1 => ?_)
  · refine xR_iln 42 1 dM_playOf_42 rfl rfl ?_
    refine xR_ifne 43 52 dM_playOf_43 (by decide) ?_ ?_
    · refine xR_iln 52 2 dM_playOf_52 rfl rfl ?_
      exact xR_iret 53 rfl rfl dM_playOf_53
    · refine xR_ic 46 (2 : Int32) dM_playOf_46 (by decide) ?_
      refine xR_iln 47 2 dM_playOf_47 rfl rfl ?_
      refine xR_imul 48 dM_playOf_48 ?_
      refine xR_goto 49 53 dM_playOf_49 (by decide) ?_
      exact xR_iret 53 rfl rfl dM_playOf_53
  refine xR_tsw 1 54 (3 : Int32) dM_playOf_1 (by decide) (by decide) rfl (by decide) ?_ (fun hs1_2 => ?_)
  · refine xR_iln 54 3 dM_playOf_54 rfl rfl ?_
    refine xR_ic 55 (3 : Int32) dM_playOf_55 (by decide) ?_
    refine xR_iclt 56 63 dM_playOf_56 (by decide) ?_ ?_
    · refine xR_iln 63 2 dM_playOf_63 rfl rfl ?_
      refine xR_iln 64 3 dM_playOf_64 rfl rfl ?_
      refine xR_callSi 65 cs_M_lent ml_RX9_57 ⟨Nat.le_of_ble_eq_true rfl, Nat.le_of_ble_eq_true rfl⟩ [.int v2, .int v3] rfl rfl (Nat.le_of_ble_eq_true rfl) dM_playOf_65 (kM_lent G S v2 v3) (fun r65 => ?_)
      exact xR_iret 68 rfl rfl dM_playOf_68
    · refine xR_ic 59 (0 : Int32) dM_playOf_59 (by decide) ?_
      refine xR_goto 60 68 dM_playOf_60 (by decide) ?_
      exact xR_iret 68 rfl rfl dM_playOf_68
  refine xR_tsw 1 69 (4 : Int32) dM_playOf_1 (by decide) (by decide) rfl (by decide) ?_ (fun hs1_3 => ?_)
  · refine xR_iln 69 1 dM_playOf_69 rfl rfl ?_
    refine xR_ic 70 (3 : Int32) dM_playOf_70 (by decide) ?_
    refine xR_icne 71 81 dM_playOf_71 (by decide) ?_ ?_
    · refine xR_iln 81 2 dM_playOf_81 rfl rfl ?_
      refine xR_ic 82 (1 : Int32) dM_playOf_82 (by decide) ?_
      refine xR_iadd 83 dM_playOf_83 ?_
      refine xR_ic 84 (2 : Int32) dM_playOf_84 (by decide) ?_
      refine xR_idiv 85 dM_playOf_85 (by decide) ?_
      exact xR_iret 86 rfl rfl dM_playOf_86
    · refine xR_iln 74 2 dM_playOf_74 rfl rfl ?_
      refine xR_il 75 4 dM_playOf_75 rfl ?_
      refine xR_iadd 77 dM_playOf_77 ?_
      refine xR_goto 78 86 dM_playOf_78 (by decide) ?_
      exact xR_iret 86 rfl rfl dM_playOf_86
  refine xR_tsw 1 87 (5 : Int32) dM_playOf_1 (by decide) (by decide) rfl (by decide) ?_ (fun hs1_4 => ?_)
  · refine xR_iln 87 1 dM_playOf_87 rfl rfl ?_
    refine xR_ifne 88 97 dM_playOf_88 (by decide) ?_ ?_
    · refine xR_iln 97 1 dM_playOf_97 rfl rfl ?_
      refine xR_ic 98 (1 : Int32) dM_playOf_98 (by decide) ?_
      refine xR_icne 99 106 dM_playOf_99 (by decide) ?_ ?_
      · refine xR_ic 106 (0 : Int32) dM_playOf_106 (by decide) ?_
        exact xR_iret 107 rfl rfl dM_playOf_107
      · refine xR_iln 102 2 dM_playOf_102 rfl rfl ?_
        refine xR_goto 103 107 dM_playOf_103 (by decide) ?_
        exact xR_iret 107 rfl rfl dM_playOf_107
    · refine xR_ic 91 (2 : Int32) dM_playOf_91 (by decide) ?_
      refine xR_iln 92 2 dM_playOf_92 rfl rfl ?_
      refine xR_imul 93 dM_playOf_93 ?_
      refine xR_goto 94 107 dM_playOf_94 (by decide) ?_
      exact xR_iret 107 rfl rfl dM_playOf_107
  refine xR_tso 1 108 dM_playOf_1 (by have e0 := lv_neT hs1_0 (a := 1) rfl; have e1 := lv_neT hs1_1 (a := 2) rfl; have e2 := lv_neT hs1_2 (a := 3) rfl; have e3 := lv_neT hs1_3 (a := 4) rfl; have e4 := lv_neT hs1_4 (a := 5) rfl; omega) (by decide) ?_
  refine xR_iln 108 2 dM_playOf_108 rfl rfl ?_
  exact xR_iret 109 rfl rfl dM_playOf_109
theorem dM_less_0 : decode (xb yyM_less) 0 = .ok (.iload_n 0, 1) := by decide +kernel
theorem dM_less_1 : decode (xb yyM_less) 1 = .ok (.iload_n 1, 1) := by decide +kernel
theorem dM_less_2 : decode (xb yyM_less) 2 = .ok (.if_icmp .ge 7, 3) := by decide +kernel
theorem dM_less_5 : decode (xb yyM_less) 5 = .ok (.iconst 0, 1) := by decide +kernel
theorem dM_less_6 : decode (xb yyM_less) 6 = .ok (.goto 6, 3) := by decide +kernel
theorem dM_less_9 : decode (xb yyM_less) 9 = .ok (.iload_n 0, 1) := by decide +kernel
theorem dM_less_10 : decode (xb yyM_less) 10 = .ok (.iload_n 1, 1) := by decide +kernel
theorem dM_less_11 : decode (xb yyM_less) 11 = .ok (.isub, 1) := by decide +kernel
theorem dM_less_12 : decode (xb yyM_less) 12 = .ok (.ireturn, 1) := by decide +kernel
def fM_less  (v0 : Int32) (v1 : Int32) : Option (Int32) := (if v1 ≤ v0 then some (v0 - v1) else some (0 : Int32))
set_option maxRecDepth 100000 in
set_option maxHeartbeats 4000000 in
theorem kM_less (G : xG)   (S : xS)  (v0 : Int32) (v1 : Int32) : ∀ a, fM_less  v0 v1 = some a → xCt G yyM_less [.int v0, .int v1] S (some (.int a)) S := by
  refine xR_ct (em := (emi S)) rfl (Nat.le_of_ble_eq_true rfl) ?_
  show xR G yyM_less _ 0 [(0, .int v0), (1, .int v1)] [] _ _
  unfold fM_less
  refine xR_iln 0 0 dM_less_0 rfl rfl ?_
  refine xR_iln 1 1 dM_less_1 rfl rfl ?_
  refine xR_icge 2 9 dM_less_2 (by decide) ?_ ?_
  · refine xR_iln 9 0 dM_less_9 rfl rfl ?_
    refine xR_iln 10 1 dM_less_10 rfl rfl ?_
    refine xR_isub 11 dM_less_11 ?_
    exact xR_iret 12 rfl rfl dM_less_12
  · refine xR_ic 5 (0 : Int32) dM_less_5 (by decide) ?_
    refine xR_goto 6 12 dM_less_6 (by decide) ?_
    exact xR_iret 12 rfl rfl dM_less_12
theorem dM_getsBy_0 : decode (xb yyM_getsBy) 0 = .ok (.iload_n 1, 1) := by decide +kernel
theorem dM_getsBy_1 : decode (xb yyM_getsBy) 1 = .ok (.iload_n 2, 1) := by decide +kernel
theorem dM_getsBy_2 : decode (xb yyM_getsBy) 2 = .ok (.if_icmp .gt 12, 3) := by decide +kernel
theorem dM_getsBy_5 : decode (xb yyM_getsBy) 5 = .ok (.iload_n 1, 1) := by decide +kernel
theorem dM_getsBy_6 : decode (xb yyM_getsBy) 6 = .ok (.iload_n 2, 1) := by decide +kernel
theorem dM_getsBy_7 : decode (xb yyM_getsBy) 7 = .ok (.if_icmp .ne 13, 3) := by decide +kernel
theorem dM_getsBy_10 : decode (xb yyM_getsBy) 10 = .ok (.iload_n 3, 1) := by decide +kernel
theorem dM_getsBy_11 : decode (xb yyM_getsBy) 11 = .ok (.ifCond .eq 9, 3) := by decide +kernel
theorem dM_getsBy_14 : decode (xb yyM_getsBy) 14 = .ok (.iload_n 0, 1) := by decide +kernel
theorem dM_getsBy_15 : decode (xb yyM_getsBy) 15 = .ok (.iload_n 1, 1) := by decide +kernel
theorem dM_getsBy_16 : decode (xb yyM_getsBy) 16 = .ok (.isub, 1) := by decide +kernel
theorem dM_getsBy_17 : decode (xb yyM_getsBy) 17 = .ok (.goto 7, 3) := by decide +kernel
theorem dM_getsBy_20 : decode (xb yyM_getsBy) 20 = .ok (.iload_n 1, 1) := by decide +kernel
theorem dM_getsBy_21 : decode (xb yyM_getsBy) 21 = .ok (.iconst 2, 1) := by decide +kernel
theorem dM_getsBy_22 : decode (xb yyM_getsBy) 22 = .ok (.idiv, 1) := by decide +kernel
theorem dM_getsBy_23 : decode (xb yyM_getsBy) 23 = .ok (.ineg, 1) := by decide +kernel
theorem dM_getsBy_24 : decode (xb yyM_getsBy) 24 = .ok (.ireturn, 1) := by decide +kernel
def fM_getsBy  (v0 : Int32) (v1 : Int32) (v2 : Int32) (v3 : Int32) : Option (Int32) := (if v2 < v1 then some (v0 - v1) else (if v1 = v2 then (if v3 = 0 then some (-(v1 / (2 : Int32))) else some (v0 - v1)) else some (-(v1 / (2 : Int32)))))
set_option maxRecDepth 100000 in
set_option maxHeartbeats 4000000 in
theorem kM_getsBy (G : xG)   (S : xS)  (v0 : Int32) (v1 : Int32) (v2 : Int32) (v3 : Int32) : ∀ a, fM_getsBy  v0 v1 v2 v3 = some a → xCt G yyM_getsBy [.int v0, .int v1, .int v2, .int v3] S (some (.int a)) S := by
  refine xR_ct (em := (emi S)) rfl (Nat.le_of_ble_eq_true rfl) ?_
  show xR G yyM_getsBy _ 0 [(0, .int v0), (1, .int v1), (2, .int v2), (3, .int v3)] [] _ _
  unfold fM_getsBy
  refine xR_iln 0 1 dM_getsBy_0 rfl rfl ?_
  refine xR_iln 1 2 dM_getsBy_1 rfl rfl ?_
  refine xR_icgt 2 14 dM_getsBy_2 (by decide) ?_ ?_
  · refine xR_iln 14 0 dM_getsBy_14 rfl rfl ?_
    refine xR_iln 15 1 dM_getsBy_15 rfl rfl ?_
    refine xR_isub 16 dM_getsBy_16 ?_
    refine xR_goto 17 24 dM_getsBy_17 (by decide) ?_
    exact xR_iret 24 rfl rfl dM_getsBy_24
  · refine xR_iln 5 1 dM_getsBy_5 rfl rfl ?_
    refine xR_iln 6 2 dM_getsBy_6 rfl rfl ?_
    refine xR_icne 7 20 dM_getsBy_7 (by decide) ?_ ?_
    · refine xR_iln 20 1 dM_getsBy_20 rfl rfl ?_
      refine xR_ic 21 (2 : Int32) dM_getsBy_21 (by decide) ?_
      refine xR_idiv 22 dM_getsBy_22 (by decide) ?_
      refine xR_ineg 23 dM_getsBy_23 ?_
      exact xR_iret 24 rfl rfl dM_getsBy_24
    · refine xR_iln 10 3 dM_getsBy_10 rfl rfl ?_
      refine xR_ifeq 11 20 dM_getsBy_11 (by decide) ?_ ?_
      · refine xR_iln 20 1 dM_getsBy_20 rfl rfl ?_
        refine xR_ic 21 (2 : Int32) dM_getsBy_21 (by decide) ?_
        refine xR_idiv 22 dM_getsBy_22 (by decide) ?_
        refine xR_ineg 23 dM_getsBy_23 ?_
        exact xR_iret 24 rfl rfl dM_getsBy_24
      · refine xR_iln 14 0 dM_getsBy_14 rfl rfl ?_
        refine xR_iln 15 1 dM_getsBy_15 rfl rfl ?_
        refine xR_isub 16 dM_getsBy_16 ?_
        refine xR_goto 17 24 dM_getsBy_17 (by decide) ?_
        exact xR_iret 24 rfl rfl dM_getsBy_24
theorem dM_rests_0 : decode (xb yyM_rests) 0 = .ok (.iconst 1, 1) := by decide +kernel
theorem dM_rests_1 : decode (xb yyM_rests) 1 = .ok (.istore_n 3, 1) := by decide +kernel
theorem dM_rests_2 : decode (xb yyM_rests) 2 = .ok (.iconst 0, 1) := by decide +kernel
theorem dM_rests_3 : decode (xb yyM_rests) 3 = .ok (.istore 4, 2) := by decide +kernel
theorem dM_rests_5 : decode (xb yyM_rests) 5 = .ok (.iload 4, 2) := by decide +kernel
theorem dM_rests_7 : decode (xb yyM_rests) 7 = .ok (.bipush 10, 2) := by decide +kernel
theorem dM_rests_9 : decode (xb yyM_rests) 9 = .ok (.if_icmp .ge 55, 3) := by decide +kernel
theorem dM_rests_12 : decode (xb yyM_rests) 12 = .ok (.iload_n 3, 1) := by decide +kernel
theorem dM_rests_13 : decode (xb yyM_rests) 13 = .ok (.ifCond .eq 43, 3) := by decide +kernel
theorem dM_rests_16 : decode (xb yyM_rests) 16 = .ok (.iload_n 0, 1) := by decide +kernel
theorem dM_rests_17 : decode (xb yyM_rests) 17 = .ok (.iload 4, 2) := by decide +kernel
theorem dM_rests_19 : decode (xb yyM_rests) 19 = .ok (.iload_n 2, 1) := by decide +kernel
theorem dM_rests_20 : decode (xb yyM_rests) 20 = .ok (.iconst 1, 1) := by decide +kernel
theorem dM_rests_21 : decode (xb yyM_rests) 21 = .ok (.invokestatic 249, 3) := by decide +kernel
theorem dM_rests_24 : decode (xb yyM_rests) 24 = .ok (.iload_n 0, 1) := by decide +kernel
theorem dM_rests_25 : decode (xb yyM_rests) 25 = .ok (.iload_n 1, 1) := by decide +kernel
theorem dM_rests_26 : decode (xb yyM_rests) 26 = .ok (.iload_n 2, 1) := by decide +kernel
theorem dM_rests_27 : decode (xb yyM_rests) 27 = .ok (.iconst 1, 1) := by decide +kernel
theorem dM_rests_28 : decode (xb yyM_rests) 28 = .ok (.invokestatic 249, 3) := by decide +kernel
theorem dM_rests_31 : decode (xb yyM_rests) 31 = .ok (.if_icmp .gt 25, 3) := by decide +kernel
theorem dM_rests_34 : decode (xb yyM_rests) 34 = .ok (.iload_n 0, 1) := by decide +kernel
theorem dM_rests_35 : decode (xb yyM_rests) 35 = .ok (.iload 4, 2) := by decide +kernel
theorem dM_rests_37 : decode (xb yyM_rests) 37 = .ok (.iload_n 1, 1) := by decide +kernel
theorem dM_rests_38 : decode (xb yyM_rests) 38 = .ok (.iconst 0, 1) := by decide +kernel
theorem dM_rests_39 : decode (xb yyM_rests) 39 = .ok (.invokestatic 249, 3) := by decide +kernel
theorem dM_rests_42 : decode (xb yyM_rests) 42 = .ok (.iload_n 0, 1) := by decide +kernel
theorem dM_rests_43 : decode (xb yyM_rests) 43 = .ok (.iload_n 2, 1) := by decide +kernel
theorem dM_rests_44 : decode (xb yyM_rests) 44 = .ok (.iload_n 1, 1) := by decide +kernel
theorem dM_rests_45 : decode (xb yyM_rests) 45 = .ok (.iconst 0, 1) := by decide +kernel
theorem dM_rests_46 : decode (xb yyM_rests) 46 = .ok (.invokestatic 249, 3) := by decide +kernel
theorem dM_rests_49 : decode (xb yyM_rests) 49 = .ok (.if_icmp .gt 7, 3) := by decide +kernel
theorem dM_rests_52 : decode (xb yyM_rests) 52 = .ok (.iconst 1, 1) := by decide +kernel
theorem dM_rests_53 : decode (xb yyM_rests) 53 = .ok (.goto 4, 3) := by decide +kernel
theorem dM_rests_56 : decode (xb yyM_rests) 56 = .ok (.iconst 0, 1) := by decide +kernel
theorem dM_rests_57 : decode (xb yyM_rests) 57 = .ok (.istore_n 3, 1) := by decide +kernel
theorem dM_rests_58 : decode (xb yyM_rests) 58 = .ok (.iinc 4 1, 3) := by decide +kernel
theorem dM_rests_61 : decode (xb yyM_rests) 61 = .ok (.goto (-56), 3) := by decide +kernel
theorem dM_rests_64 : decode (xb yyM_rests) 64 = .ok (.iload_n 3, 1) := by decide +kernel
theorem dM_rests_65 : decode (xb yyM_rests) 65 = .ok (.ireturn, 1) := by decide +kernel
def fM_rests_b57 (k5 : Int32 → Int32 → Int32 → Int32 → Int32 → Option (Int32)) (v0 : Int32) (v1 : Int32) (v2 : Int32) (v4 : Int32) (s0 : Int32) : Option (Int32) := k5 v0 v1 v2 s0 (v4 + 1)
def fM_rests_b56 (k5 : Int32 → Int32 → Int32 → Int32 → Int32 → Option (Int32)) (v0 : Int32) (v1 : Int32) (v2 : Int32) (v4 : Int32) : Option (Int32) := fM_rests_b57 k5 v0 v1 v2 v4 (0 : Int32)
def fM_rests_l5  : Nat → Int32 → Int32 → Int32 → Int32 → Int32 → Option (Int32)
  | 0, _, _, _, _, _ => none
  | n + 1, v0, v1, v2, v3, v4 => (if (10 : Int32) ≤ v4 then some (xnb v3) else (if v3 = 0 then fM_rests_b56 (fM_rests_l5 n) v0 v1 v2 v4 else (fM_getsBy v0 v4 v2 (1 : Int32)).bind fun r21 => (fM_getsBy v0 v1 v2 (1 : Int32)).bind fun r28 => (if r28 < r21 then fM_rests_b56 (fM_rests_l5 n) v0 v1 v2 v4 else (fM_getsBy v0 v4 v1 (0 : Int32)).bind fun r39 => (fM_getsBy v0 v2 v1 (0 : Int32)).bind fun r46 => (if r46 < r39 then fM_rests_b56 (fM_rests_l5 n) v0 v1 v2 v4 else fM_rests_b57 (fM_rests_l5 n) v0 v1 v2 v4 (1 : Int32)))))
def fM_rests  (v0 : Int32) (v1 : Int32) (v2 : Int32) : Option (Int32) := fM_rests_l5 xfu v0 v1 v2 (1 : Int32) (0 : Int32)
set_option maxRecDepth 100000 in
set_option maxHeartbeats 4000000 in
theorem kM_rests_b57 (G : xG)   (S : xS)  (k5 : Int32 → Int32 → Int32 → Int32 → Int32 → Option (Int32)) (hk5 : ∀ (v0 : Int32) (v1 : Int32) (v2 : Int32) (v3 : Int32) (v4 : Int32), xR G yyM_rests (emi S) 5 [(0, .int v0), (1, .int v1), (2, .int v2), (3, .int v3), (4, .int v4)] [] S (k5 v0 v1 v2 v3 v4)) (v0 : Int32) (v1 : Int32) (v2 : Int32) (v4 : Int32) (s0 : Int32) : xR G yyM_rests (emi S) 57 [(0, .int v0), (1, .int v1), (2, .int v2), (4, .int v4)] [.int s0] S (fM_rests_b57 k5 v0 v1 v2 v4 s0) := by
  unfold fM_rests_b57
  refine xR_isn 57 ([(3, .int s0), (0, .int v0), (1, .int v1), (2, .int v2), (4, .int v4)]) dM_rests_57 rfl (by decide) rfl ?_
  refine xR_iinc 58 4 (v4 + 1) ([(4, .int (v4 + 1)), (3, .int s0), (0, .int v0), (1, .int v1), (2, .int v2)]) dM_rests_58 rfl rfl (by decide) rfl ?_
  refine xR_goto 61 5 dM_rests_61 (by decide) ?_
  exact xR_sub [2, 3, 4, 1, 0] rfl (hk5 v0 v1 v2 s0 (v4 + 1))
set_option maxRecDepth 100000 in
set_option maxHeartbeats 4000000 in
theorem kM_rests_b56 (G : xG)   (S : xS)  (k5 : Int32 → Int32 → Int32 → Int32 → Int32 → Option (Int32)) (hk5 : ∀ (v0 : Int32) (v1 : Int32) (v2 : Int32) (v3 : Int32) (v4 : Int32), xR G yyM_rests (emi S) 5 [(0, .int v0), (1, .int v1), (2, .int v2), (3, .int v3), (4, .int v4)] [] S (k5 v0 v1 v2 v3 v4)) (v0 : Int32) (v1 : Int32) (v2 : Int32) (v4 : Int32) : xR G yyM_rests (emi S) 56 [(0, .int v0), (1, .int v1), (2, .int v2), (4, .int v4)] [] S (fM_rests_b56 k5 v0 v1 v2 v4) := by
  unfold fM_rests_b56
  refine xR_ic 56 (0 : Int32) dM_rests_56 (by decide) ?_
  exact kM_rests_b57 G S k5 hk5 v0 v1 v2 v4 (0 : Int32)
set_option maxRecDepth 100000 in
set_option maxHeartbeats 4000000 in
theorem kM_rests_l5 (G : xG)   (S : xS)    : ∀ (n : Nat) (v0 : Int32) (v1 : Int32) (v2 : Int32) (v3 : Int32) (v4 : Int32), xR G yyM_rests (emi S) 5 [(0, .int v0), (1, .int v1), (2, .int v2), (3, .int v3), (4, .int v4)] [] S (fM_rests_l5  n v0 v1 v2 v3 v4) := by
  intro n
  induction n with
  | zero =>
    intro v0 v1 v2 v3 v4
    rw [fM_rests_l5]
    exact xR_none
  | succ n ih =>
    intro v0 v1 v2 v3 v4
    rw [fM_rests_l5]
    refine xR_il 5 4 dM_rests_5 rfl ?_
    refine xR_bp 7 (10 : Int32) dM_rests_7 (by decide) ?_
    refine xR_icge 9 64 dM_rests_9 (by decide) ?_ ?_
    · refine xR_iln 64 3 dM_rests_64 rfl rfl ?_
      exact xR_zret 65 rfl rfl dM_rests_65
    · refine xR_iln 12 3 dM_rests_12 rfl rfl ?_
      refine xR_ifeq 13 56 dM_rests_13 (by decide) ?_ ?_
      · exact xR_sub [0, 1, 2, 4] rfl (kM_rests_b56 G S (fM_rests_l5 n) ih v0 v1 v2 v4)
      · refine xR_iln 16 0 dM_rests_16 rfl rfl ?_
        refine xR_il 17 4 dM_rests_17 rfl ?_
        refine xR_iln 19 2 dM_rests_19 rfl rfl ?_
        refine xR_ic 20 (1 : Int32) dM_rests_20 (by decide) ?_
        refine xR_callSi 21 cs_M_getsBy ml_RX9_249 ⟨Nat.le_of_ble_eq_true rfl, Nat.le_of_ble_eq_true rfl⟩ [.int v0, .int v4, .int v2, .int (1 : Int32)] rfl rfl (Nat.le_of_ble_eq_true rfl) dM_rests_21 (kM_getsBy G S v0 v4 v2 (1 : Int32)) (fun r21 => ?_)
        refine xR_iln 24 0 dM_rests_24 rfl rfl ?_
        refine xR_iln 25 1 dM_rests_25 rfl rfl ?_
        refine xR_iln 26 2 dM_rests_26 rfl rfl ?_
        refine xR_ic 27 (1 : Int32) dM_rests_27 (by decide) ?_
        refine xR_callSi 28 cs_M_getsBy ml_RX9_249 ⟨Nat.le_of_ble_eq_true rfl, Nat.le_of_ble_eq_true rfl⟩ [.int v0, .int v1, .int v2, .int (1 : Int32)] rfl rfl (Nat.le_of_ble_eq_true rfl) dM_rests_28 (kM_getsBy G S v0 v1 v2 (1 : Int32)) (fun r28 => ?_)
        refine xR_icgt 31 56 dM_rests_31 (by decide) ?_ ?_
        · exact xR_sub [0, 1, 2, 4] rfl (kM_rests_b56 G S (fM_rests_l5 n) ih v0 v1 v2 v4)
        · refine xR_iln 34 0 dM_rests_34 rfl rfl ?_
          refine xR_il 35 4 dM_rests_35 rfl ?_
          refine xR_iln 37 1 dM_rests_37 rfl rfl ?_
          refine xR_ic 38 (0 : Int32) dM_rests_38 (by decide) ?_
          refine xR_callSi 39 cs_M_getsBy ml_RX9_249 ⟨Nat.le_of_ble_eq_true rfl, Nat.le_of_ble_eq_true rfl⟩ [.int v0, .int v4, .int v1, .int (0 : Int32)] rfl rfl (Nat.le_of_ble_eq_true rfl) dM_rests_39 (kM_getsBy G S v0 v4 v1 (0 : Int32)) (fun r39 => ?_)
          refine xR_iln 42 0 dM_rests_42 rfl rfl ?_
          refine xR_iln 43 2 dM_rests_43 rfl rfl ?_
          refine xR_iln 44 1 dM_rests_44 rfl rfl ?_
          refine xR_ic 45 (0 : Int32) dM_rests_45 (by decide) ?_
          refine xR_callSi 46 cs_M_getsBy ml_RX9_249 ⟨Nat.le_of_ble_eq_true rfl, Nat.le_of_ble_eq_true rfl⟩ [.int v0, .int v2, .int v1, .int (0 : Int32)] rfl rfl (Nat.le_of_ble_eq_true rfl) dM_rests_46 (kM_getsBy G S v0 v2 v1 (0 : Int32)) (fun r46 => ?_)
          refine xR_icgt 49 56 dM_rests_49 (by decide) ?_ ?_
          · exact xR_sub [0, 1, 2, 4] rfl (kM_rests_b56 G S (fM_rests_l5 n) ih v0 v1 v2 v4)
          · refine xR_ic 52 (1 : Int32) dM_rests_52 (by decide) ?_
            refine xR_goto 53 57 dM_rests_53 (by decide) ?_
            exact xR_sub [0, 1, 2, 4] rfl (kM_rests_b57 G S (fM_rests_l5 n) ih v0 v1 v2 v4 (1 : Int32))
set_option maxRecDepth 100000 in
set_option maxHeartbeats 4000000 in
theorem kM_rests (G : xG)   (S : xS)  (v0 : Int32) (v1 : Int32) (v2 : Int32) : ∀ a, fM_rests  v0 v1 v2 = some a → xCt G yyM_rests [.int v0, .int v1, .int v2] S (some (.int a)) S := by
  refine xR_ct (em := (emi S)) rfl (Nat.le_of_ble_eq_true rfl) ?_
  show xR G yyM_rests _ 0 [(0, .int v0), (1, .int v1), (2, .int v2)] [] _ _
  unfold fM_rests
  refine xR_ic 0 (1 : Int32) dM_rests_0 (by decide) ?_
  refine xR_isn 1 ([(3, .int (1 : Int32)), (0, .int v0), (1, .int v1), (2, .int v2)]) dM_rests_1 rfl (by decide) rfl ?_
  refine xR_ic 2 (0 : Int32) dM_rests_2 (by decide) ?_
  refine xR_is 3 ([(4, .int (0 : Int32)), (3, .int (1 : Int32)), (0, .int v0), (1, .int v1), (2, .int v2)]) dM_rests_3 (by decide) rfl ?_
  exact xR_sub [2, 3, 4, 1, 0] rfl (kM_rests_l5 G S xfu v0 v1 v2 (1 : Int32) (0 : Int32))
end
section
theorem dB_many_0 : decode (xb yyB_many) 0 = .ok (.aload_n 0, 1) := by decide +kernel
theorem dB_many_1 : decode (xb yyB_many) 1 = .ok (.getfield 14, 3) := by decide +kernel
theorem dB_many_4 : decode (xb yyB_many) 4 = .ok (.invokevirtual 20, 3) := by decide +kernel
theorem dB_many_7 : decode (xb yyB_many) 7 = .ok (.ireturn, 1) := by decide +kernel
def fB_many (t : Nat) (m : xM) : Option (Int32) := (fT_many (xtb t) m).bind fun r4 => some r4
set_option maxRecDepth 100000 in
set_option maxHeartbeats 4000000 in
theorem kB_many (G : xG) (t : Nat) (ht : t < 5) (z : xM) (m : xM) : ∀ a, fB_many t m  = some a → xCt G yyB_many [.ref (xa G (72 + t))] (m, z) (some (.int a)) (m, z) := by
  refine xR_ct (em := (emi (m, z))) rfl (Nat.le_of_ble_eq_true rfl) ?_
  show xR G yyB_many _ 0 [(0, .ref (xa G (72 + t)))] [] _ _
  unfold fB_many
  refine xR_aln 0 0 dB_many_0 rfl rfl ?_
  refine xR_getf 1 xcf0 0 (72 + t) (by decide) (xk_B ht) (xC_brd ht) (v := .ref (xa G (36 + (xtb t)))) rfl fl_RX0_14 dB_many_1 ?_
  refine xR_callVi 4 cv_T_many ml_RX0_20 ⟨Nat.le_of_ble_eq_true rfl, Nat.le_of_ble_eq_true rfl⟩ xcf3 rfl (36 + (xtb t)) (xk_T (xtb_lt ht)) (xC_tab (xtb_lt ht)) [] rfl rfl (Nat.le_of_ble_eq_true rfl) dB_many_4 (kT_many G (xtb t) (xtb_lt ht) z m) (fun r4 => ?_)
  exact xR_iret 7 rfl rfl dB_many_7
theorem dB_empty_0 : decode (xb yyB_empty) 0 = .ok (.aload_n 0, 1) := by decide +kernel
theorem dB_empty_1 : decode (xb yyB_empty) 1 = .ok (.getfield 14, 3) := by decide +kernel
theorem dB_empty_4 : decode (xb yyB_empty) 4 = .ok (.invokevirtual 32, 3) := by decide +kernel
theorem dB_empty_7 : decode (xb yyB_empty) 7 = .ok (.aload_n 0, 1) := by decide +kernel
theorem dB_empty_8 : decode (xb yyB_empty) 8 = .ok (.iconst 0, 1) := by decide +kernel
theorem dB_empty_9 : decode (xb yyB_empty) 9 = .ok (.putfield 35, 3) := by decide +kernel
theorem dB_empty_12 : decode (xb yyB_empty) 12 = .ok (.return_, 1) := by decide +kernel
def fB_empty (t : Nat) (m : xM) : Option (xM) := (fT_empty (xtb t) m).bind fun r4 => some (xset r4 37 t (0 : Int32))
set_option maxRecDepth 100000 in
set_option maxHeartbeats 4000000 in
theorem kB_empty (G : xG) (t : Nat) (ht : t < 5) (z : xM) (m : xM) : ∀ a, fB_empty t m = some a → xCt G yyB_empty [.ref (xa G (72 + t))] (m, z) (none) (a, z) := by
  refine xR_ct (em := (emvc z)) rfl (Nat.le_of_ble_eq_true rfl) ?_
  show xR G yyB_empty _ 0 [(0, .ref (xa G (72 + t)))] [] _ _
  unfold fB_empty
  refine xR_aln 0 0 dB_empty_0 rfl rfl ?_
  refine xR_getf 1 xcf0 0 (72 + t) (by decide) (xk_B ht) (xC_brd ht) (v := .ref (xa G (36 + (xtb t)))) rfl fl_RX0_14 dB_empty_1 ?_
  refine xR_callVvc 4 cv_T_empty ml_RX0_32 ⟨Nat.le_of_ble_eq_true rfl, Nat.le_of_ble_eq_true rfl⟩ xcf3 rfl (36 + (xtb t)) (xk_T (xtb_lt ht)) (xC_tab (xtb_lt ht)) [] rfl rfl (Nat.le_of_ble_eq_true rfl) dB_empty_4 (kT_empty G (xtb t) (xtb_lt ht) z m) (fun r4 => ?_)
  refine xR_aln 7 0 dB_empty_7 rfl rfl ?_
  refine xR_ic 8 (0 : Int32) dB_empty_8 (by decide) ?_
  refine xR_putf 9 xcf0 1 (72 + t) (by decide) (xk_B ht) (xC_brd ht) rfl rfl rfl (Nat.le_of_ble_eq_true rfl) ((xset r4 37 t (0 : Int32)), z) (xW_year ht) fl_RX0_35 dB_empty_9 ?_
  exact xR_vret 12 rfl rfl dB_empty_12
theorem dB_bring_0 : decode (xb yyB_bring) 0 = .ok (.aload_n 0, 1) := by decide +kernel
theorem dB_bring_1 : decode (xb yyB_bring) 1 = .ok (.getfield 14, 3) := by decide +kernel
theorem dB_bring_4 : decode (xb yyB_bring) 4 = .ok (.invokevirtual 43, 3) := by decide +kernel
theorem dB_bring_7 : decode (xb yyB_bring) 7 = .ok (.istore 5, 2) := by decide +kernel
theorem dB_bring_9 : decode (xb yyB_bring) 9 = .ok (.aload_n 0, 1) := by decide +kernel
theorem dB_bring_10 : decode (xb yyB_bring) 10 = .ok (.getfield 14, 3) := by decide +kernel
theorem dB_bring_13 : decode (xb yyB_bring) 13 = .ok (.iload 5, 2) := by decide +kernel
theorem dB_bring_15 : decode (xb yyB_bring) 15 = .ok (.iconst 0, 1) := by decide +kernel
theorem dB_bring_16 : decode (xb yyB_bring) 16 = .ok (.iload_n 1, 1) := by decide +kernel
theorem dB_bring_17 : decode (xb yyB_bring) 17 = .ok (.invokevirtual 28, 3) := by decide +kernel
theorem dB_bring_20 : decode (xb yyB_bring) 20 = .ok (.aload_n 0, 1) := by decide +kernel
theorem dB_bring_21 : decode (xb yyB_bring) 21 = .ok (.getfield 14, 3) := by decide +kernel
theorem dB_bring_24 : decode (xb yyB_bring) 24 = .ok (.iload 5, 2) := by decide +kernel
theorem dB_bring_26 : decode (xb yyB_bring) 26 = .ok (.iconst 1, 1) := by decide +kernel
theorem dB_bring_27 : decode (xb yyB_bring) 27 = .ok (.iload_n 2, 1) := by decide +kernel
theorem dB_bring_28 : decode (xb yyB_bring) 28 = .ok (.invokevirtual 28, 3) := by decide +kernel
theorem dB_bring_31 : decode (xb yyB_bring) 31 = .ok (.aload_n 0, 1) := by decide +kernel
theorem dB_bring_32 : decode (xb yyB_bring) 32 = .ok (.getfield 14, 3) := by decide +kernel
theorem dB_bring_35 : decode (xb yyB_bring) 35 = .ok (.iload 5, 2) := by decide +kernel
theorem dB_bring_37 : decode (xb yyB_bring) 37 = .ok (.iconst 2, 1) := by decide +kernel
theorem dB_bring_38 : decode (xb yyB_bring) 38 = .ok (.iload_n 3, 1) := by decide +kernel
theorem dB_bring_39 : decode (xb yyB_bring) 39 = .ok (.invokevirtual 28, 3) := by decide +kernel
theorem dB_bring_42 : decode (xb yyB_bring) 42 = .ok (.aload_n 0, 1) := by decide +kernel
theorem dB_bring_43 : decode (xb yyB_bring) 43 = .ok (.getfield 14, 3) := by decide +kernel
theorem dB_bring_46 : decode (xb yyB_bring) 46 = .ok (.iload 5, 2) := by decide +kernel
theorem dB_bring_48 : decode (xb yyB_bring) 48 = .ok (.iconst 3, 1) := by decide +kernel
theorem dB_bring_49 : decode (xb yyB_bring) 49 = .ok (.iload 4, 2) := by decide +kernel
theorem dB_bring_51 : decode (xb yyB_bring) 51 = .ok (.invokevirtual 28, 3) := by decide +kernel
theorem dB_bring_54 : decode (xb yyB_bring) 54 = .ok (.aload_n 0, 1) := by decide +kernel
theorem dB_bring_55 : decode (xb yyB_bring) 55 = .ok (.getfield 14, 3) := by decide +kernel
theorem dB_bring_58 : decode (xb yyB_bring) 58 = .ok (.iload 5, 2) := by decide +kernel
theorem dB_bring_60 : decode (xb yyB_bring) 60 = .ok (.iconst 4, 1) := by decide +kernel
theorem dB_bring_61 : decode (xb yyB_bring) 61 = .ok (.iconst 0, 1) := by decide +kernel
theorem dB_bring_62 : decode (xb yyB_bring) 62 = .ok (.invokevirtual 28, 3) := by decide +kernel
theorem dB_bring_65 : decode (xb yyB_bring) 65 = .ok (.aload_n 0, 1) := by decide +kernel
theorem dB_bring_66 : decode (xb yyB_bring) 66 = .ok (.getfield 14, 3) := by decide +kernel
theorem dB_bring_69 : decode (xb yyB_bring) 69 = .ok (.iload 5, 2) := by decide +kernel
theorem dB_bring_71 : decode (xb yyB_bring) 71 = .ok (.iconst 5, 1) := by decide +kernel
theorem dB_bring_72 : decode (xb yyB_bring) 72 = .ok (.iconst (-1), 1) := by decide +kernel
theorem dB_bring_73 : decode (xb yyB_bring) 73 = .ok (.invokevirtual 28, 3) := by decide +kernel
theorem dB_bring_76 : decode (xb yyB_bring) 76 = .ok (.iload 5, 2) := by decide +kernel
theorem dB_bring_78 : decode (xb yyB_bring) 78 = .ok (.ireturn, 1) := by decide +kernel
def fB_bring (t : Nat) (v1 : Int32) (v2 : Int32) (v3 : Int32) (v4 : Int32) (m : xM) : Option (Int32 × xM) := (fT_newRow (xtb t) m).bind fun r4 => (fT_put (xtb t) r4.1 (0 : Int32) v1 r4.2).bind fun r17 => (fT_put (xtb t) r4.1 (1 : Int32) v2 r17).bind fun r28 => (fT_put (xtb t) r4.1 (2 : Int32) v3 r28).bind fun r39 => (fT_put (xtb t) r4.1 (3 : Int32) v4 r39).bind fun r51 => (fT_put (xtb t) r4.1 (4 : Int32) (0 : Int32) r51).bind fun r62 => (fT_put (xtb t) r4.1 (5 : Int32) (-1 : Int32) r62).bind fun r73 => some (r4.1, r73)
set_option maxRecDepth 100000 in
set_option maxHeartbeats 4000000 in
theorem kB_bring (G : xG) (t : Nat) (ht : t < 5) (z : xM) (m : xM) (v1 : Int32) (v2 : Int32) (v3 : Int32) (v4 : Int32) : ∀ a, fB_bring t v1 v2 v3 v4 m = some a → xCt G yyB_bring [.ref (xa G (72 + t)), .int v1, .int v2, .int v3, .int v4] (m, z) (some (.int a.1)) (a.2, z) := by
  refine xR_ct (em := (emic z)) rfl (Nat.le_of_ble_eq_true rfl) ?_
  show xR G yyB_bring _ 0 [(0, .ref (xa G (72 + t))), (1, .int v1), (2, .int v2), (3, .int v3), (4, .int v4)] [] _ _
  unfold fB_bring
  refine xR_aln 0 0 dB_bring_0 rfl rfl ?_
  refine xR_getf 1 xcf0 0 (72 + t) (by decide) (xk_B ht) (xC_brd ht) (v := .ref (xa G (36 + (xtb t)))) rfl fl_RX0_14 dB_bring_1 ?_
  refine xR_callVic 4 cv_T_newRow ml_RX0_43 ⟨Nat.le_of_ble_eq_true rfl, Nat.le_of_ble_eq_true rfl⟩ xcf3 rfl (36 + (xtb t)) (xk_T (xtb_lt ht)) (xC_tab (xtb_lt ht)) [] rfl rfl (Nat.le_of_ble_eq_true rfl) dB_bring_4 (kT_newRow G (xtb t) (xtb_lt ht) z m) (fun r4 => ?_)
  refine xR_is 7 ([(5, .int r4.1), (0, .ref (xa G (72 + t))), (1, .int v1), (2, .int v2), (3, .int v3), (4, .int v4)]) dB_bring_7 (by decide) rfl ?_
  refine xR_aln 9 1 dB_bring_9 rfl rfl ?_
  refine xR_getf 10 xcf0 0 (72 + t) (by decide) (xk_B ht) (xC_brd ht) (v := .ref (xa G (36 + (xtb t)))) rfl fl_RX0_14 dB_bring_10 ?_
  refine xR_il 13 0 dB_bring_13 rfl ?_
  refine xR_ic 15 (0 : Int32) dB_bring_15 (by decide) ?_
  refine xR_iln 16 2 dB_bring_16 rfl rfl ?_
  refine xR_callVvc 17 cv_T_put ml_RX0_28 ⟨Nat.le_of_ble_eq_true rfl, Nat.le_of_ble_eq_true rfl⟩ xcf3 rfl (36 + (xtb t)) (xk_T (xtb_lt ht)) (xC_tab (xtb_lt ht)) [.int r4.1, .int (0 : Int32), .int v1] rfl rfl (Nat.le_of_ble_eq_true rfl) dB_bring_17 (kT_put G (xtb t) (xtb_lt ht) z r4.2 r4.1 (0 : Int32) v1) (fun r17 => ?_)
  refine xR_aln 20 1 dB_bring_20 rfl rfl ?_
  refine xR_getf 21 xcf0 0 (72 + t) (by decide) (xk_B ht) (xC_brd ht) (v := .ref (xa G (36 + (xtb t)))) rfl fl_RX0_14 dB_bring_21 ?_
  refine xR_il 24 0 dB_bring_24 rfl ?_
  refine xR_ic 26 (1 : Int32) dB_bring_26 (by decide) ?_
  refine xR_iln 27 3 dB_bring_27 rfl rfl ?_
  refine xR_callVvc 28 cv_T_put ml_RX0_28 ⟨Nat.le_of_ble_eq_true rfl, Nat.le_of_ble_eq_true rfl⟩ xcf3 rfl (36 + (xtb t)) (xk_T (xtb_lt ht)) (xC_tab (xtb_lt ht)) [.int r4.1, .int (1 : Int32), .int v2] rfl rfl (Nat.le_of_ble_eq_true rfl) dB_bring_28 (kT_put G (xtb t) (xtb_lt ht) z r17 r4.1 (1 : Int32) v2) (fun r28 => ?_)
  refine xR_aln 31 1 dB_bring_31 rfl rfl ?_
  refine xR_getf 32 xcf0 0 (72 + t) (by decide) (xk_B ht) (xC_brd ht) (v := .ref (xa G (36 + (xtb t)))) rfl fl_RX0_14 dB_bring_32 ?_
  refine xR_il 35 0 dB_bring_35 rfl ?_
  refine xR_ic 37 (2 : Int32) dB_bring_37 (by decide) ?_
  refine xR_iln 38 4 dB_bring_38 rfl rfl ?_
  refine xR_callVvc 39 cv_T_put ml_RX0_28 ⟨Nat.le_of_ble_eq_true rfl, Nat.le_of_ble_eq_true rfl⟩ xcf3 rfl (36 + (xtb t)) (xk_T (xtb_lt ht)) (xC_tab (xtb_lt ht)) [.int r4.1, .int (2 : Int32), .int v3] rfl rfl (Nat.le_of_ble_eq_true rfl) dB_bring_39 (kT_put G (xtb t) (xtb_lt ht) z r28 r4.1 (2 : Int32) v3) (fun r39 => ?_)
  refine xR_aln 42 1 dB_bring_42 rfl rfl ?_
  refine xR_getf 43 xcf0 0 (72 + t) (by decide) (xk_B ht) (xC_brd ht) (v := .ref (xa G (36 + (xtb t)))) rfl fl_RX0_14 dB_bring_43 ?_
  refine xR_il 46 0 dB_bring_46 rfl ?_
  refine xR_ic 48 (3 : Int32) dB_bring_48 (by decide) ?_
  refine xR_il 49 5 dB_bring_49 rfl ?_
  refine xR_callVvc 51 cv_T_put ml_RX0_28 ⟨Nat.le_of_ble_eq_true rfl, Nat.le_of_ble_eq_true rfl⟩ xcf3 rfl (36 + (xtb t)) (xk_T (xtb_lt ht)) (xC_tab (xtb_lt ht)) [.int r4.1, .int (3 : Int32), .int v4] rfl rfl (Nat.le_of_ble_eq_true rfl) dB_bring_51 (kT_put G (xtb t) (xtb_lt ht) z r39 r4.1 (3 : Int32) v4) (fun r51 => ?_)
  refine xR_aln 54 1 dB_bring_54 rfl rfl ?_
  refine xR_getf 55 xcf0 0 (72 + t) (by decide) (xk_B ht) (xC_brd ht) (v := .ref (xa G (36 + (xtb t)))) rfl fl_RX0_14 dB_bring_55 ?_
  refine xR_il 58 0 dB_bring_58 rfl ?_
  refine xR_ic 60 (4 : Int32) dB_bring_60 (by decide) ?_
  refine xR_ic 61 (0 : Int32) dB_bring_61 (by decide) ?_
  refine xR_callVvc 62 cv_T_put ml_RX0_28 ⟨Nat.le_of_ble_eq_true rfl, Nat.le_of_ble_eq_true rfl⟩ xcf3 rfl (36 + (xtb t)) (xk_T (xtb_lt ht)) (xC_tab (xtb_lt ht)) [.int r4.1, .int (4 : Int32), .int (0 : Int32)] rfl rfl (Nat.le_of_ble_eq_true rfl) dB_bring_62 (kT_put G (xtb t) (xtb_lt ht) z r51 r4.1 (4 : Int32) (0 : Int32)) (fun r62 => ?_)
  refine xR_aln 65 1 dB_bring_65 rfl rfl ?_
  refine xR_getf 66 xcf0 0 (72 + t) (by decide) (xk_B ht) (xC_brd ht) (v := .ref (xa G (36 + (xtb t)))) rfl fl_RX0_14 dB_bring_66 ?_
  refine xR_il 69 0 dB_bring_69 rfl ?_
  refine xR_ic 71 (5 : Int32) dB_bring_71 (by decide) ?_
  refine xR_ic 72 (-1 : Int32) dB_bring_72 (by decide) ?_
  refine xR_callVvc 73 cv_T_put ml_RX0_28 ⟨Nat.le_of_ble_eq_true rfl, Nat.le_of_ble_eq_true rfl⟩ xcf3 rfl (36 + (xtb t)) (xk_T (xtb_lt ht)) (xC_tab (xtb_lt ht)) [.int r4.1, .int (5 : Int32), .int (-1 : Int32)] rfl rfl (Nat.le_of_ble_eq_true rfl) dB_bring_73 (kT_put G (xtb t) (xtb_lt ht) z r62 r4.1 (5 : Int32) (-1 : Int32)) (fun r73 => ?_)
  refine xR_il 76 0 dB_bring_76 rfl ?_
  exact xR_iret 78 rfl rfl dB_bring_78
theorem dB_has_0 : decode (xb yyB_has) 0 = .ok (.iload_n 1, 1) := by decide +kernel
theorem dB_has_1 : decode (xb yyB_has) 1 = .ok (.ifCond .lt 18, 3) := by decide +kernel
theorem dB_has_4 : decode (xb yyB_has) 4 = .ok (.iload_n 1, 1) := by decide +kernel
theorem dB_has_5 : decode (xb yyB_has) 5 = .ok (.aload_n 0, 1) := by decide +kernel
theorem dB_has_6 : decode (xb yyB_has) 6 = .ok (.getfield 14, 3) := by decide +kernel
theorem dB_has_9 : decode (xb yyB_has) 9 = .ok (.invokevirtual 20, 3) := by decide +kernel
theorem dB_has_12 : decode (xb yyB_has) 12 = .ok (.if_icmp .ge 7, 3) := by decide +kernel
theorem dB_has_15 : decode (xb yyB_has) 15 = .ok (.iconst 1, 1) := by decide +kernel
theorem dB_has_16 : decode (xb yyB_has) 16 = .ok (.goto 4, 3) := by decide +kernel
theorem dB_has_19 : decode (xb yyB_has) 19 = .ok (.iconst 0, 1) := by decide +kernel
theorem dB_has_20 : decode (xb yyB_has) 20 = .ok (.ireturn, 1) := by decide +kernel
def fB_has (t : Nat) (m : xM) (v1 : Int32) : Option (Int32) := (if v1 < 0 then some (xnb (0 : Int32)) else (fT_many (xtb t) m).bind fun r9 => (if r9 ≤ v1 then some (xnb (0 : Int32)) else some (xnb (1 : Int32))))
set_option maxRecDepth 100000 in
set_option maxHeartbeats 4000000 in
theorem kB_has (G : xG) (t : Nat) (ht : t < 5) (z : xM) (m : xM) (v1 : Int32) : ∀ a, fB_has t m v1 = some a → xCt G yyB_has [.ref (xa G (72 + t)), .int v1] (m, z) (some (.int a)) (m, z) := by
  refine xR_ct (em := (emi (m, z))) rfl (Nat.le_of_ble_eq_true rfl) ?_
  show xR G yyB_has _ 0 [(0, .ref (xa G (72 + t))), (1, .int v1)] [] _ _
  unfold fB_has
  refine xR_iln 0 1 dB_has_0 rfl rfl ?_
  refine xR_iflt 1 19 dB_has_1 (by decide) ?_ ?_
  · refine xR_ic 19 (0 : Int32) dB_has_19 (by decide) ?_
    exact xR_zret 20 rfl rfl dB_has_20
  · refine xR_iln 4 1 dB_has_4 rfl rfl ?_
    refine xR_aln 5 0 dB_has_5 rfl rfl ?_
    refine xR_getf 6 xcf0 0 (72 + t) (by decide) (xk_B ht) (xC_brd ht) (v := .ref (xa G (36 + (xtb t)))) rfl fl_RX0_14 dB_has_6 ?_
    refine xR_callVi 9 cv_T_many ml_RX0_20 ⟨Nat.le_of_ble_eq_true rfl, Nat.le_of_ble_eq_true rfl⟩ xcf3 rfl (36 + (xtb t)) (xk_T (xtb_lt ht)) (xC_tab (xtb_lt ht)) [] rfl rfl (Nat.le_of_ble_eq_true rfl) dB_has_9 (kT_many G (xtb t) (xtb_lt ht) z m) (fun r9 => ?_)
    refine xR_icge 12 19 dB_has_12 (by decide) ?_ ?_
    · refine xR_ic 19 (0 : Int32) dB_has_19 (by decide) ?_
      exact xR_zret 20 rfl rfl dB_has_20
    · refine xR_ic 15 (1 : Int32) dB_has_15 (by decide) ?_
      refine xR_goto 16 20 dB_has_16 (by decide) ?_
      exact xR_zret 20 rfl rfl dB_has_20
theorem dB_cell_0 : decode (xb yyB_cell) 0 = .ok (.aload_n 0, 1) := by decide +kernel
theorem dB_cell_1 : decode (xb yyB_cell) 1 = .ok (.getfield 14, 3) := by decide +kernel
theorem dB_cell_4 : decode (xb yyB_cell) 4 = .ok (.iload_n 1, 1) := by decide +kernel
theorem dB_cell_5 : decode (xb yyB_cell) 5 = .ok (.iload_n 2, 1) := by decide +kernel
theorem dB_cell_6 : decode (xb yyB_cell) 6 = .ok (.invokevirtual 24, 3) := by decide +kernel
theorem dB_cell_9 : decode (xb yyB_cell) 9 = .ok (.ireturn, 1) := by decide +kernel
def fB_cell (t : Nat) (m : xM) (v1 : Int32) (v2 : Int32) : Option (Int32) := (fT_get (xtb t) m v1 v2).bind fun r6 => some r6
set_option maxRecDepth 100000 in
set_option maxHeartbeats 4000000 in
theorem kB_cell (G : xG) (t : Nat) (ht : t < 5) (z : xM) (m : xM) (v1 : Int32) (v2 : Int32) : ∀ a, fB_cell t m v1 v2 = some a → xCt G yyB_cell [.ref (xa G (72 + t)), .int v1, .int v2] (m, z) (some (.int a)) (m, z) := by
  refine xR_ct (em := (emi (m, z))) rfl (Nat.le_of_ble_eq_true rfl) ?_
  show xR G yyB_cell _ 0 [(0, .ref (xa G (72 + t))), (1, .int v1), (2, .int v2)] [] _ _
  unfold fB_cell
  refine xR_aln 0 0 dB_cell_0 rfl rfl ?_
  refine xR_getf 1 xcf0 0 (72 + t) (by decide) (xk_B ht) (xC_brd ht) (v := .ref (xa G (36 + (xtb t)))) rfl fl_RX0_14 dB_cell_1 ?_
  refine xR_iln 4 1 dB_cell_4 rfl rfl ?_
  refine xR_iln 5 2 dB_cell_5 rfl rfl ?_
  refine xR_callVi 6 cv_T_get ml_RX0_24 ⟨Nat.le_of_ble_eq_true rfl, Nat.le_of_ble_eq_true rfl⟩ xcf3 rfl (36 + (xtb t)) (xk_T (xtb_lt ht)) (xC_tab (xtb_lt ht)) [.int v1, .int v2] rfl rfl (Nat.le_of_ble_eq_true rfl) dB_cell_6 (kT_get G (xtb t) (xtb_lt ht) z m v1 v2) (fun r6 => ?_)
  exact xR_iret 9 rfl rfl dB_cell_9
theorem dB_set_0 : decode (xb yyB_set) 0 = .ok (.aload_n 0, 1) := by decide +kernel
theorem dB_set_1 : decode (xb yyB_set) 1 = .ok (.getfield 14, 3) := by decide +kernel
theorem dB_set_4 : decode (xb yyB_set) 4 = .ok (.iload_n 1, 1) := by decide +kernel
theorem dB_set_5 : decode (xb yyB_set) 5 = .ok (.iload_n 2, 1) := by decide +kernel
theorem dB_set_6 : decode (xb yyB_set) 6 = .ok (.iload_n 3, 1) := by decide +kernel
theorem dB_set_7 : decode (xb yyB_set) 7 = .ok (.invokevirtual 28, 3) := by decide +kernel
theorem dB_set_10 : decode (xb yyB_set) 10 = .ok (.return_, 1) := by decide +kernel
def fB_set (t : Nat) (v1 : Int32) (v2 : Int32) (v3 : Int32) (m : xM) : Option (xM) := (fT_put (xtb t) v1 v2 v3 m).bind fun r7 => some r7
set_option maxRecDepth 100000 in
set_option maxHeartbeats 4000000 in
theorem kB_set (G : xG) (t : Nat) (ht : t < 5) (z : xM) (m : xM) (v1 : Int32) (v2 : Int32) (v3 : Int32) : ∀ a, fB_set t v1 v2 v3 m = some a → xCt G yyB_set [.ref (xa G (72 + t)), .int v1, .int v2, .int v3] (m, z) (none) (a, z) := by
  refine xR_ct (em := (emvc z)) rfl (Nat.le_of_ble_eq_true rfl) ?_
  show xR G yyB_set _ 0 [(0, .ref (xa G (72 + t))), (1, .int v1), (2, .int v2), (3, .int v3)] [] _ _
  unfold fB_set
  refine xR_aln 0 0 dB_set_0 rfl rfl ?_
  refine xR_getf 1 xcf0 0 (72 + t) (by decide) (xk_B ht) (xC_brd ht) (v := .ref (xa G (36 + (xtb t)))) rfl fl_RX0_14 dB_set_1 ?_
  refine xR_iln 4 1 dB_set_4 rfl rfl ?_
  refine xR_iln 5 2 dB_set_5 rfl rfl ?_
  refine xR_iln 6 3 dB_set_6 rfl rfl ?_
  refine xR_callVvc 7 cv_T_put ml_RX0_28 ⟨Nat.le_of_ble_eq_true rfl, Nat.le_of_ble_eq_true rfl⟩ xcf3 rfl (36 + (xtb t)) (xk_T (xtb_lt ht)) (xC_tab (xtb_lt ht)) [.int v1, .int v2, .int v3] rfl rfl (Nat.le_of_ble_eq_true rfl) dB_set_7 (kT_put G (xtb t) (xtb_lt ht) z m v1 v2 v3) (fun r7 => ?_)
  exact xR_vret 10 rfl rfl dB_set_10
theorem dB_isFree_0 : decode (xb yyB_isFree) 0 = .ok (.aload_n 0, 1) := by decide +kernel
theorem dB_isFree_1 : decode (xb yyB_isFree) 1 = .ok (.getfield 14, 3) := by decide +kernel
theorem dB_isFree_4 : decode (xb yyB_isFree) 4 = .ok (.iload_n 1, 1) := by decide +kernel
theorem dB_isFree_5 : decode (xb yyB_isFree) 5 = .ok (.iconst 5, 1) := by decide +kernel
theorem dB_isFree_6 : decode (xb yyB_isFree) 6 = .ok (.invokevirtual 24, 3) := by decide +kernel
theorem dB_isFree_9 : decode (xb yyB_isFree) 9 = .ok (.iconst (-1), 1) := by decide +kernel
theorem dB_isFree_10 : decode (xb yyB_isFree) 10 = .ok (.if_icmp .ne 7, 3) := by decide +kernel
theorem dB_isFree_13 : decode (xb yyB_isFree) 13 = .ok (.iconst 1, 1) := by decide +kernel
theorem dB_isFree_14 : decode (xb yyB_isFree) 14 = .ok (.goto 4, 3) := by decide +kernel
theorem dB_isFree_17 : decode (xb yyB_isFree) 17 = .ok (.iconst 0, 1) := by decide +kernel
theorem dB_isFree_18 : decode (xb yyB_isFree) 18 = .ok (.ireturn, 1) := by decide +kernel
def fB_isFree (t : Nat) (m : xM) (v1 : Int32) : Option (Int32) := (fT_get (xtb t) m v1 (5 : Int32)).bind fun r6 => (if r6 = (-1 : Int32) then some (xnb (1 : Int32)) else some (xnb (0 : Int32)))
set_option maxRecDepth 100000 in
set_option maxHeartbeats 4000000 in
theorem kB_isFree (G : xG) (t : Nat) (ht : t < 5) (z : xM) (m : xM) (v1 : Int32) : ∀ a, fB_isFree t m v1 = some a → xCt G yyB_isFree [.ref (xa G (72 + t)), .int v1] (m, z) (some (.int a)) (m, z) := by
  refine xR_ct (em := (emi (m, z))) rfl (Nat.le_of_ble_eq_true rfl) ?_
  show xR G yyB_isFree _ 0 [(0, .ref (xa G (72 + t))), (1, .int v1)] [] _ _
  unfold fB_isFree
  refine xR_aln 0 0 dB_isFree_0 rfl rfl ?_
  refine xR_getf 1 xcf0 0 (72 + t) (by decide) (xk_B ht) (xC_brd ht) (v := .ref (xa G (36 + (xtb t)))) rfl fl_RX0_14 dB_isFree_1 ?_
  refine xR_iln 4 1 dB_isFree_4 rfl rfl ?_
  refine xR_ic 5 (5 : Int32) dB_isFree_5 (by decide) ?_
  refine xR_callVi 6 cv_T_get ml_RX0_24 ⟨Nat.le_of_ble_eq_true rfl, Nat.le_of_ble_eq_true rfl⟩ xcf3 rfl (36 + (xtb t)) (xk_T (xtb_lt ht)) (xC_tab (xtb_lt ht)) [.int v1, .int (5 : Int32)] rfl rfl (Nat.le_of_ble_eq_true rfl) dB_isFree_6 (kT_get G (xtb t) (xtb_lt ht) z m v1 (5 : Int32)) (fun r6 => ?_)
  refine xR_ic 9 (-1 : Int32) dB_isFree_9 (by decide) ?_
  refine xR_icne 10 17 dB_isFree_10 (by decide) ?_ ?_
  · refine xR_ic 17 (0 : Int32) dB_isFree_17 (by decide) ?_
    exact xR_zret 18 rfl rfl dB_isFree_18
  · refine xR_ic 13 (1 : Int32) dB_isFree_13 (by decide) ?_
    refine xR_goto 14 18 dB_isFree_14 (by decide) ?_
    exact xR_zret 18 rfl rfl dB_isFree_18
theorem dB_maskIn_0 : decode (xb yyB_maskIn) 0 = .ok (.iconst 0, 1) := by decide +kernel
theorem dB_maskIn_1 : decode (xb yyB_maskIn) 1 = .ok (.istore_n 2, 1) := by decide +kernel
theorem dB_maskIn_2 : decode (xb yyB_maskIn) 2 = .ok (.iconst 0, 1) := by decide +kernel
theorem dB_maskIn_3 : decode (xb yyB_maskIn) 3 = .ok (.istore_n 3, 1) := by decide +kernel
theorem dB_maskIn_4 : decode (xb yyB_maskIn) 4 = .ok (.iload_n 3, 1) := by decide +kernel
theorem dB_maskIn_5 : decode (xb yyB_maskIn) 5 = .ok (.aload_n 0, 1) := by decide +kernel
theorem dB_maskIn_6 : decode (xb yyB_maskIn) 6 = .ok (.getfield 14, 3) := by decide +kernel
theorem dB_maskIn_9 : decode (xb yyB_maskIn) 9 = .ok (.invokevirtual 20, 3) := by decide +kernel
theorem dB_maskIn_12 : decode (xb yyB_maskIn) 12 = .ok (.if_icmp .ge 28, 3) := by decide +kernel
theorem dB_maskIn_15 : decode (xb yyB_maskIn) 15 = .ok (.aload_n 0, 1) := by decide +kernel
theorem dB_maskIn_16 : decode (xb yyB_maskIn) 16 = .ok (.getfield 14, 3) := by decide +kernel
theorem dB_maskIn_19 : decode (xb yyB_maskIn) 19 = .ok (.iload_n 3, 1) := by decide +kernel
theorem dB_maskIn_20 : decode (xb yyB_maskIn) 20 = .ok (.iconst 5, 1) := by decide +kernel
theorem dB_maskIn_21 : decode (xb yyB_maskIn) 21 = .ok (.invokevirtual 24, 3) := by decide +kernel
theorem dB_maskIn_24 : decode (xb yyB_maskIn) 24 = .ok (.iload_n 1, 1) := by decide +kernel
theorem dB_maskIn_25 : decode (xb yyB_maskIn) 25 = .ok (.if_icmp .ne 9, 3) := by decide +kernel
theorem dB_maskIn_28 : decode (xb yyB_maskIn) 28 = .ok (.iload_n 2, 1) := by decide +kernel
theorem dB_maskIn_29 : decode (xb yyB_maskIn) 29 = .ok (.iconst 1, 1) := by decide +kernel
theorem dB_maskIn_30 : decode (xb yyB_maskIn) 30 = .ok (.iload_n 3, 1) := by decide +kernel
theorem dB_maskIn_31 : decode (xb yyB_maskIn) 31 = .ok (.ishl, 1) := by decide +kernel
theorem dB_maskIn_32 : decode (xb yyB_maskIn) 32 = .ok (.ior, 1) := by decide +kernel
theorem dB_maskIn_33 : decode (xb yyB_maskIn) 33 = .ok (.istore_n 2, 1) := by decide +kernel
theorem dB_maskIn_34 : decode (xb yyB_maskIn) 34 = .ok (.iinc 3 1, 3) := by decide +kernel
theorem dB_maskIn_37 : decode (xb yyB_maskIn) 37 = .ok (.goto (-33), 3) := by decide +kernel
theorem dB_maskIn_40 : decode (xb yyB_maskIn) 40 = .ok (.iload_n 2, 1) := by decide +kernel
theorem dB_maskIn_41 : decode (xb yyB_maskIn) 41 = .ok (.ireturn, 1) := by decide +kernel
def fB_maskIn_b34 (t : Nat) (m : xM) (k4 : Int32 → Int32 → Int32 → Option (Int32)) (v1 : Int32) (v2 : Int32) (v3 : Int32) : Option (Int32) := k4 v1 v2 (v3 + 1)
def fB_maskIn_l4 (t : Nat) (m : xM) : Nat → Int32 → Int32 → Int32 → Option (Int32)
  | 0, _, _, _ => none
  | n + 1, v1, v2, v3 => (fT_many (xtb t) m).bind fun r9 => (if r9 ≤ v3 then some v2 else (fT_get (xtb t) m v3 (5 : Int32)).bind fun r21 => (if r21 = v1 then fB_maskIn_b34 t m (fB_maskIn_l4 t m n) v1 (v2 ||| ((1 : Int32) <<< (v3 &&& 31))) v3 else fB_maskIn_b34 t m (fB_maskIn_l4 t m n) v1 v2 v3))
def fB_maskIn (t : Nat) (m : xM) (v1 : Int32) : Option (Int32) := fB_maskIn_l4 t m xfu v1 (0 : Int32) (0 : Int32)
set_option maxRecDepth 100000 in
set_option maxHeartbeats 4000000 in
theorem kB_maskIn_b34 (G : xG) (t : Nat) (ht : t < 5) (z : xM) (m : xM) (k4 : Int32 → Int32 → Int32 → Option (Int32)) (hk4 : ∀ (v1 : Int32) (v2 : Int32) (v3 : Int32), xR G yyB_maskIn (emi (m, z)) 4 [(0, .ref (xa G (72 + t))), (1, .int v1), (2, .int v2), (3, .int v3)] [] (m, z) (k4 v1 v2 v3)) (v1 : Int32) (v2 : Int32) (v3 : Int32) : xR G yyB_maskIn (emi (m, z)) 34 [(0, .ref (xa G (72 + t))), (1, .int v1), (2, .int v2), (3, .int v3)] [] (m, z) (fB_maskIn_b34 t m k4 v1 v2 v3) := by
  unfold fB_maskIn_b34
  refine xR_iinc 34 3 (v3 + 1) ([(3, .int (v3 + 1)), (0, .ref (xa G (72 + t))), (1, .int v1), (2, .int v2)]) dB_maskIn_34 rfl rfl (by decide) rfl ?_
  refine xR_goto 37 4 dB_maskIn_37 (by decide) ?_
  exact xR_sub [1, 2, 3, 0] rfl (hk4 v1 v2 (v3 + 1))
set_option maxRecDepth 100000 in
set_option maxHeartbeats 4000000 in
theorem kB_maskIn_l4 (G : xG) (t : Nat) (ht : t < 5) (z : xM) (m : xM)   : ∀ (n : Nat) (v1 : Int32) (v2 : Int32) (v3 : Int32), xR G yyB_maskIn (emi (m, z)) 4 [(0, .ref (xa G (72 + t))), (1, .int v1), (2, .int v2), (3, .int v3)] [] (m, z) (fB_maskIn_l4 t m n v1 v2 v3) := by
  intro n
  induction n with
  | zero =>
    intro v1 v2 v3
    rw [fB_maskIn_l4]
    exact xR_none
  | succ n ih =>
    intro v1 v2 v3
    rw [fB_maskIn_l4]
    refine xR_iln 4 3 dB_maskIn_4 rfl rfl ?_
    refine xR_aln 5 0 dB_maskIn_5 rfl rfl ?_
    refine xR_getf 6 xcf0 0 (72 + t) (by decide) (xk_B ht) (xC_brd ht) (v := .ref (xa G (36 + (xtb t)))) rfl fl_RX0_14 dB_maskIn_6 ?_
    refine xR_callVi 9 cv_T_many ml_RX0_20 ⟨Nat.le_of_ble_eq_true rfl, Nat.le_of_ble_eq_true rfl⟩ xcf3 rfl (36 + (xtb t)) (xk_T (xtb_lt ht)) (xC_tab (xtb_lt ht)) [] rfl rfl (Nat.le_of_ble_eq_true rfl) dB_maskIn_9 (kT_many G (xtb t) (xtb_lt ht) z m) (fun r9 => ?_)
    refine xR_icge 12 40 dB_maskIn_12 (by decide) ?_ ?_
    · refine xR_iln 40 2 dB_maskIn_40 rfl rfl ?_
      exact xR_iret 41 rfl rfl dB_maskIn_41
    · refine xR_aln 15 0 dB_maskIn_15 rfl rfl ?_
      refine xR_getf 16 xcf0 0 (72 + t) (by decide) (xk_B ht) (xC_brd ht) (v := .ref (xa G (36 + (xtb t)))) rfl fl_RX0_14 dB_maskIn_16 ?_
      refine xR_iln 19 3 dB_maskIn_19 rfl rfl ?_
      refine xR_ic 20 (5 : Int32) dB_maskIn_20 (by decide) ?_
      refine xR_callVi 21 cv_T_get ml_RX0_24 ⟨Nat.le_of_ble_eq_true rfl, Nat.le_of_ble_eq_true rfl⟩ xcf3 rfl (36 + (xtb t)) (xk_T (xtb_lt ht)) (xC_tab (xtb_lt ht)) [.int v3, .int (5 : Int32)] rfl rfl (Nat.le_of_ble_eq_true rfl) dB_maskIn_21 (kT_get G (xtb t) (xtb_lt ht) z m v3 (5 : Int32)) (fun r21 => ?_)
      refine xR_iln 24 1 dB_maskIn_24 rfl rfl ?_
      refine xR_icne 25 34 dB_maskIn_25 (by decide) ?_ ?_
      · exact kB_maskIn_b34 G t ht z m (fB_maskIn_l4 t m n) ih v1 v2 v3
      · refine xR_iln 28 2 dB_maskIn_28 rfl rfl ?_
        refine xR_ic 29 (1 : Int32) dB_maskIn_29 (by decide) ?_
        refine xR_iln 30 3 dB_maskIn_30 rfl rfl ?_
        refine xR_ishl 31 dB_maskIn_31 ?_
        refine xR_ior 32 dB_maskIn_32 ?_
        refine xR_isn 33 ([(2, .int (v2 ||| ((1 : Int32) <<< (v3 &&& 31)))), (0, .ref (xa G (72 + t))), (1, .int v1), (3, .int v3)]) dB_maskIn_33 rfl (by decide) rfl ?_
        exact xR_sub [1, 2, 0, 3] rfl (kB_maskIn_b34 G t ht z m (fB_maskIn_l4 t m n) ih v1 (v2 ||| ((1 : Int32) <<< (v3 &&& 31))) v3)
set_option maxRecDepth 100000 in
set_option maxHeartbeats 4000000 in
theorem kB_maskIn (G : xG) (t : Nat) (ht : t < 5) (z : xM) (m : xM) (v1 : Int32) : ∀ a, fB_maskIn t m v1 = some a → xCt G yyB_maskIn [.ref (xa G (72 + t)), .int v1] (m, z) (some (.int a)) (m, z) := by
  refine xR_ct (em := (emi (m, z))) rfl (Nat.le_of_ble_eq_true rfl) ?_
  show xR G yyB_maskIn _ 0 [(0, .ref (xa G (72 + t))), (1, .int v1)] [] _ _
  unfold fB_maskIn
  refine xR_ic 0 (0 : Int32) dB_maskIn_0 (by decide) ?_
  refine xR_isn 1 ([(2, .int (0 : Int32)), (0, .ref (xa G (72 + t))), (1, .int v1)]) dB_maskIn_1 rfl (by decide) rfl ?_
  refine xR_ic 2 (0 : Int32) dB_maskIn_2 (by decide) ?_
  refine xR_isn 3 ([(3, .int (0 : Int32)), (2, .int (0 : Int32)), (0, .ref (xa G (72 + t))), (1, .int v1)]) dB_maskIn_3 rfl (by decide) rfl ?_
  exact xR_sub [2, 3, 1, 0] rfl (kB_maskIn_l4 G t ht z m xfu v1 (0 : Int32) (0 : Int32))
theorem dB_manyIn_0 : decode (xb yyB_manyIn) 0 = .ok (.aload_n 0, 1) := by decide +kernel
theorem dB_manyIn_1 : decode (xb yyB_manyIn) 1 = .ok (.iload_n 1, 1) := by decide +kernel
theorem dB_manyIn_2 : decode (xb yyB_manyIn) 2 = .ok (.invokevirtual 46, 3) := by decide +kernel
theorem dB_manyIn_5 : decode (xb yyB_manyIn) 5 = .ok (.invokestatic 50, 3) := by decide +kernel
theorem dB_manyIn_8 : decode (xb yyB_manyIn) 8 = .ok (.ireturn, 1) := by decide +kernel
def fB_manyIn (t : Nat) (m : xM) (v1 : Int32) : Option (Int32) := (fB_maskIn t m v1).bind fun r2 => (fJ_bitCount r2).bind fun r5 => some r5
set_option maxRecDepth 100000 in
set_option maxHeartbeats 4000000 in
theorem kB_manyIn (G : xG) (t : Nat) (ht : t < 5) (z : xM) (m : xM) (v1 : Int32) : ∀ a, fB_manyIn t m v1 = some a → xCt G yyB_manyIn [.ref (xa G (72 + t)), .int v1] (m, z) (some (.int a)) (m, z) := by
  refine xR_ct (em := (emi (m, z))) rfl (Nat.le_of_ble_eq_true rfl) ?_
  show xR G yyB_manyIn _ 0 [(0, .ref (xa G (72 + t))), (1, .int v1)] [] _ _
  unfold fB_manyIn
  refine xR_aln 0 0 dB_manyIn_0 rfl rfl ?_
  refine xR_iln 1 1 dB_manyIn_1 rfl rfl ?_
  refine xR_callVi 2 cv_B_maskIn ml_RX0_46 ⟨Nat.le_of_ble_eq_true rfl, Nat.le_of_ble_eq_true rfl⟩ xcf0 rfl (72 + t) (xk_B ht) (xC_brd ht) [.int v1] rfl rfl (Nat.le_of_ble_eq_true rfl) dB_manyIn_2 (kB_maskIn G t ht z m v1) (fun r2 => ?_)
  refine xR_callSi 5 cs_J_bitCount ml_RX0_50 ⟨Nat.le_of_ble_eq_true rfl, Nat.le_of_ble_eq_true rfl⟩ [.int r2] rfl rfl (Nat.le_of_ble_eq_true rfl) dB_manyIn_5 (kJ_bitCount G (m, z) r2) (fun r5 => ?_)
  exact xR_iret 8 rfl rfl dB_manyIn_8
theorem dB_wormyNext_0 : decode (xb yyB_wormyNext) 0 = .ok (.iconst 0, 1) := by decide +kernel
theorem dB_wormyNext_1 : decode (xb yyB_wormyNext) 1 = .ok (.istore_n 1, 1) := by decide +kernel
theorem dB_wormyNext_2 : decode (xb yyB_wormyNext) 2 = .ok (.iconst 0, 1) := by decide +kernel
theorem dB_wormyNext_3 : decode (xb yyB_wormyNext) 3 = .ok (.istore_n 2, 1) := by decide +kernel
theorem dB_wormyNext_4 : decode (xb yyB_wormyNext) 4 = .ok (.iload_n 2, 1) := by decide +kernel
theorem dB_wormyNext_5 : decode (xb yyB_wormyNext) 5 = .ok (.aload_n 0, 1) := by decide +kernel
theorem dB_wormyNext_6 : decode (xb yyB_wormyNext) 6 = .ok (.getfield 14, 3) := by decide +kernel
theorem dB_wormyNext_9 : decode (xb yyB_wormyNext) 9 = .ok (.invokevirtual 20, 3) := by decide +kernel
theorem dB_wormyNext_12 : decode (xb yyB_wormyNext) 12 = .ok (.if_icmp .ge 133, 3) := by decide +kernel
theorem dB_wormyNext_15 : decode (xb yyB_wormyNext) 15 = .ok (.aload_n 0, 1) := by decide +kernel
theorem dB_wormyNext_16 : decode (xb yyB_wormyNext) 16 = .ok (.getfield 14, 3) := by decide +kernel
theorem dB_wormyNext_19 : decode (xb yyB_wormyNext) 19 = .ok (.iload_n 2, 1) := by decide +kernel
theorem dB_wormyNext_20 : decode (xb yyB_wormyNext) 20 = .ok (.iconst 4, 1) := by decide +kernel
theorem dB_wormyNext_21 : decode (xb yyB_wormyNext) 21 = .ok (.invokevirtual 24, 3) := by decide +kernel
theorem dB_wormyNext_24 : decode (xb yyB_wormyNext) 24 = .ok (.iconst 1, 1) := by decide +kernel
theorem dB_wormyNext_25 : decode (xb yyB_wormyNext) 25 = .ok (.if_icmp .ne 114, 3) := by decide +kernel
theorem dB_wormyNext_28 : decode (xb yyB_wormyNext) 28 = .ok (.iload_n 2, 1) := by decide +kernel
theorem dB_wormyNext_29 : decode (xb yyB_wormyNext) 29 = .ok (.ifCond .le 30, 3) := by decide +kernel
theorem dB_wormyNext_32 : decode (xb yyB_wormyNext) 32 = .ok (.aload_n 0, 1) := by decide +kernel
theorem dB_wormyNext_33 : decode (xb yyB_wormyNext) 33 = .ok (.getfield 14, 3) := by decide +kernel
theorem dB_wormyNext_36 : decode (xb yyB_wormyNext) 36 = .ok (.iload_n 2, 1) := by decide +kernel
theorem dB_wormyNext_37 : decode (xb yyB_wormyNext) 37 = .ok (.iconst 1, 1) := by decide +kernel
theorem dB_wormyNext_38 : decode (xb yyB_wormyNext) 38 = .ok (.isub, 1) := by decide +kernel
theorem dB_wormyNext_39 : decode (xb yyB_wormyNext) 39 = .ok (.iconst 5, 1) := by decide +kernel
theorem dB_wormyNext_40 : decode (xb yyB_wormyNext) 40 = .ok (.invokevirtual 24, 3) := by decide +kernel
theorem dB_wormyNext_43 : decode (xb yyB_wormyNext) 43 = .ok (.aload_n 0, 1) := by decide +kernel
theorem dB_wormyNext_44 : decode (xb yyB_wormyNext) 44 = .ok (.getfield 14, 3) := by decide +kernel
theorem dB_wormyNext_47 : decode (xb yyB_wormyNext) 47 = .ok (.iload_n 2, 1) := by decide +kernel
theorem dB_wormyNext_48 : decode (xb yyB_wormyNext) 48 = .ok (.iconst 5, 1) := by decide +kernel
theorem dB_wormyNext_49 : decode (xb yyB_wormyNext) 49 = .ok (.invokevirtual 24, 3) := by decide +kernel
theorem dB_wormyNext_52 : decode (xb yyB_wormyNext) 52 = .ok (.if_icmp .ne 7, 3) := by decide +kernel
theorem dB_wormyNext_55 : decode (xb yyB_wormyNext) 55 = .ok (.iconst 1, 1) := by decide +kernel
theorem dB_wormyNext_56 : decode (xb yyB_wormyNext) 56 = .ok (.goto 4, 3) := by decide +kernel
theorem dB_wormyNext_59 : decode (xb yyB_wormyNext) 59 = .ok (.iconst 0, 1) := by decide +kernel
theorem dB_wormyNext_60 : decode (xb yyB_wormyNext) 60 = .ok (.istore_n 3, 1) := by decide +kernel
theorem dB_wormyNext_61 : decode (xb yyB_wormyNext) 61 = .ok (.iload_n 2, 1) := by decide +kernel
theorem dB_wormyNext_62 : decode (xb yyB_wormyNext) 62 = .ok (.iconst 1, 1) := by decide +kernel
theorem dB_wormyNext_63 : decode (xb yyB_wormyNext) 63 = .ok (.iadd, 1) := by decide +kernel
theorem dB_wormyNext_64 : decode (xb yyB_wormyNext) 64 = .ok (.aload_n 0, 1) := by decide +kernel
theorem dB_wormyNext_65 : decode (xb yyB_wormyNext) 65 = .ok (.getfield 14, 3) := by decide +kernel
theorem dB_wormyNext_68 : decode (xb yyB_wormyNext) 68 = .ok (.invokevirtual 20, 3) := by decide +kernel
theorem dB_wormyNext_71 : decode (xb yyB_wormyNext) 71 = .ok (.if_icmp .ge 30, 3) := by decide +kernel
theorem dB_wormyNext_74 : decode (xb yyB_wormyNext) 74 = .ok (.aload_n 0, 1) := by decide +kernel
theorem dB_wormyNext_75 : decode (xb yyB_wormyNext) 75 = .ok (.getfield 14, 3) := by decide +kernel
theorem dB_wormyNext_78 : decode (xb yyB_wormyNext) 78 = .ok (.iload_n 2, 1) := by decide +kernel
theorem dB_wormyNext_79 : decode (xb yyB_wormyNext) 79 = .ok (.iconst 1, 1) := by decide +kernel
theorem dB_wormyNext_80 : decode (xb yyB_wormyNext) 80 = .ok (.iadd, 1) := by decide +kernel
theorem dB_wormyNext_81 : decode (xb yyB_wormyNext) 81 = .ok (.iconst 5, 1) := by decide +kernel
theorem dB_wormyNext_82 : decode (xb yyB_wormyNext) 82 = .ok (.invokevirtual 24, 3) := by decide +kernel
theorem dB_wormyNext_85 : decode (xb yyB_wormyNext) 85 = .ok (.aload_n 0, 1) := by decide +kernel
theorem dB_wormyNext_86 : decode (xb yyB_wormyNext) 86 = .ok (.getfield 14, 3) := by decide +kernel
theorem dB_wormyNext_89 : decode (xb yyB_wormyNext) 89 = .ok (.iload_n 2, 1) := by decide +kernel
theorem dB_wormyNext_90 : decode (xb yyB_wormyNext) 90 = .ok (.iconst 5, 1) := by decide +kernel
theorem dB_wormyNext_91 : decode (xb yyB_wormyNext) 91 = .ok (.invokevirtual 24, 3) := by decide +kernel
theorem dB_wormyNext_94 : decode (xb yyB_wormyNext) 94 = .ok (.if_icmp .ne 7, 3) := by decide +kernel
theorem dB_wormyNext_97 : decode (xb yyB_wormyNext) 97 = .ok (.iconst 1, 1) := by decide +kernel
theorem dB_wormyNext_98 : decode (xb yyB_wormyNext) 98 = .ok (.goto 4, 3) := by decide +kernel
theorem dB_wormyNext_101 : decode (xb yyB_wormyNext) 101 = .ok (.iconst 0, 1) := by decide +kernel
theorem dB_wormyNext_102 : decode (xb yyB_wormyNext) 102 = .ok (.istore 4, 2) := by decide +kernel
theorem dB_wormyNext_104 : decode (xb yyB_wormyNext) 104 = .ok (.iload_n 1, 1) := by decide +kernel
theorem dB_wormyNext_105 : decode (xb yyB_wormyNext) 105 = .ok (.iconst 1, 1) := by decide +kernel
theorem dB_wormyNext_106 : decode (xb yyB_wormyNext) 106 = .ok (.iload_n 2, 1) := by decide +kernel
theorem dB_wormyNext_107 : decode (xb yyB_wormyNext) 107 = .ok (.ishl, 1) := by decide +kernel
theorem dB_wormyNext_108 : decode (xb yyB_wormyNext) 108 = .ok (.iload_n 3, 1) := by decide +kernel
theorem dB_wormyNext_109 : decode (xb yyB_wormyNext) 109 = .ok (.ifCond .eq 11, 3) := by decide +kernel
theorem dB_wormyNext_112 : decode (xb yyB_wormyNext) 112 = .ok (.iconst 1, 1) := by decide +kernel
theorem dB_wormyNext_113 : decode (xb yyB_wormyNext) 113 = .ok (.iload_n 2, 1) := by decide +kernel
theorem dB_wormyNext_114 : decode (xb yyB_wormyNext) 114 = .ok (.iconst 1, 1) := by decide +kernel
theorem dB_wormyNext_115 : decode (xb yyB_wormyNext) 115 = .ok (.isub, 1) := by decide +kernel
theorem dB_wormyNext_116 : decode (xb yyB_wormyNext) 116 = .ok (.ishl, 1) := by decide +kernel
theorem dB_wormyNext_117 : decode (xb yyB_wormyNext) 117 = .ok (.goto 4, 3) := by decide +kernel
theorem dB_wormyNext_120 : decode (xb yyB_wormyNext) 120 = .ok (.iconst 0, 1) := by decide +kernel
theorem dB_wormyNext_121 : decode (xb yyB_wormyNext) 121 = .ok (.ior, 1) := by decide +kernel
theorem dB_wormyNext_122 : decode (xb yyB_wormyNext) 122 = .ok (.iload 4, 2) := by decide +kernel
theorem dB_wormyNext_124 : decode (xb yyB_wormyNext) 124 = .ok (.ifCond .eq 11, 3) := by decide +kernel
theorem dB_wormyNext_127 : decode (xb yyB_wormyNext) 127 = .ok (.iconst 1, 1) := by decide +kernel
theorem dB_wormyNext_128 : decode (xb yyB_wormyNext) 128 = .ok (.iload_n 2, 1) := by decide +kernel
theorem dB_wormyNext_129 : decode (xb yyB_wormyNext) 129 = .ok (.iconst 1, 1) := by decide +kernel
theorem dB_wormyNext_130 : decode (xb yyB_wormyNext) 130 = .ok (.iadd, 1) := by decide +kernel
theorem dB_wormyNext_131 : decode (xb yyB_wormyNext) 131 = .ok (.ishl, 1) := by decide +kernel
theorem dB_wormyNext_132 : decode (xb yyB_wormyNext) 132 = .ok (.goto 4, 3) := by decide +kernel
theorem dB_wormyNext_135 : decode (xb yyB_wormyNext) 135 = .ok (.iconst 0, 1) := by decide +kernel
theorem dB_wormyNext_136 : decode (xb yyB_wormyNext) 136 = .ok (.ior, 1) := by decide +kernel
theorem dB_wormyNext_137 : decode (xb yyB_wormyNext) 137 = .ok (.ior, 1) := by decide +kernel
theorem dB_wormyNext_138 : decode (xb yyB_wormyNext) 138 = .ok (.istore_n 1, 1) := by decide +kernel
theorem dB_wormyNext_139 : decode (xb yyB_wormyNext) 139 = .ok (.iinc 2 1, 3) := by decide +kernel
theorem dB_wormyNext_142 : decode (xb yyB_wormyNext) 142 = .ok (.goto (-138), 3) := by decide +kernel
theorem dB_wormyNext_145 : decode (xb yyB_wormyNext) 145 = .ok (.iload_n 1, 1) := by decide +kernel
theorem dB_wormyNext_146 : decode (xb yyB_wormyNext) 146 = .ok (.ireturn, 1) := by decide +kernel
def fB_wormyNext_b139 (t : Nat) (m : xM) (k4 : Int32 → Int32 → Option (Int32)) (v1 : Int32) (v2 : Int32) : Option (Int32) := k4 v1 (v2 + 1)
def fB_wormyNext_b136 (t : Nat) (m : xM) (k4 : Int32 → Int32 → Option (Int32)) (v2 : Int32) (s0 : Int32) (s1 : Int32) (s2 : Int32) : Option (Int32) := fB_wormyNext_b139 t m k4 (s2 ||| (s1 ||| s0)) v2
def fB_wormyNext_b121 (t : Nat) (m : xM) (k4 : Int32 → Int32 → Option (Int32)) (v2 : Int32) (v4 : Int32) (s0 : Int32) (s1 : Int32) (s2 : Int32) : Option (Int32) := (if v4 = 0 then fB_wormyNext_b136 t m k4 v2 (0 : Int32) (s1 ||| s0) s2 else fB_wormyNext_b136 t m k4 v2 ((1 : Int32) <<< ((v2 + (1 : Int32)) &&& 31)) (s1 ||| s0) s2)
def fB_wormyNext_b102 (t : Nat) (m : xM) (k4 : Int32 → Int32 → Option (Int32)) (v1 : Int32) (v2 : Int32) (v3 : Int32) (s0 : Int32) : Option (Int32) := (if v3 = 0 then fB_wormyNext_b121 t m k4 v2 s0 (0 : Int32) ((1 : Int32) <<< (v2 &&& 31)) v1 else fB_wormyNext_b121 t m k4 v2 s0 ((1 : Int32) <<< ((v2 - (1 : Int32)) &&& 31)) ((1 : Int32) <<< (v2 &&& 31)) v1)
def fB_wormyNext_b101 (t : Nat) (m : xM) (k4 : Int32 → Int32 → Option (Int32)) (v1 : Int32) (v2 : Int32) (v3 : Int32) : Option (Int32) := fB_wormyNext_b102 t m k4 v1 v2 v3 (0 : Int32)
def fB_wormyNext_b60 (t : Nat) (m : xM) (k4 : Int32 → Int32 → Option (Int32)) (v1 : Int32) (v2 : Int32) (s0 : Int32) : Option (Int32) := (fT_many (xtb t) m).bind fun r68 => (if r68 ≤ (v2 + (1 : Int32)) then fB_wormyNext_b101 t m k4 v1 v2 s0 else (fT_get (xtb t) m (v2 + (1 : Int32)) (5 : Int32)).bind fun r82 => (fT_get (xtb t) m v2 (5 : Int32)).bind fun r91 => (if r82 = r91 then fB_wormyNext_b102 t m k4 v1 v2 s0 (1 : Int32) else fB_wormyNext_b101 t m k4 v1 v2 s0))
def fB_wormyNext_b59 (t : Nat) (m : xM) (k4 : Int32 → Int32 → Option (Int32)) (v1 : Int32) (v2 : Int32) : Option (Int32) := fB_wormyNext_b60 t m k4 v1 v2 (0 : Int32)
def fB_wormyNext_l4 (t : Nat) (m : xM) : Nat → Int32 → Int32 → Option (Int32)
  | 0, _, _ => none
  | n + 1, v1, v2 => (fT_many (xtb t) m).bind fun r9 => (if r9 ≤ v2 then some v1 else (fT_get (xtb t) m v2 (4 : Int32)).bind fun r21 => (if r21 = (1 : Int32) then (if v2 ≤ 0 then fB_wormyNext_b59 t m (fB_wormyNext_l4 t m n) v1 v2 else (fT_get (xtb t) m (v2 - (1 : Int32)) (5 : Int32)).bind fun r40 => (fT_get (xtb t) m v2 (5 : Int32)).bind fun r49 => (if r40 = r49 then fB_wormyNext_b60 t m (fB_wormyNext_l4 t m n) v1 v2 (1 : Int32) else fB_wormyNext_b59 t m (fB_wormyNext_l4 t m n) v1 v2)) else fB_wormyNext_b139 t m (fB_wormyNext_l4 t m n) v1 v2))
def fB_wormyNext (t : Nat) (m : xM) : Option (Int32) := fB_wormyNext_l4 t m xfu (0 : Int32) (0 : Int32)
set_option maxRecDepth 100000 in
set_option maxHeartbeats 4000000 in
theorem kB_wormyNext_b139 (G : xG) (t : Nat) (ht : t < 5) (z : xM) (m : xM) (k4 : Int32 → Int32 → Option (Int32)) (hk4 : ∀ (v1 : Int32) (v2 : Int32), xR G yyB_wormyNext (emi (m, z)) 4 [(0, .ref (xa G (72 + t))), (1, .int v1), (2, .int v2)] [] (m, z) (k4 v1 v2)) (v1 : Int32) (v2 : Int32) : xR G yyB_wormyNext (emi (m, z)) 139 [(0, .ref (xa G (72 + t))), (1, .int v1), (2, .int v2)] [] (m, z) (fB_wormyNext_b139 t m k4 v1 v2) := by
  unfold fB_wormyNext_b139
  refine xR_iinc 139 2 (v2 + 1) ([(2, .int (v2 + 1)), (0, .ref (xa G (72 + t))), (1, .int v1)]) dB_wormyNext_139 rfl rfl (by decide) rfl ?_
  refine xR_goto 142 4 dB_wormyNext_142 (by decide) ?_
  exact xR_sub [1, 2, 0] rfl (hk4 v1 (v2 + 1))
set_option maxRecDepth 100000 in
set_option maxHeartbeats 4000000 in
theorem kB_wormyNext_b136 (G : xG) (t : Nat) (ht : t < 5) (z : xM) (m : xM) (k4 : Int32 → Int32 → Option (Int32)) (hk4 : ∀ (v1 : Int32) (v2 : Int32), xR G yyB_wormyNext (emi (m, z)) 4 [(0, .ref (xa G (72 + t))), (1, .int v1), (2, .int v2)] [] (m, z) (k4 v1 v2)) (v2 : Int32) (s0 : Int32) (s1 : Int32) (s2 : Int32) : xR G yyB_wormyNext (emi (m, z)) 136 [(0, .ref (xa G (72 + t))), (2, .int v2)] [.int s0, .int s1, .int s2] (m, z) (fB_wormyNext_b136 t m k4 v2 s0 s1 s2) := by
  unfold fB_wormyNext_b136
  refine xR_ior 136 dB_wormyNext_136 ?_
  refine xR_ior 137 dB_wormyNext_137 ?_
  refine xR_isn 138 ([(1, .int (s2 ||| (s1 ||| s0))), (0, .ref (xa G (72 + t))), (2, .int v2)]) dB_wormyNext_138 rfl (by decide) rfl ?_
  exact xR_sub [1, 0, 2] rfl (kB_wormyNext_b139 G t ht z m k4 hk4 (s2 ||| (s1 ||| s0)) v2)
set_option maxRecDepth 100000 in
set_option maxHeartbeats 4000000 in
theorem kB_wormyNext_b121 (G : xG) (t : Nat) (ht : t < 5) (z : xM) (m : xM) (k4 : Int32 → Int32 → Option (Int32)) (hk4 : ∀ (v1 : Int32) (v2 : Int32), xR G yyB_wormyNext (emi (m, z)) 4 [(0, .ref (xa G (72 + t))), (1, .int v1), (2, .int v2)] [] (m, z) (k4 v1 v2)) (v2 : Int32) (v4 : Int32) (s0 : Int32) (s1 : Int32) (s2 : Int32) : xR G yyB_wormyNext (emi (m, z)) 121 [(0, .ref (xa G (72 + t))), (2, .int v2), (4, .int v4)] [.int s0, .int s1, .int s2] (m, z) (fB_wormyNext_b121 t m k4 v2 v4 s0 s1 s2) := by
  unfold fB_wormyNext_b121
  refine xR_ior 121 dB_wormyNext_121 ?_
  refine xR_il 122 2 dB_wormyNext_122 rfl ?_
  refine xR_ifeq 124 135 dB_wormyNext_124 (by decide) ?_ ?_
  · refine xR_ic 135 (0 : Int32) dB_wormyNext_135 (by decide) ?_
    exact xR_sub [0, 1] rfl (kB_wormyNext_b136 G t ht z m k4 hk4 v2 (0 : Int32) (s1 ||| s0) s2)
  · refine xR_ic 127 (1 : Int32) dB_wormyNext_127 (by decide) ?_
    refine xR_iln 128 1 dB_wormyNext_128 rfl rfl ?_
    refine xR_ic 129 (1 : Int32) dB_wormyNext_129 (by decide) ?_
    refine xR_iadd 130 dB_wormyNext_130 ?_
    refine xR_ishl 131 dB_wormyNext_131 ?_
    refine xR_goto 132 136 dB_wormyNext_132 (by decide) ?_
    exact xR_sub [0, 1] rfl (kB_wormyNext_b136 G t ht z m k4 hk4 v2 ((1 : Int32) <<< ((v2 + (1 : Int32)) &&& 31)) (s1 ||| s0) s2)
set_option maxRecDepth 100000 in
set_option maxHeartbeats 4000000 in
theorem kB_wormyNext_b102 (G : xG) (t : Nat) (ht : t < 5) (z : xM) (m : xM) (k4 : Int32 → Int32 → Option (Int32)) (hk4 : ∀ (v1 : Int32) (v2 : Int32), xR G yyB_wormyNext (emi (m, z)) 4 [(0, .ref (xa G (72 + t))), (1, .int v1), (2, .int v2)] [] (m, z) (k4 v1 v2)) (v1 : Int32) (v2 : Int32) (v3 : Int32) (s0 : Int32) : xR G yyB_wormyNext (emi (m, z)) 102 [(0, .ref (xa G (72 + t))), (1, .int v1), (2, .int v2), (3, .int v3)] [.int s0] (m, z) (fB_wormyNext_b102 t m k4 v1 v2 v3 s0) := by
  unfold fB_wormyNext_b102
  refine xR_is 102 ([(4, .int s0), (0, .ref (xa G (72 + t))), (1, .int v1), (2, .int v2), (3, .int v3)]) dB_wormyNext_102 (by decide) rfl ?_
  refine xR_iln 104 2 dB_wormyNext_104 rfl rfl ?_
  refine xR_ic 105 (1 : Int32) dB_wormyNext_105 (by decide) ?_
  refine xR_iln 106 3 dB_wormyNext_106 rfl rfl ?_
  refine xR_ishl 107 dB_wormyNext_107 ?_
  refine xR_iln 108 4 dB_wormyNext_108 rfl rfl ?_
  refine xR_ifeq 109 120 dB_wormyNext_109 (by decide) ?_ ?_
  · refine xR_ic 120 (0 : Int32) dB_wormyNext_120 (by decide) ?_
    exact xR_sub [1, 3, 0] rfl (kB_wormyNext_b121 G t ht z m k4 hk4 v2 s0 (0 : Int32) ((1 : Int32) <<< (v2 &&& 31)) v1)
  · refine xR_ic 112 (1 : Int32) dB_wormyNext_112 (by decide) ?_
    refine xR_iln 113 3 dB_wormyNext_113 rfl rfl ?_
    refine xR_ic 114 (1 : Int32) dB_wormyNext_114 (by decide) ?_
    refine xR_isub 115 dB_wormyNext_115 ?_
    refine xR_ishl 116 dB_wormyNext_116 ?_
    refine xR_goto 117 121 dB_wormyNext_117 (by decide) ?_
    exact xR_sub [1, 3, 0] rfl (kB_wormyNext_b121 G t ht z m k4 hk4 v2 s0 ((1 : Int32) <<< ((v2 - (1 : Int32)) &&& 31)) ((1 : Int32) <<< (v2 &&& 31)) v1)
set_option maxRecDepth 100000 in
set_option maxHeartbeats 4000000 in
theorem kB_wormyNext_b101 (G : xG) (t : Nat) (ht : t < 5) (z : xM) (m : xM) (k4 : Int32 → Int32 → Option (Int32)) (hk4 : ∀ (v1 : Int32) (v2 : Int32), xR G yyB_wormyNext (emi (m, z)) 4 [(0, .ref (xa G (72 + t))), (1, .int v1), (2, .int v2)] [] (m, z) (k4 v1 v2)) (v1 : Int32) (v2 : Int32) (v3 : Int32) : xR G yyB_wormyNext (emi (m, z)) 101 [(0, .ref (xa G (72 + t))), (1, .int v1), (2, .int v2), (3, .int v3)] [] (m, z) (fB_wormyNext_b101 t m k4 v1 v2 v3) := by
  unfold fB_wormyNext_b101
  refine xR_ic 101 (0 : Int32) dB_wormyNext_101 (by decide) ?_
  exact kB_wormyNext_b102 G t ht z m k4 hk4 v1 v2 v3 (0 : Int32)
set_option maxRecDepth 100000 in
set_option maxHeartbeats 4000000 in
theorem kB_wormyNext_b60 (G : xG) (t : Nat) (ht : t < 5) (z : xM) (m : xM) (k4 : Int32 → Int32 → Option (Int32)) (hk4 : ∀ (v1 : Int32) (v2 : Int32), xR G yyB_wormyNext (emi (m, z)) 4 [(0, .ref (xa G (72 + t))), (1, .int v1), (2, .int v2)] [] (m, z) (k4 v1 v2)) (v1 : Int32) (v2 : Int32) (s0 : Int32) : xR G yyB_wormyNext (emi (m, z)) 60 [(0, .ref (xa G (72 + t))), (1, .int v1), (2, .int v2)] [.int s0] (m, z) (fB_wormyNext_b60 t m k4 v1 v2 s0) := by
  unfold fB_wormyNext_b60
  refine xR_isn 60 ([(3, .int s0), (0, .ref (xa G (72 + t))), (1, .int v1), (2, .int v2)]) dB_wormyNext_60 rfl (by decide) rfl ?_
  refine xR_iln 61 3 dB_wormyNext_61 rfl rfl ?_
  refine xR_ic 62 (1 : Int32) dB_wormyNext_62 (by decide) ?_
  refine xR_iadd 63 dB_wormyNext_63 ?_
  refine xR_aln 64 1 dB_wormyNext_64 rfl rfl ?_
  refine xR_getf 65 xcf0 0 (72 + t) (by decide) (xk_B ht) (xC_brd ht) (v := .ref (xa G (36 + (xtb t)))) rfl fl_RX0_14 dB_wormyNext_65 ?_
  refine xR_callVi 68 cv_T_many ml_RX0_20 ⟨Nat.le_of_ble_eq_true rfl, Nat.le_of_ble_eq_true rfl⟩ xcf3 rfl (36 + (xtb t)) (xk_T (xtb_lt ht)) (xC_tab (xtb_lt ht)) [] rfl rfl (Nat.le_of_ble_eq_true rfl) dB_wormyNext_68 (kT_many G (xtb t) (xtb_lt ht) z m) (fun r68 => ?_)
  refine xR_icge 71 101 dB_wormyNext_71 (by decide) ?_ ?_
  · exact xR_sub [1, 2, 3, 0] rfl (kB_wormyNext_b101 G t ht z m k4 hk4 v1 v2 s0)
  · refine xR_aln 74 1 dB_wormyNext_74 rfl rfl ?_
    refine xR_getf 75 xcf0 0 (72 + t) (by decide) (xk_B ht) (xC_brd ht) (v := .ref (xa G (36 + (xtb t)))) rfl fl_RX0_14 dB_wormyNext_75 ?_
    refine xR_iln 78 3 dB_wormyNext_78 rfl rfl ?_
    refine xR_ic 79 (1 : Int32) dB_wormyNext_79 (by decide) ?_
    refine xR_iadd 80 dB_wormyNext_80 ?_
    refine xR_ic 81 (5 : Int32) dB_wormyNext_81 (by decide) ?_
    refine xR_callVi 82 cv_T_get ml_RX0_24 ⟨Nat.le_of_ble_eq_true rfl, Nat.le_of_ble_eq_true rfl⟩ xcf3 rfl (36 + (xtb t)) (xk_T (xtb_lt ht)) (xC_tab (xtb_lt ht)) [.int (v2 + (1 : Int32)), .int (5 : Int32)] rfl rfl (Nat.le_of_ble_eq_true rfl) dB_wormyNext_82 (kT_get G (xtb t) (xtb_lt ht) z m (v2 + (1 : Int32)) (5 : Int32)) (fun r82 => ?_)
    refine xR_aln 85 1 dB_wormyNext_85 rfl rfl ?_
    refine xR_getf 86 xcf0 0 (72 + t) (by decide) (xk_B ht) (xC_brd ht) (v := .ref (xa G (36 + (xtb t)))) rfl fl_RX0_14 dB_wormyNext_86 ?_
    refine xR_iln 89 3 dB_wormyNext_89 rfl rfl ?_
    refine xR_ic 90 (5 : Int32) dB_wormyNext_90 (by decide) ?_
    refine xR_callVi 91 cv_T_get ml_RX0_24 ⟨Nat.le_of_ble_eq_true rfl, Nat.le_of_ble_eq_true rfl⟩ xcf3 rfl (36 + (xtb t)) (xk_T (xtb_lt ht)) (xC_tab (xtb_lt ht)) [.int v2, .int (5 : Int32)] rfl rfl (Nat.le_of_ble_eq_true rfl) dB_wormyNext_91 (kT_get G (xtb t) (xtb_lt ht) z m v2 (5 : Int32)) (fun r91 => ?_)
    refine xR_icne 94 101 dB_wormyNext_94 (by decide) ?_ ?_
    · exact xR_sub [1, 2, 3, 0] rfl (kB_wormyNext_b101 G t ht z m k4 hk4 v1 v2 s0)
    · refine xR_ic 97 (1 : Int32) dB_wormyNext_97 (by decide) ?_
      refine xR_goto 98 102 dB_wormyNext_98 (by decide) ?_
      exact xR_sub [1, 2, 3, 0] rfl (kB_wormyNext_b102 G t ht z m k4 hk4 v1 v2 s0 (1 : Int32))
set_option maxRecDepth 100000 in
set_option maxHeartbeats 4000000 in
theorem kB_wormyNext_b59 (G : xG) (t : Nat) (ht : t < 5) (z : xM) (m : xM) (k4 : Int32 → Int32 → Option (Int32)) (hk4 : ∀ (v1 : Int32) (v2 : Int32), xR G yyB_wormyNext (emi (m, z)) 4 [(0, .ref (xa G (72 + t))), (1, .int v1), (2, .int v2)] [] (m, z) (k4 v1 v2)) (v1 : Int32) (v2 : Int32) : xR G yyB_wormyNext (emi (m, z)) 59 [(0, .ref (xa G (72 + t))), (1, .int v1), (2, .int v2)] [] (m, z) (fB_wormyNext_b59 t m k4 v1 v2) := by
  unfold fB_wormyNext_b59
  refine xR_ic 59 (0 : Int32) dB_wormyNext_59 (by decide) ?_
  exact kB_wormyNext_b60 G t ht z m k4 hk4 v1 v2 (0 : Int32)
set_option maxRecDepth 100000 in
set_option maxHeartbeats 4000000 in
theorem kB_wormyNext_l4 (G : xG) (t : Nat) (ht : t < 5) (z : xM) (m : xM)   : ∀ (n : Nat) (v1 : Int32) (v2 : Int32), xR G yyB_wormyNext (emi (m, z)) 4 [(0, .ref (xa G (72 + t))), (1, .int v1), (2, .int v2)] [] (m, z) (fB_wormyNext_l4 t m n v1 v2) := by
  intro n
  induction n with
  | zero =>
    intro v1 v2
    rw [fB_wormyNext_l4]
    exact xR_none
  | succ n ih =>
    intro v1 v2
    rw [fB_wormyNext_l4]
    refine xR_iln 4 2 dB_wormyNext_4 rfl rfl ?_
    refine xR_aln 5 0 dB_wormyNext_5 rfl rfl ?_
    refine xR_getf 6 xcf0 0 (72 + t) (by decide) (xk_B ht) (xC_brd ht) (v := .ref (xa G (36 + (xtb t)))) rfl fl_RX0_14 dB_wormyNext_6 ?_
    refine xR_callVi 9 cv_T_many ml_RX0_20 ⟨Nat.le_of_ble_eq_true rfl, Nat.le_of_ble_eq_true rfl⟩ xcf3 rfl (36 + (xtb t)) (xk_T (xtb_lt ht)) (xC_tab (xtb_lt ht)) [] rfl rfl (Nat.le_of_ble_eq_true rfl) dB_wormyNext_9 (kT_many G (xtb t) (xtb_lt ht) z m) (fun r9 => ?_)
    refine xR_icge 12 145 dB_wormyNext_12 (by decide) ?_ ?_
    · refine xR_iln 145 1 dB_wormyNext_145 rfl rfl ?_
      exact xR_iret 146 rfl rfl dB_wormyNext_146
    · refine xR_aln 15 0 dB_wormyNext_15 rfl rfl ?_
      refine xR_getf 16 xcf0 0 (72 + t) (by decide) (xk_B ht) (xC_brd ht) (v := .ref (xa G (36 + (xtb t)))) rfl fl_RX0_14 dB_wormyNext_16 ?_
      refine xR_iln 19 2 dB_wormyNext_19 rfl rfl ?_
      refine xR_ic 20 (4 : Int32) dB_wormyNext_20 (by decide) ?_
      refine xR_callVi 21 cv_T_get ml_RX0_24 ⟨Nat.le_of_ble_eq_true rfl, Nat.le_of_ble_eq_true rfl⟩ xcf3 rfl (36 + (xtb t)) (xk_T (xtb_lt ht)) (xC_tab (xtb_lt ht)) [.int v2, .int (4 : Int32)] rfl rfl (Nat.le_of_ble_eq_true rfl) dB_wormyNext_21 (kT_get G (xtb t) (xtb_lt ht) z m v2 (4 : Int32)) (fun r21 => ?_)
      refine xR_ic 24 (1 : Int32) dB_wormyNext_24 (by decide) ?_
      refine xR_icne 25 139 dB_wormyNext_25 (by decide) ?_ ?_
      · exact kB_wormyNext_b139 G t ht z m (fB_wormyNext_l4 t m n) ih v1 v2
      · refine xR_iln 28 2 dB_wormyNext_28 rfl rfl ?_
        refine xR_ifle 29 59 dB_wormyNext_29 (by decide) ?_ ?_
        · exact kB_wormyNext_b59 G t ht z m (fB_wormyNext_l4 t m n) ih v1 v2
        · refine xR_aln 32 0 dB_wormyNext_32 rfl rfl ?_
          refine xR_getf 33 xcf0 0 (72 + t) (by decide) (xk_B ht) (xC_brd ht) (v := .ref (xa G (36 + (xtb t)))) rfl fl_RX0_14 dB_wormyNext_33 ?_
          refine xR_iln 36 2 dB_wormyNext_36 rfl rfl ?_
          refine xR_ic 37 (1 : Int32) dB_wormyNext_37 (by decide) ?_
          refine xR_isub 38 dB_wormyNext_38 ?_
          refine xR_ic 39 (5 : Int32) dB_wormyNext_39 (by decide) ?_
          refine xR_callVi 40 cv_T_get ml_RX0_24 ⟨Nat.le_of_ble_eq_true rfl, Nat.le_of_ble_eq_true rfl⟩ xcf3 rfl (36 + (xtb t)) (xk_T (xtb_lt ht)) (xC_tab (xtb_lt ht)) [.int (v2 - (1 : Int32)), .int (5 : Int32)] rfl rfl (Nat.le_of_ble_eq_true rfl) dB_wormyNext_40 (kT_get G (xtb t) (xtb_lt ht) z m (v2 - (1 : Int32)) (5 : Int32)) (fun r40 => ?_)
          refine xR_aln 43 0 dB_wormyNext_43 rfl rfl ?_
          refine xR_getf 44 xcf0 0 (72 + t) (by decide) (xk_B ht) (xC_brd ht) (v := .ref (xa G (36 + (xtb t)))) rfl fl_RX0_14 dB_wormyNext_44 ?_
          refine xR_iln 47 2 dB_wormyNext_47 rfl rfl ?_
          refine xR_ic 48 (5 : Int32) dB_wormyNext_48 (by decide) ?_
          refine xR_callVi 49 cv_T_get ml_RX0_24 ⟨Nat.le_of_ble_eq_true rfl, Nat.le_of_ble_eq_true rfl⟩ xcf3 rfl (36 + (xtb t)) (xk_T (xtb_lt ht)) (xC_tab (xtb_lt ht)) [.int v2, .int (5 : Int32)] rfl rfl (Nat.le_of_ble_eq_true rfl) dB_wormyNext_49 (kT_get G (xtb t) (xtb_lt ht) z m v2 (5 : Int32)) (fun r49 => ?_)
          refine xR_icne 52 59 dB_wormyNext_52 (by decide) ?_ ?_
          · exact kB_wormyNext_b59 G t ht z m (fB_wormyNext_l4 t m n) ih v1 v2
          · refine xR_ic 55 (1 : Int32) dB_wormyNext_55 (by decide) ?_
            refine xR_goto 56 60 dB_wormyNext_56 (by decide) ?_
            exact kB_wormyNext_b60 G t ht z m (fB_wormyNext_l4 t m n) ih v1 v2 (1 : Int32)
set_option maxRecDepth 100000 in
set_option maxHeartbeats 4000000 in
theorem kB_wormyNext (G : xG) (t : Nat) (ht : t < 5) (z : xM) (m : xM) : ∀ a, fB_wormyNext t m  = some a → xCt G yyB_wormyNext [.ref (xa G (72 + t))] (m, z) (some (.int a)) (m, z) := by
  refine xR_ct (em := (emi (m, z))) rfl (Nat.le_of_ble_eq_true rfl) ?_
  show xR G yyB_wormyNext _ 0 [(0, .ref (xa G (72 + t)))] [] _ _
  unfold fB_wormyNext
  refine xR_ic 0 (0 : Int32) dB_wormyNext_0 (by decide) ?_
  refine xR_isn 1 ([(1, .int (0 : Int32)), (0, .ref (xa G (72 + t)))]) dB_wormyNext_1 rfl (by decide) rfl ?_
  refine xR_ic 2 (0 : Int32) dB_wormyNext_2 (by decide) ?_
  refine xR_isn 3 ([(2, .int (0 : Int32)), (1, .int (0 : Int32)), (0, .ref (xa G (72 + t)))]) dB_wormyNext_3 rfl (by decide) rfl ?_
  exact xR_sub [2, 1, 0] rfl (kB_wormyNext_l4 G t ht z m xfu (0 : Int32) (0 : Int32))
theorem dB_moreDamp_0 : decode (xb yyB_moreDamp) 0 = .ok (.aload_n 0, 1) := by decide +kernel
theorem dB_moreDamp_1 : decode (xb yyB_moreDamp) 1 = .ok (.getfield 14, 3) := by decide +kernel
theorem dB_moreDamp_4 : decode (xb yyB_moreDamp) 4 = .ok (.iload_n 1, 1) := by decide +kernel
theorem dB_moreDamp_5 : decode (xb yyB_moreDamp) 5 = .ok (.iconst 2, 1) := by decide +kernel
theorem dB_moreDamp_6 : decode (xb yyB_moreDamp) 6 = .ok (.aload_n 0, 1) := by decide +kernel
theorem dB_moreDamp_7 : decode (xb yyB_moreDamp) 7 = .ok (.getfield 14, 3) := by decide +kernel
theorem dB_moreDamp_10 : decode (xb yyB_moreDamp) 10 = .ok (.iload_n 1, 1) := by decide +kernel
theorem dB_moreDamp_11 : decode (xb yyB_moreDamp) 11 = .ok (.iconst 2, 1) := by decide +kernel
theorem dB_moreDamp_12 : decode (xb yyB_moreDamp) 12 = .ok (.invokevirtual 24, 3) := by decide +kernel
theorem dB_moreDamp_15 : decode (xb yyB_moreDamp) 15 = .ok (.iload_n 2, 1) := by decide +kernel
theorem dB_moreDamp_16 : decode (xb yyB_moreDamp) 16 = .ok (.iadd, 1) := by decide +kernel
theorem dB_moreDamp_17 : decode (xb yyB_moreDamp) 17 = .ok (.bipush 9, 2) := by decide +kernel
theorem dB_moreDamp_19 : decode (xb yyB_moreDamp) 19 = .ok (.invokestatic 60, 3) := by decide +kernel
theorem dB_moreDamp_22 : decode (xb yyB_moreDamp) 22 = .ok (.invokevirtual 28, 3) := by decide +kernel
theorem dB_moreDamp_25 : decode (xb yyB_moreDamp) 25 = .ok (.return_, 1) := by decide +kernel
def fB_moreDamp (t : Nat) (v1 : Int32) (v2 : Int32) (m : xM) : Option (xM) := (fT_get (xtb t) m v1 (2 : Int32)).bind fun r12 => (fT_put (xtb t) v1 (2 : Int32) (xmin (r12 + v2) (9 : Int32)) m).bind fun r22 => some r22
set_option maxRecDepth 100000 in
set_option maxHeartbeats 4000000 in
theorem kB_moreDamp (G : xG) (t : Nat) (ht : t < 5) (z : xM) (m : xM) (v1 : Int32) (v2 : Int32) : ∀ a, fB_moreDamp t v1 v2 m = some a → xCt G yyB_moreDamp [.ref (xa G (72 + t)), .int v1, .int v2] (m, z) (none) (a, z) := by
  refine xR_ct (em := (emvc z)) rfl (Nat.le_of_ble_eq_true rfl) ?_
  show xR G yyB_moreDamp _ 0 [(0, .ref (xa G (72 + t))), (1, .int v1), (2, .int v2)] [] _ _
  unfold fB_moreDamp
  refine xR_aln 0 0 dB_moreDamp_0 rfl rfl ?_
  refine xR_getf 1 xcf0 0 (72 + t) (by decide) (xk_B ht) (xC_brd ht) (v := .ref (xa G (36 + (xtb t)))) rfl fl_RX0_14 dB_moreDamp_1 ?_
  refine xR_iln 4 1 dB_moreDamp_4 rfl rfl ?_
  refine xR_ic 5 (2 : Int32) dB_moreDamp_5 (by decide) ?_
  refine xR_aln 6 0 dB_moreDamp_6 rfl rfl ?_
  refine xR_getf 7 xcf0 0 (72 + t) (by decide) (xk_B ht) (xC_brd ht) (v := .ref (xa G (36 + (xtb t)))) rfl fl_RX0_14 dB_moreDamp_7 ?_
  refine xR_iln 10 1 dB_moreDamp_10 rfl rfl ?_
  refine xR_ic 11 (2 : Int32) dB_moreDamp_11 (by decide) ?_
  refine xR_callVi 12 cv_T_get ml_RX0_24 ⟨Nat.le_of_ble_eq_true rfl, Nat.le_of_ble_eq_true rfl⟩ xcf3 rfl (36 + (xtb t)) (xk_T (xtb_lt ht)) (xC_tab (xtb_lt ht)) [.int v1, .int (2 : Int32)] rfl rfl (Nat.le_of_ble_eq_true rfl) dB_moreDamp_12 (kT_get G (xtb t) (xtb_lt ht) z m v1 (2 : Int32)) (fun r12 => ?_)
  refine xR_iln 15 2 dB_moreDamp_15 rfl rfl ?_
  refine xR_iadd 16 dB_moreDamp_16 ?_
  refine xR_bp 17 (9 : Int32) dB_moreDamp_17 (by decide) ?_
  refine xR_mmin 19 ml_RX0_60 ⟨Nat.le_of_ble_eq_true rfl, Nat.le_of_ble_eq_true rfl⟩ dB_moreDamp_19 ?_
  refine xR_callVvc 22 cv_T_put ml_RX0_28 ⟨Nat.le_of_ble_eq_true rfl, Nat.le_of_ble_eq_true rfl⟩ xcf3 rfl (36 + (xtb t)) (xk_T (xtb_lt ht)) (xC_tab (xtb_lt ht)) [.int v1, .int (2 : Int32), .int (xmin (r12 + v2) (9 : Int32))] rfl rfl (Nat.le_of_ble_eq_true rfl) dB_moreDamp_22 (kT_put G (xtb t) (xtb_lt ht) z m v1 (2 : Int32) (xmin (r12 + v2) (9 : Int32))) (fun r22 => ?_)
  exact xR_vret 25 rfl rfl dB_moreDamp_25
theorem dB_lessDamp_0 : decode (xb yyB_lessDamp) 0 = .ok (.aload_n 0, 1) := by decide +kernel
theorem dB_lessDamp_1 : decode (xb yyB_lessDamp) 1 = .ok (.getfield 14, 3) := by decide +kernel
theorem dB_lessDamp_4 : decode (xb yyB_lessDamp) 4 = .ok (.iload_n 1, 1) := by decide +kernel
theorem dB_lessDamp_5 : decode (xb yyB_lessDamp) 5 = .ok (.iconst 2, 1) := by decide +kernel
theorem dB_lessDamp_6 : decode (xb yyB_lessDamp) 6 = .ok (.aload_n 0, 1) := by decide +kernel
theorem dB_lessDamp_7 : decode (xb yyB_lessDamp) 7 = .ok (.getfield 14, 3) := by decide +kernel
theorem dB_lessDamp_10 : decode (xb yyB_lessDamp) 10 = .ok (.iload_n 1, 1) := by decide +kernel
theorem dB_lessDamp_11 : decode (xb yyB_lessDamp) 11 = .ok (.iconst 2, 1) := by decide +kernel
theorem dB_lessDamp_12 : decode (xb yyB_lessDamp) 12 = .ok (.invokevirtual 24, 3) := by decide +kernel
theorem dB_lessDamp_15 : decode (xb yyB_lessDamp) 15 = .ok (.iload_n 2, 1) := by decide +kernel
theorem dB_lessDamp_16 : decode (xb yyB_lessDamp) 16 = .ok (.isub, 1) := by decide +kernel
theorem dB_lessDamp_17 : decode (xb yyB_lessDamp) 17 = .ok (.iconst 0, 1) := by decide +kernel
theorem dB_lessDamp_18 : decode (xb yyB_lessDamp) 18 = .ok (.invokestatic 55, 3) := by decide +kernel
theorem dB_lessDamp_21 : decode (xb yyB_lessDamp) 21 = .ok (.invokevirtual 28, 3) := by decide +kernel
theorem dB_lessDamp_24 : decode (xb yyB_lessDamp) 24 = .ok (.return_, 1) := by decide +kernel
def fB_lessDamp (t : Nat) (v1 : Int32) (v2 : Int32) (m : xM) : Option (xM) := (fT_get (xtb t) m v1 (2 : Int32)).bind fun r12 => (fT_put (xtb t) v1 (2 : Int32) (xmax (r12 - v2) (0 : Int32)) m).bind fun r21 => some r21
set_option maxRecDepth 100000 in
set_option maxHeartbeats 4000000 in
theorem kB_lessDamp (G : xG) (t : Nat) (ht : t < 5) (z : xM) (m : xM) (v1 : Int32) (v2 : Int32) : ∀ a, fB_lessDamp t v1 v2 m = some a → xCt G yyB_lessDamp [.ref (xa G (72 + t)), .int v1, .int v2] (m, z) (none) (a, z) := by
  refine xR_ct (em := (emvc z)) rfl (Nat.le_of_ble_eq_true rfl) ?_
  show xR G yyB_lessDamp _ 0 [(0, .ref (xa G (72 + t))), (1, .int v1), (2, .int v2)] [] _ _
  unfold fB_lessDamp
  refine xR_aln 0 0 dB_lessDamp_0 rfl rfl ?_
  refine xR_getf 1 xcf0 0 (72 + t) (by decide) (xk_B ht) (xC_brd ht) (v := .ref (xa G (36 + (xtb t)))) rfl fl_RX0_14 dB_lessDamp_1 ?_
  refine xR_iln 4 1 dB_lessDamp_4 rfl rfl ?_
  refine xR_ic 5 (2 : Int32) dB_lessDamp_5 (by decide) ?_
  refine xR_aln 6 0 dB_lessDamp_6 rfl rfl ?_
  refine xR_getf 7 xcf0 0 (72 + t) (by decide) (xk_B ht) (xC_brd ht) (v := .ref (xa G (36 + (xtb t)))) rfl fl_RX0_14 dB_lessDamp_7 ?_
  refine xR_iln 10 1 dB_lessDamp_10 rfl rfl ?_
  refine xR_ic 11 (2 : Int32) dB_lessDamp_11 (by decide) ?_
  refine xR_callVi 12 cv_T_get ml_RX0_24 ⟨Nat.le_of_ble_eq_true rfl, Nat.le_of_ble_eq_true rfl⟩ xcf3 rfl (36 + (xtb t)) (xk_T (xtb_lt ht)) (xC_tab (xtb_lt ht)) [.int v1, .int (2 : Int32)] rfl rfl (Nat.le_of_ble_eq_true rfl) dB_lessDamp_12 (kT_get G (xtb t) (xtb_lt ht) z m v1 (2 : Int32)) (fun r12 => ?_)
  refine xR_iln 15 2 dB_lessDamp_15 rfl rfl ?_
  refine xR_isub 16 dB_lessDamp_16 ?_
  refine xR_ic 17 (0 : Int32) dB_lessDamp_17 (by decide) ?_
  refine xR_mmax 18 ml_RX0_55 ⟨Nat.le_of_ble_eq_true rfl, Nat.le_of_ble_eq_true rfl⟩ dB_lessDamp_18 ?_
  refine xR_callVvc 21 cv_T_put ml_RX0_28 ⟨Nat.le_of_ble_eq_true rfl, Nat.le_of_ble_eq_true rfl⟩ xcf3 rfl (36 + (xtb t)) (xk_T (xtb_lt ht)) (xC_tab (xtb_lt ht)) [.int v1, .int (2 : Int32), .int (xmax (r12 - v2) (0 : Int32))] rfl rfl (Nat.le_of_ble_eq_true rfl) dB_lessDamp_21 (kT_put G (xtb t) (xtb_lt ht) z m v1 (2 : Int32) (xmax (r12 - v2) (0 : Int32))) (fun r21 => ?_)
  exact xR_vret 24 rfl rfl dB_lessDamp_24
theorem dB_passYear_0 : decode (xb yyB_passYear) 0 = .ok (.aload_n 1, 1) := by decide +kernel
theorem dB_passYear_1 : decode (xb yyB_passYear) 1 = .ok (.aload_n 0, 1) := by decide +kernel
theorem dB_passYear_2 : decode (xb yyB_passYear) 2 = .ok (.getfield 35, 3) := by decide +kernel
theorem dB_passYear_5 : decode (xb yyB_passYear) 5 = .ok (.iconst 5, 1) := by decide +kernel
theorem dB_passYear_6 : decode (xb yyB_passYear) 6 = .ok (.irem, 1) := by decide +kernel
theorem dB_passYear_7 : decode (xb yyB_passYear) 7 = .ok (.iconst 0, 1) := by decide +kernel
theorem dB_passYear_8 : decode (xb yyB_passYear) 8 = .ok (.invokevirtual 24, 3) := by decide +kernel
theorem dB_passYear_11 : decode (xb yyB_passYear) 11 = .ok (.istore_n 2, 1) := by decide +kernel
theorem dB_passYear_12 : decode (xb yyB_passYear) 12 = .ok (.aload_n 0, 1) := by decide +kernel
theorem dB_passYear_13 : decode (xb yyB_passYear) 13 = .ok (.invokevirtual 69, 3) := by decide +kernel
theorem dB_passYear_16 : decode (xb yyB_passYear) 16 = .ok (.istore_n 3, 1) := by decide +kernel
theorem dB_passYear_17 : decode (xb yyB_passYear) 17 = .ok (.iconst 0, 1) := by decide +kernel
theorem dB_passYear_18 : decode (xb yyB_passYear) 18 = .ok (.istore 4, 2) := by decide +kernel
theorem dB_passYear_20 : decode (xb yyB_passYear) 20 = .ok (.iload 4, 2) := by decide +kernel
theorem dB_passYear_22 : decode (xb yyB_passYear) 22 = .ok (.aload_n 0, 1) := by decide +kernel
theorem dB_passYear_23 : decode (xb yyB_passYear) 23 = .ok (.getfield 14, 3) := by decide +kernel
theorem dB_passYear_26 : decode (xb yyB_passYear) 26 = .ok (.invokevirtual 20, 3) := by decide +kernel
theorem dB_passYear_29 : decode (xb yyB_passYear) 29 = .ok (.if_icmp .ge 78, 3) := by decide +kernel
theorem dB_passYear_32 : decode (xb yyB_passYear) 32 = .ok (.aload_n 0, 1) := by decide +kernel
theorem dB_passYear_33 : decode (xb yyB_passYear) 33 = .ok (.getfield 14, 3) := by decide +kernel
theorem dB_passYear_36 : decode (xb yyB_passYear) 36 = .ok (.iload 4, 2) := by decide +kernel
theorem dB_passYear_38 : decode (xb yyB_passYear) 38 = .ok (.iconst 1, 1) := by decide +kernel
theorem dB_passYear_39 : decode (xb yyB_passYear) 39 = .ok (.aload_n 0, 1) := by decide +kernel
theorem dB_passYear_40 : decode (xb yyB_passYear) 40 = .ok (.getfield 14, 3) := by decide +kernel
theorem dB_passYear_43 : decode (xb yyB_passYear) 43 = .ok (.iload 4, 2) := by decide +kernel
theorem dB_passYear_45 : decode (xb yyB_passYear) 45 = .ok (.iconst 1, 1) := by decide +kernel
theorem dB_passYear_46 : decode (xb yyB_passYear) 46 = .ok (.invokevirtual 24, 3) := by decide +kernel
theorem dB_passYear_49 : decode (xb yyB_passYear) 49 = .ok (.iconst 1, 1) := by decide +kernel
theorem dB_passYear_50 : decode (xb yyB_passYear) 50 = .ok (.iadd, 1) := by decide +kernel
theorem dB_passYear_51 : decode (xb yyB_passYear) 51 = .ok (.bipush 99, 2) := by decide +kernel
theorem dB_passYear_53 : decode (xb yyB_passYear) 53 = .ok (.invokestatic 60, 3) := by decide +kernel
theorem dB_passYear_56 : decode (xb yyB_passYear) 56 = .ok (.invokevirtual 28, 3) := by decide +kernel
theorem dB_passYear_59 : decode (xb yyB_passYear) 59 = .ok (.aload_n 0, 1) := by decide +kernel
theorem dB_passYear_60 : decode (xb yyB_passYear) 60 = .ok (.iload 4, 2) := by decide +kernel
theorem dB_passYear_62 : decode (xb yyB_passYear) 62 = .ok (.invokevirtual 72, 3) := by decide +kernel
theorem dB_passYear_65 : decode (xb yyB_passYear) 65 = .ok (.ifCond .eq 13, 3) := by decide +kernel
theorem dB_passYear_68 : decode (xb yyB_passYear) 68 = .ok (.aload_n 0, 1) := by decide +kernel
theorem dB_passYear_69 : decode (xb yyB_passYear) 69 = .ok (.iload 4, 2) := by decide +kernel
theorem dB_passYear_71 : decode (xb yyB_passYear) 71 = .ok (.iload_n 2, 1) := by decide +kernel
theorem dB_passYear_72 : decode (xb yyB_passYear) 72 = .ok (.invokevirtual 76, 3) := by decide +kernel
theorem dB_passYear_75 : decode (xb yyB_passYear) 75 = .ok (.goto 10, 3) := by decide +kernel
theorem dB_passYear_78 : decode (xb yyB_passYear) 78 = .ok (.aload_n 0, 1) := by decide +kernel
theorem dB_passYear_79 : decode (xb yyB_passYear) 79 = .ok (.iload 4, 2) := by decide +kernel
theorem dB_passYear_81 : decode (xb yyB_passYear) 81 = .ok (.iconst 1, 1) := by decide +kernel
theorem dB_passYear_82 : decode (xb yyB_passYear) 82 = .ok (.invokevirtual 79, 3) := by decide +kernel
theorem dB_passYear_85 : decode (xb yyB_passYear) 85 = .ok (.aload_n 0, 1) := by decide +kernel
theorem dB_passYear_86 : decode (xb yyB_passYear) 86 = .ok (.getfield 14, 3) := by decide +kernel
theorem dB_passYear_89 : decode (xb yyB_passYear) 89 = .ok (.iload 4, 2) := by decide +kernel
theorem dB_passYear_91 : decode (xb yyB_passYear) 91 = .ok (.iconst 4, 1) := by decide +kernel
theorem dB_passYear_92 : decode (xb yyB_passYear) 92 = .ok (.iload_n 3, 1) := by decide +kernel
theorem dB_passYear_93 : decode (xb yyB_passYear) 93 = .ok (.iload 4, 2) := by decide +kernel
theorem dB_passYear_95 : decode (xb yyB_passYear) 95 = .ok (.ishr, 1) := by decide +kernel
theorem dB_passYear_96 : decode (xb yyB_passYear) 96 = .ok (.iconst 1, 1) := by decide +kernel
theorem dB_passYear_97 : decode (xb yyB_passYear) 97 = .ok (.iand, 1) := by decide +kernel
theorem dB_passYear_98 : decode (xb yyB_passYear) 98 = .ok (.invokevirtual 28, 3) := by decide +kernel
theorem dB_passYear_101 : decode (xb yyB_passYear) 101 = .ok (.iinc 4 1, 3) := by decide +kernel
theorem dB_passYear_104 : decode (xb yyB_passYear) 104 = .ok (.goto (-84), 3) := by decide +kernel
theorem dB_passYear_107 : decode (xb yyB_passYear) 107 = .ok (.aload_n 0, 1) := by decide +kernel
theorem dB_passYear_108 : decode (xb yyB_passYear) 108 = .ok (.dup, 1) := by decide +kernel
theorem dB_passYear_109 : decode (xb yyB_passYear) 109 = .ok (.getfield 35, 3) := by decide +kernel
theorem dB_passYear_112 : decode (xb yyB_passYear) 112 = .ok (.iconst 1, 1) := by decide +kernel
theorem dB_passYear_113 : decode (xb yyB_passYear) 113 = .ok (.iadd, 1) := by decide +kernel
theorem dB_passYear_114 : decode (xb yyB_passYear) 114 = .ok (.putfield 35, 3) := by decide +kernel
theorem dB_passYear_117 : decode (xb yyB_passYear) 117 = .ok (.return_, 1) := by decide +kernel
def fB_passYear_b85 (t : Nat) (t1 : Nat) (k20 : Int32 → Int32 → Int32 → xM → Option (xM)) (v2 : Int32) (v3 : Int32) (v4 : Int32) (m : xM) : Option (xM) := (fT_put (xtb t) v4 (4 : Int32) ((v3 >>> (v4 &&& 31)) &&& (1 : Int32)) m).bind fun r98 => k20 v2 v3 (v4 + 1) r98
def fB_passYear_l20 (t : Nat) (t1 : Nat) : Nat → Int32 → Int32 → Int32 → xM → Option (xM)
  | 0, _, _, _, _ => none
  | n + 1, v2, v3, v4, m => (fT_many (xtb t) m).bind fun r26 => (if r26 ≤ v4 then some (xset m 37 t ((m.1 37 t) + (1 : Int32))) else (fT_get (xtb t) m v4 (1 : Int32)).bind fun r46 => (fT_put (xtb t) v4 (1 : Int32) (xmin (r46 + (1 : Int32)) (99 : Int32)) m).bind fun r56 => (fB_isFree t r56 v4).bind fun r62 => (if r62 = 0 then (fB_lessDamp t v4 (1 : Int32) r56).bind fun r82 => fB_passYear_b85 t t1 (fB_passYear_l20 t t1 n) v2 v3 v4 r82 else (fB_moreDamp t v4 v2 r56).bind fun r72 => fB_passYear_b85 t t1 (fB_passYear_l20 t t1 n) v2 v3 v4 r72))
def fB_passYear (t : Nat) (t1 : Nat) (m : xM) : Option (xM) := (fT_get t1 m ((m.1 37 t) - (m.1 37 t) / (5 : Int32) * (5 : Int32)) (0 : Int32)).bind fun r8 => (fB_wormyNext t m).bind fun r13 => fB_passYear_l20 t t1 xfu r8 r13 (0 : Int32) m
set_option maxRecDepth 100000 in
set_option maxHeartbeats 4000000 in
theorem kB_passYear_b85 (G : xG) (t : Nat) (t1 : Nat) (ht : t < 5) (ht1 : t1 < 36) (z : xM)  (k20 : Int32 → Int32 → Int32 → xM → Option (xM)) (hk20 : ∀ (v2 : Int32) (v3 : Int32) (v4 : Int32) (m : xM), xR G yyB_passYear (emvc z) 20 [(0, .ref (xa G (72 + t))), (2, .int v2), (3, .int v3), (4, .int v4)] [] (m, z) (k20 v2 v3 v4 m)) (v2 : Int32) (v3 : Int32) (v4 : Int32) (m : xM) : xR G yyB_passYear (emvc z) 85 [(0, .ref (xa G (72 + t))), (2, .int v2), (3, .int v3), (4, .int v4)] [] (m, z) (fB_passYear_b85 t t1 k20 v2 v3 v4 m) := by
  unfold fB_passYear_b85
  refine xR_aln 85 0 dB_passYear_85 rfl rfl ?_
  refine xR_getf 86 xcf0 0 (72 + t) (by decide) (xk_B ht) (xC_brd ht) (v := .ref (xa G (36 + (xtb t)))) rfl fl_RX0_14 dB_passYear_86 ?_
  refine xR_il 89 3 dB_passYear_89 rfl ?_
  refine xR_ic 91 (4 : Int32) dB_passYear_91 (by decide) ?_
  refine xR_iln 92 2 dB_passYear_92 rfl rfl ?_
  refine xR_il 93 3 dB_passYear_93 rfl ?_
  refine xR_ishr 95 dB_passYear_95 ?_
  refine xR_ic 96 (1 : Int32) dB_passYear_96 (by decide) ?_
  refine xR_iand 97 dB_passYear_97 ?_
  refine xR_callVvc 98 cv_T_put ml_RX0_28 ⟨Nat.le_of_ble_eq_true rfl, Nat.le_of_ble_eq_true rfl⟩ xcf3 rfl (36 + (xtb t)) (xk_T (xtb_lt ht)) (xC_tab (xtb_lt ht)) [.int v4, .int (4 : Int32), .int ((v3 >>> (v4 &&& 31)) &&& (1 : Int32))] rfl rfl (Nat.le_of_ble_eq_true rfl) dB_passYear_98 (kT_put G (xtb t) (xtb_lt ht) z m v4 (4 : Int32) ((v3 >>> (v4 &&& 31)) &&& (1 : Int32))) (fun r98 => ?_)
  refine xR_iinc 101 3 (v4 + 1) ([(4, .int (v4 + 1)), (0, .ref (xa G (72 + t))), (2, .int v2), (3, .int v3)]) dB_passYear_101 rfl rfl (by decide) rfl ?_
  refine xR_goto 104 20 dB_passYear_104 (by decide) ?_
  exact xR_sub [1, 2, 3, 0] rfl (hk20 v2 v3 (v4 + 1) r98)
set_option maxRecDepth 100000 in
set_option maxHeartbeats 4000000 in
theorem kB_passYear_l20 (G : xG) (t : Nat) (t1 : Nat) (ht : t < 5) (ht1 : t1 < 36) (z : xM)    : ∀ (n : Nat) (v2 : Int32) (v3 : Int32) (v4 : Int32) (m : xM), xR G yyB_passYear (emvc z) 20 [(0, .ref (xa G (72 + t))), (2, .int v2), (3, .int v3), (4, .int v4)] [] (m, z) (fB_passYear_l20 t t1 n v2 v3 v4 m) := by
  intro n
  induction n with
  | zero =>
    intro v2 v3 v4 m
    rw [fB_passYear_l20]
    exact xR_none
  | succ n ih =>
    intro v2 v3 v4 m
    rw [fB_passYear_l20]
    refine xR_il 20 3 dB_passYear_20 rfl ?_
    refine xR_aln 22 0 dB_passYear_22 rfl rfl ?_
    refine xR_getf 23 xcf0 0 (72 + t) (by decide) (xk_B ht) (xC_brd ht) (v := .ref (xa G (36 + (xtb t)))) rfl fl_RX0_14 dB_passYear_23 ?_
    refine xR_callVi 26 cv_T_many ml_RX0_20 ⟨Nat.le_of_ble_eq_true rfl, Nat.le_of_ble_eq_true rfl⟩ xcf3 rfl (36 + (xtb t)) (xk_T (xtb_lt ht)) (xC_tab (xtb_lt ht)) [] rfl rfl (Nat.le_of_ble_eq_true rfl) dB_passYear_26 (kT_many G (xtb t) (xtb_lt ht) z m) (fun r26 => ?_)
    refine xR_icge 29 107 dB_passYear_29 (by decide) ?_ ?_
    · refine xR_aln 107 0 dB_passYear_107 rfl rfl ?_
      refine xR_dup 108 dB_passYear_108 rfl ?_
      refine xR_getf 109 xcf0 1 (72 + t) (by decide) (xk_B ht) (xC_brd ht) (v := .int (m.1 37 t)) rfl fl_RX0_35 dB_passYear_109 ?_
      refine xR_ic 112 (1 : Int32) dB_passYear_112 (by decide) ?_
      refine xR_iadd 113 dB_passYear_113 ?_
      refine xR_putf 114 xcf0 1 (72 + t) (by decide) (xk_B ht) (xC_brd ht) rfl rfl rfl (Nat.le_of_ble_eq_true rfl) ((xset m 37 t ((m.1 37 t) + (1 : Int32))), z) (xW_year ht) fl_RX0_35 dB_passYear_114 ?_
      exact xR_vret 117 rfl rfl dB_passYear_117
    · refine xR_aln 32 0 dB_passYear_32 rfl rfl ?_
      refine xR_getf 33 xcf0 0 (72 + t) (by decide) (xk_B ht) (xC_brd ht) (v := .ref (xa G (36 + (xtb t)))) rfl fl_RX0_14 dB_passYear_33 ?_
      refine xR_il 36 3 dB_passYear_36 rfl ?_
      refine xR_ic 38 (1 : Int32) dB_passYear_38 (by decide) ?_
      refine xR_aln 39 0 dB_passYear_39 rfl rfl ?_
      refine xR_getf 40 xcf0 0 (72 + t) (by decide) (xk_B ht) (xC_brd ht) (v := .ref (xa G (36 + (xtb t)))) rfl fl_RX0_14 dB_passYear_40 ?_
      refine xR_il 43 3 dB_passYear_43 rfl ?_
      refine xR_ic 45 (1 : Int32) dB_passYear_45 (by decide) ?_
      refine xR_callVi 46 cv_T_get ml_RX0_24 ⟨Nat.le_of_ble_eq_true rfl, Nat.le_of_ble_eq_true rfl⟩ xcf3 rfl (36 + (xtb t)) (xk_T (xtb_lt ht)) (xC_tab (xtb_lt ht)) [.int v4, .int (1 : Int32)] rfl rfl (Nat.le_of_ble_eq_true rfl) dB_passYear_46 (kT_get G (xtb t) (xtb_lt ht) z m v4 (1 : Int32)) (fun r46 => ?_)
      refine xR_ic 49 (1 : Int32) dB_passYear_49 (by decide) ?_
      refine xR_iadd 50 dB_passYear_50 ?_
      refine xR_bp 51 (99 : Int32) dB_passYear_51 (by decide) ?_
      refine xR_mmin 53 ml_RX0_60 ⟨Nat.le_of_ble_eq_true rfl, Nat.le_of_ble_eq_true rfl⟩ dB_passYear_53 ?_
      refine xR_callVvc 56 cv_T_put ml_RX0_28 ⟨Nat.le_of_ble_eq_true rfl, Nat.le_of_ble_eq_true rfl⟩ xcf3 rfl (36 + (xtb t)) (xk_T (xtb_lt ht)) (xC_tab (xtb_lt ht)) [.int v4, .int (1 : Int32), .int (xmin (r46 + (1 : Int32)) (99 : Int32))] rfl rfl (Nat.le_of_ble_eq_true rfl) dB_passYear_56 (kT_put G (xtb t) (xtb_lt ht) z m v4 (1 : Int32) (xmin (r46 + (1 : Int32)) (99 : Int32))) (fun r56 => ?_)
      refine xR_aln 59 0 dB_passYear_59 rfl rfl ?_
      refine xR_il 60 3 dB_passYear_60 rfl ?_
      refine xR_callVi 62 cv_B_isFree ml_RX0_72 ⟨Nat.le_of_ble_eq_true rfl, Nat.le_of_ble_eq_true rfl⟩ xcf0 rfl (72 + t) (xk_B ht) (xC_brd ht) [.int v4] rfl rfl (Nat.le_of_ble_eq_true rfl) dB_passYear_62 (kB_isFree G t ht z r56 v4) (fun r62 => ?_)
      refine xR_ifeq 65 78 dB_passYear_65 (by decide) ?_ ?_
      · refine xR_aln 78 0 dB_passYear_78 rfl rfl ?_
        refine xR_il 79 3 dB_passYear_79 rfl ?_
        refine xR_ic 81 (1 : Int32) dB_passYear_81 (by decide) ?_
        refine xR_callVvc 82 cv_B_lessDamp ml_RX0_79 ⟨Nat.le_of_ble_eq_true rfl, Nat.le_of_ble_eq_true rfl⟩ xcf0 rfl (72 + t) (xk_B ht) (xC_brd ht) [.int v4, .int (1 : Int32)] rfl rfl (Nat.le_of_ble_eq_true rfl) dB_passYear_82 (kB_lessDamp G t ht z r56 v4 (1 : Int32)) (fun r82 => ?_)
        exact kB_passYear_b85 G t t1 ht ht1 z (fB_passYear_l20 t t1 n) ih v2 v3 v4 r82
      · refine xR_aln 68 0 dB_passYear_68 rfl rfl ?_
        refine xR_il 69 3 dB_passYear_69 rfl ?_
        refine xR_iln 71 1 dB_passYear_71 rfl rfl ?_
        refine xR_callVvc 72 cv_B_moreDamp ml_RX0_76 ⟨Nat.le_of_ble_eq_true rfl, Nat.le_of_ble_eq_true rfl⟩ xcf0 rfl (72 + t) (xk_B ht) (xC_brd ht) [.int v4, .int v2] rfl rfl (Nat.le_of_ble_eq_true rfl) dB_passYear_72 (kB_moreDamp G t ht z r56 v4 v2) (fun r72 => ?_)
        refine xR_goto 75 85 dB_passYear_75 (by decide) ?_
        exact kB_passYear_b85 G t t1 ht ht1 z (fB_passYear_l20 t t1 n) ih v2 v3 v4 r72
set_option maxRecDepth 100000 in
set_option maxHeartbeats 4000000 in
theorem kB_passYear (G : xG) (t : Nat) (t1 : Nat) (ht : t < 5) (ht1 : t1 < 36) (z : xM) (m : xM) : ∀ a, fB_passYear t t1 m = some a → xCt G yyB_passYear [.ref (xa G (72 + t)), .ref (xa G (36 + t1))] (m, z) (none) (a, z) := by
  refine xR_ct (em := (emvc z)) rfl (Nat.le_of_ble_eq_true rfl) ?_
  show xR G yyB_passYear _ 0 [(0, .ref (xa G (72 + t))), (1, .ref (xa G (36 + t1)))] [] _ _
  unfold fB_passYear
  refine xR_aln 0 1 dB_passYear_0 rfl rfl ?_
  refine xR_aln 1 0 dB_passYear_1 rfl rfl ?_
  refine xR_getf 2 xcf0 1 (72 + t) (by decide) (xk_B ht) (xC_brd ht) (v := .int (m.1 37 t)) rfl fl_RX0_35 dB_passYear_2 ?_
  refine xR_ic 5 (5 : Int32) dB_passYear_5 (by decide) ?_
  refine xR_irem 6 dB_passYear_6 (by decide) ?_
  refine xR_ic 7 (0 : Int32) dB_passYear_7 (by decide) ?_
  refine xR_callVi 8 cv_T_get ml_RX0_24 ⟨Nat.le_of_ble_eq_true rfl, Nat.le_of_ble_eq_true rfl⟩ xcf3 rfl (36 + t1) (xk_T ht1) (xC_tab ht1) [.int ((m.1 37 t) - (m.1 37 t) / (5 : Int32) * (5 : Int32)), .int (0 : Int32)] rfl rfl (Nat.le_of_ble_eq_true rfl) dB_passYear_8 (kT_get G t1 ht1 z m ((m.1 37 t) - (m.1 37 t) / (5 : Int32) * (5 : Int32)) (0 : Int32)) (fun r8 => ?_)
  refine xR_isn 11 ([(2, .int r8), (0, .ref (xa G (72 + t))), (1, .ref (xa G (36 + t1)))]) dB_passYear_11 rfl (by decide) rfl ?_
  refine xR_aln 12 1 dB_passYear_12 rfl rfl ?_
  refine xR_callVi 13 cv_B_wormyNext ml_RX0_69 ⟨Nat.le_of_ble_eq_true rfl, Nat.le_of_ble_eq_true rfl⟩ xcf0 rfl (72 + t) (xk_B ht) (xC_brd ht) [] rfl rfl (Nat.le_of_ble_eq_true rfl) dB_passYear_13 (kB_wormyNext G t ht z m) (fun r13 => ?_)
  refine xR_isn 16 ([(3, .int r13), (2, .int r8), (0, .ref (xa G (72 + t))), (1, .ref (xa G (36 + t1)))]) dB_passYear_16 rfl (by decide) rfl ?_
  refine xR_ic 17 (0 : Int32) dB_passYear_17 (by decide) ?_
  refine xR_is 18 ([(4, .int (0 : Int32)), (3, .int r13), (2, .int r8), (0, .ref (xa G (72 + t))), (1, .ref (xa G (36 + t1)))]) dB_passYear_18 (by decide) rfl ?_
  exact xR_sub [3, 2, 1, 0] rfl (kB_passYear_l20 G t t1 ht ht1 z xfu r8 r13 (0 : Int32) m)
theorem dB_become_0 : decode (xb yyB_become) 0 = .ok (.aload_n 0, 1) := by decide +kernel
theorem dB_become_1 : decode (xb yyB_become) 1 = .ok (.getfield 14, 3) := by decide +kernel
theorem dB_become_4 : decode (xb yyB_become) 4 = .ok (.aload_n 1, 1) := by decide +kernel
theorem dB_become_5 : decode (xb yyB_become) 5 = .ok (.getfield 14, 3) := by decide +kernel
theorem dB_become_8 : decode (xb yyB_become) 8 = .ok (.invokevirtual 39, 3) := by decide +kernel
theorem dB_become_11 : decode (xb yyB_become) 11 = .ok (.aload_n 0, 1) := by decide +kernel
theorem dB_become_12 : decode (xb yyB_become) 12 = .ok (.aload_n 1, 1) := by decide +kernel
theorem dB_become_13 : decode (xb yyB_become) 13 = .ok (.getfield 35, 3) := by decide +kernel
theorem dB_become_16 : decode (xb yyB_become) 16 = .ok (.putfield 35, 3) := by decide +kernel
theorem dB_become_19 : decode (xb yyB_become) 19 = .ok (.return_, 1) := by decide +kernel
def fB_become (t : Nat) (t1 : Nat) (m : xM) : Option (xM) := (fT_become (xtb t) (xtb t1) m).bind fun r8 => some (xset r8 37 t (r8.1 37 t1))
set_option maxRecDepth 100000 in
set_option maxHeartbeats 4000000 in
theorem kB_become (G : xG) (t : Nat) (t1 : Nat) (ht : t < 5) (ht1 : t1 < 5) (z : xM) (m : xM) : ∀ a, fB_become t t1 m = some a → xCt G yyB_become [.ref (xa G (72 + t)), .ref (xa G (72 + t1))] (m, z) (none) (a, z) := by
  refine xR_ct (em := (emvc z)) rfl (Nat.le_of_ble_eq_true rfl) ?_
  show xR G yyB_become _ 0 [(0, .ref (xa G (72 + t))), (1, .ref (xa G (72 + t1)))] [] _ _
  unfold fB_become
  refine xR_aln 0 0 dB_become_0 rfl rfl ?_
  refine xR_getf 1 xcf0 0 (72 + t) (by decide) (xk_B ht) (xC_brd ht) (v := .ref (xa G (36 + (xtb t)))) rfl fl_RX0_14 dB_become_1 ?_
  refine xR_aln 4 1 dB_become_4 rfl rfl ?_
  refine xR_getf 5 xcf0 0 (72 + t1) (by decide) (xk_B ht1) (xC_brd ht1) (v := .ref (xa G (36 + (xtb t1)))) rfl fl_RX0_14 dB_become_5 ?_
  refine xR_callVvc 8 cv_T_become ml_RX0_39 ⟨Nat.le_of_ble_eq_true rfl, Nat.le_of_ble_eq_true rfl⟩ xcf3 rfl (36 + (xtb t)) (xk_T (xtb_lt ht)) (xC_tab (xtb_lt ht)) [.ref (xa G (36 + (xtb t1)))] rfl rfl (Nat.le_of_ble_eq_true rfl) dB_become_8 (kT_become G (xtb t) (xtb t1) (xtb_lt ht) (xtb_lt ht1) z m) (fun r8 => ?_)
  refine xR_aln 11 0 dB_become_11 rfl rfl ?_
  refine xR_aln 12 1 dB_become_12 rfl rfl ?_
  refine xR_getf 13 xcf0 1 (72 + t1) (by decide) (xk_B ht1) (xC_brd ht1) (v := .int (r8.1 37 t1)) rfl fl_RX0_35 dB_become_13 ?_
  refine xR_putf 16 xcf0 1 (72 + t) (by decide) (xk_B ht) (xC_brd ht) rfl rfl rfl (Nat.le_of_ble_eq_true rfl) ((xset r8 37 t (r8.1 37 t1)), z) (xW_year ht) fl_RX0_35 dB_become_16 ?_
  exact xR_vret 19 rfl rfl dB_become_19
theorem dB_keepIn_0 : decode (xb yyB_keepIn) 0 = .ok (.iconst 0, 1) := by decide +kernel
theorem dB_keepIn_1 : decode (xb yyB_keepIn) 1 = .ok (.istore_n 3, 1) := by decide +kernel
theorem dB_keepIn_2 : decode (xb yyB_keepIn) 2 = .ok (.iload_n 3, 1) := by decide +kernel
theorem dB_keepIn_3 : decode (xb yyB_keepIn) 3 = .ok (.bipush 6, 2) := by decide +kernel
theorem dB_keepIn_5 : decode (xb yyB_keepIn) 5 = .ok (.if_icmp .ge 47, 3) := by decide +kernel
theorem dB_keepIn_8 : decode (xb yyB_keepIn) 8 = .ok (.iconst 0, 1) := by decide +kernel
theorem dB_keepIn_9 : decode (xb yyB_keepIn) 9 = .ok (.istore 4, 2) := by decide +kernel
theorem dB_keepIn_11 : decode (xb yyB_keepIn) 11 = .ok (.iload 4, 2) := by decide +kernel
theorem dB_keepIn_13 : decode (xb yyB_keepIn) 13 = .ok (.bipush 6, 2) := by decide +kernel
theorem dB_keepIn_15 : decode (xb yyB_keepIn) 15 = .ok (.if_icmp .ge 31, 3) := by decide +kernel
theorem dB_keepIn_18 : decode (xb yyB_keepIn) 18 = .ok (.aload_n 1, 1) := by decide +kernel
theorem dB_keepIn_19 : decode (xb yyB_keepIn) 19 = .ok (.iload_n 2, 1) := by decide +kernel
theorem dB_keepIn_20 : decode (xb yyB_keepIn) 20 = .ok (.bipush 6, 2) := by decide +kernel
theorem dB_keepIn_22 : decode (xb yyB_keepIn) 22 = .ok (.iload_n 3, 1) := by decide +kernel
theorem dB_keepIn_23 : decode (xb yyB_keepIn) 23 = .ok (.imul, 1) := by decide +kernel
theorem dB_keepIn_24 : decode (xb yyB_keepIn) 24 = .ok (.iload 4, 2) := by decide +kernel
theorem dB_keepIn_26 : decode (xb yyB_keepIn) 26 = .ok (.iadd, 1) := by decide +kernel
theorem dB_keepIn_27 : decode (xb yyB_keepIn) 27 = .ok (.aload_n 0, 1) := by decide +kernel
theorem dB_keepIn_28 : decode (xb yyB_keepIn) 28 = .ok (.getfield 14, 3) := by decide +kernel
theorem dB_keepIn_31 : decode (xb yyB_keepIn) 31 = .ok (.iload_n 3, 1) := by decide +kernel
theorem dB_keepIn_32 : decode (xb yyB_keepIn) 32 = .ok (.iload 4, 2) := by decide +kernel
theorem dB_keepIn_34 : decode (xb yyB_keepIn) 34 = .ok (.invokevirtual 24, 3) := by decide +kernel
theorem dB_keepIn_37 : decode (xb yyB_keepIn) 37 = .ok (.invokevirtual 28, 3) := by decide +kernel
theorem dB_keepIn_40 : decode (xb yyB_keepIn) 40 = .ok (.iinc 4 1, 3) := by decide +kernel
theorem dB_keepIn_43 : decode (xb yyB_keepIn) 43 = .ok (.goto (-32), 3) := by decide +kernel
theorem dB_keepIn_46 : decode (xb yyB_keepIn) 46 = .ok (.iinc 3 1, 3) := by decide +kernel
theorem dB_keepIn_49 : decode (xb yyB_keepIn) 49 = .ok (.goto (-47), 3) := by decide +kernel
theorem dB_keepIn_52 : decode (xb yyB_keepIn) 52 = .ok (.aload_n 1, 1) := by decide +kernel
theorem dB_keepIn_53 : decode (xb yyB_keepIn) 53 = .ok (.iload_n 2, 1) := by decide +kernel
theorem dB_keepIn_54 : decode (xb yyB_keepIn) 54 = .ok (.bipush 36, 2) := by decide +kernel
theorem dB_keepIn_56 : decode (xb yyB_keepIn) 56 = .ok (.aload_n 0, 1) := by decide +kernel
theorem dB_keepIn_57 : decode (xb yyB_keepIn) 57 = .ok (.getfield 35, 3) := by decide +kernel
theorem dB_keepIn_60 : decode (xb yyB_keepIn) 60 = .ok (.invokevirtual 28, 3) := by decide +kernel
theorem dB_keepIn_63 : decode (xb yyB_keepIn) 63 = .ok (.return_, 1) := by decide +kernel
def fB_keepIn_l11 (t : Nat) (t1 : Nat) (k2 : Int32 → Int32 → xM → Option (xM)) : Nat → Int32 → Int32 → Int32 → xM → Option (xM)
  | 0, _, _, _, _ => none
  | n + 1, v2, v3, v4, m => (if (6 : Int32) ≤ v4 then k2 v2 (v3 + 1) m else (fT_get (xtb t) m v3 v4).bind fun r34 => (fT_put t1 v2 (((6 : Int32) * v3) + v4) r34 m).bind fun r37 => fB_keepIn_l11 t t1 k2 n v2 v3 (v4 + 1) r37)
def fB_keepIn_l2 (t : Nat) (t1 : Nat) : Nat → Int32 → Int32 → xM → Option (xM)
  | 0, _, _, _ => none
  | n + 1, v2, v3, m => (if (6 : Int32) ≤ v3 then (fT_put t1 v2 (36 : Int32) (m.1 37 t) m).bind fun r60 => some r60 else fB_keepIn_l11 t t1 (fB_keepIn_l2 t t1 n) xfu v2 v3 (0 : Int32) m)
def fB_keepIn (t : Nat) (t1 : Nat) (v2 : Int32) (m : xM) : Option (xM) := fB_keepIn_l2 t t1 xfu v2 (0 : Int32) m
set_option maxRecDepth 100000 in
set_option maxHeartbeats 4000000 in
theorem kB_keepIn_l11 (G : xG) (t : Nat) (t1 : Nat) (ht : t < 5) (ht1 : t1 < 36) (z : xM)  (k2 : Int32 → Int32 → xM → Option (xM)) (hk2 : ∀ (v2 : Int32) (v3 : Int32) (m : xM), xR G yyB_keepIn (emvc z) 2 [(0, .ref (xa G (72 + t))), (1, .ref (xa G (36 + t1))), (2, .int v2), (3, .int v3)] [] (m, z) (k2 v2 v3 m)) : ∀ (n : Nat) (v2 : Int32) (v3 : Int32) (v4 : Int32) (m : xM), xR G yyB_keepIn (emvc z) 11 [(0, .ref (xa G (72 + t))), (1, .ref (xa G (36 + t1))), (2, .int v2), (3, .int v3), (4, .int v4)] [] (m, z) (fB_keepIn_l11 t t1 k2 n v2 v3 v4 m) := by
  intro n
  induction n with
  | zero =>
    intro v2 v3 v4 m
    rw [fB_keepIn_l11]
    exact xR_none
  | succ n ih =>
    intro v2 v3 v4 m
    rw [fB_keepIn_l11]
    refine xR_il 11 4 dB_keepIn_11 rfl ?_
    refine xR_bp 13 (6 : Int32) dB_keepIn_13 (by decide) ?_
    refine xR_icge 15 46 dB_keepIn_15 (by decide) ?_ ?_
    · refine xR_iinc 46 3 (v3 + 1) ([(3, .int (v3 + 1)), (0, .ref (xa G (72 + t))), (1, .ref (xa G (36 + t1))), (2, .int v2), (4, .int v4)]) dB_keepIn_46 rfl rfl (by decide) rfl ?_
      refine xR_goto 49 2 dB_keepIn_49 (by decide) ?_
      exact xR_sub [1, 2, 3, 0] rfl (hk2 v2 (v3 + 1) m)
    · refine xR_aln 18 1 dB_keepIn_18 rfl rfl ?_
      refine xR_iln 19 2 dB_keepIn_19 rfl rfl ?_
      refine xR_bp 20 (6 : Int32) dB_keepIn_20 (by decide) ?_
      refine xR_iln 22 3 dB_keepIn_22 rfl rfl ?_
      refine xR_imul 23 dB_keepIn_23 ?_
      refine xR_il 24 4 dB_keepIn_24 rfl ?_
      refine xR_iadd 26 dB_keepIn_26 ?_
      refine xR_aln 27 0 dB_keepIn_27 rfl rfl ?_
      refine xR_getf 28 xcf0 0 (72 + t) (by decide) (xk_B ht) (xC_brd ht) (v := .ref (xa G (36 + (xtb t)))) rfl fl_RX0_14 dB_keepIn_28 ?_
      refine xR_iln 31 3 dB_keepIn_31 rfl rfl ?_
      refine xR_il 32 4 dB_keepIn_32 rfl ?_
      refine xR_callVi 34 cv_T_get ml_RX0_24 ⟨Nat.le_of_ble_eq_true rfl, Nat.le_of_ble_eq_true rfl⟩ xcf3 rfl (36 + (xtb t)) (xk_T (xtb_lt ht)) (xC_tab (xtb_lt ht)) [.int v3, .int v4] rfl rfl (Nat.le_of_ble_eq_true rfl) dB_keepIn_34 (kT_get G (xtb t) (xtb_lt ht) z m v3 v4) (fun r34 => ?_)
      refine xR_callVvc 37 cv_T_put ml_RX0_28 ⟨Nat.le_of_ble_eq_true rfl, Nat.le_of_ble_eq_true rfl⟩ xcf3 rfl (36 + t1) (xk_T ht1) (xC_tab ht1) [.int v2, .int (((6 : Int32) * v3) + v4), .int r34] rfl rfl (Nat.le_of_ble_eq_true rfl) dB_keepIn_37 (kT_put G t1 ht1 z m v2 (((6 : Int32) * v3) + v4) r34) (fun r37 => ?_)
      refine xR_iinc 40 4 (v4 + 1) ([(4, .int (v4 + 1)), (0, .ref (xa G (72 + t))), (1, .ref (xa G (36 + t1))), (2, .int v2), (3, .int v3)]) dB_keepIn_40 rfl rfl (by decide) rfl ?_
      refine xR_goto 43 11 dB_keepIn_43 (by decide) ?_
      exact xR_sub [1, 2, 3, 4, 0] rfl (ih v2 v3 (v4 + 1) r37)
set_option maxRecDepth 100000 in
set_option maxHeartbeats 4000000 in
theorem kB_keepIn_l2 (G : xG) (t : Nat) (t1 : Nat) (ht : t < 5) (ht1 : t1 < 36) (z : xM)    : ∀ (n : Nat) (v2 : Int32) (v3 : Int32) (m : xM), xR G yyB_keepIn (emvc z) 2 [(0, .ref (xa G (72 + t))), (1, .ref (xa G (36 + t1))), (2, .int v2), (3, .int v3)] [] (m, z) (fB_keepIn_l2 t t1 n v2 v3 m) := by
  intro n
  induction n with
  | zero =>
    intro v2 v3 m
    rw [fB_keepIn_l2]
    exact xR_none
  | succ n ih =>
    intro v2 v3 m
    rw [fB_keepIn_l2]
    refine xR_iln 2 3 dB_keepIn_2 rfl rfl ?_
    refine xR_bp 3 (6 : Int32) dB_keepIn_3 (by decide) ?_
    refine xR_icge 5 52 dB_keepIn_5 (by decide) ?_ ?_
    · refine xR_aln 52 1 dB_keepIn_52 rfl rfl ?_
      refine xR_iln 53 2 dB_keepIn_53 rfl rfl ?_
      refine xR_bp 54 (36 : Int32) dB_keepIn_54 (by decide) ?_
      refine xR_aln 56 0 dB_keepIn_56 rfl rfl ?_
      refine xR_getf 57 xcf0 1 (72 + t) (by decide) (xk_B ht) (xC_brd ht) (v := .int (m.1 37 t)) rfl fl_RX0_35 dB_keepIn_57 ?_
      refine xR_callVvc 60 cv_T_put ml_RX0_28 ⟨Nat.le_of_ble_eq_true rfl, Nat.le_of_ble_eq_true rfl⟩ xcf3 rfl (36 + t1) (xk_T ht1) (xC_tab ht1) [.int v2, .int (36 : Int32), .int (m.1 37 t)] rfl rfl (Nat.le_of_ble_eq_true rfl) dB_keepIn_60 (kT_put G t1 ht1 z m v2 (36 : Int32) (m.1 37 t)) (fun r60 => ?_)
      exact xR_vret 63 rfl rfl dB_keepIn_63
    · refine xR_ic 8 (0 : Int32) dB_keepIn_8 (by decide) ?_
      refine xR_is 9 ([(4, .int (0 : Int32)), (0, .ref (xa G (72 + t))), (1, .ref (xa G (36 + t1))), (2, .int v2), (3, .int v3)]) dB_keepIn_9 (by decide) rfl ?_
      exact xR_sub [1, 2, 3, 4, 0] rfl (kB_keepIn_l11 G t t1 ht ht1 z (fB_keepIn_l2 t t1 n) ih xfu v2 v3 (0 : Int32) m)
set_option maxRecDepth 100000 in
set_option maxHeartbeats 4000000 in
theorem kB_keepIn (G : xG) (t : Nat) (t1 : Nat) (ht : t < 5) (ht1 : t1 < 36) (z : xM) (m : xM) (v2 : Int32) : ∀ a, fB_keepIn t t1 v2 m = some a → xCt G yyB_keepIn [.ref (xa G (72 + t)), .ref (xa G (36 + t1)), .int v2] (m, z) (none) (a, z) := by
  refine xR_ct (em := (emvc z)) rfl (Nat.le_of_ble_eq_true rfl) ?_
  show xR G yyB_keepIn _ 0 [(0, .ref (xa G (72 + t))), (1, .ref (xa G (36 + t1))), (2, .int v2)] [] _ _
  unfold fB_keepIn
  refine xR_ic 0 (0 : Int32) dB_keepIn_0 (by decide) ?_
  refine xR_isn 1 ([(3, .int (0 : Int32)), (0, .ref (xa G (72 + t))), (1, .ref (xa G (36 + t1))), (2, .int v2)]) dB_keepIn_1 rfl (by decide) rfl ?_
  exact xR_sub [1, 2, 3, 0] rfl (kB_keepIn_l2 G t t1 ht ht1 z xfu v2 (0 : Int32) m)
theorem dB_wormy_0 : decode (xb yyB_wormy) 0 = .ok (.iconst 0, 1) := by decide +kernel
theorem dB_wormy_1 : decode (xb yyB_wormy) 1 = .ok (.istore_n 1, 1) := by decide +kernel
theorem dB_wormy_2 : decode (xb yyB_wormy) 2 = .ok (.iconst 0, 1) := by decide +kernel
theorem dB_wormy_3 : decode (xb yyB_wormy) 3 = .ok (.istore_n 2, 1) := by decide +kernel
theorem dB_wormy_4 : decode (xb yyB_wormy) 4 = .ok (.iload_n 2, 1) := by decide +kernel
theorem dB_wormy_5 : decode (xb yyB_wormy) 5 = .ok (.aload_n 0, 1) := by decide +kernel
theorem dB_wormy_6 : decode (xb yyB_wormy) 6 = .ok (.getfield 14, 3) := by decide +kernel
theorem dB_wormy_9 : decode (xb yyB_wormy) 9 = .ok (.invokevirtual 20, 3) := by decide +kernel
theorem dB_wormy_12 : decode (xb yyB_wormy) 12 = .ok (.if_icmp .ge 21, 3) := by decide +kernel
theorem dB_wormy_15 : decode (xb yyB_wormy) 15 = .ok (.iload_n 1, 1) := by decide +kernel
theorem dB_wormy_16 : decode (xb yyB_wormy) 16 = .ok (.aload_n 0, 1) := by decide +kernel
theorem dB_wormy_17 : decode (xb yyB_wormy) 17 = .ok (.getfield 14, 3) := by decide +kernel
theorem dB_wormy_20 : decode (xb yyB_wormy) 20 = .ok (.iload_n 2, 1) := by decide +kernel
theorem dB_wormy_21 : decode (xb yyB_wormy) 21 = .ok (.iconst 4, 1) := by decide +kernel
theorem dB_wormy_22 : decode (xb yyB_wormy) 22 = .ok (.invokevirtual 24, 3) := by decide +kernel
theorem dB_wormy_25 : decode (xb yyB_wormy) 25 = .ok (.iadd, 1) := by decide +kernel
theorem dB_wormy_26 : decode (xb yyB_wormy) 26 = .ok (.istore_n 1, 1) := by decide +kernel
theorem dB_wormy_27 : decode (xb yyB_wormy) 27 = .ok (.iinc 2 1, 3) := by decide +kernel
theorem dB_wormy_30 : decode (xb yyB_wormy) 30 = .ok (.goto (-26), 3) := by decide +kernel
theorem dB_wormy_33 : decode (xb yyB_wormy) 33 = .ok (.iload_n 1, 1) := by decide +kernel
theorem dB_wormy_34 : decode (xb yyB_wormy) 34 = .ok (.ireturn, 1) := by decide +kernel
def fB_wormy_l4 (t : Nat) (m : xM) : Nat → Int32 → Int32 → Option (Int32)
  | 0, _, _ => none
  | n + 1, v1, v2 => (fT_many (xtb t) m).bind fun r9 => (if r9 ≤ v2 then some v1 else (fT_get (xtb t) m v2 (4 : Int32)).bind fun r22 => fB_wormy_l4 t m n (v1 + r22) (v2 + 1))
def fB_wormy (t : Nat) (m : xM) : Option (Int32) := fB_wormy_l4 t m xfu (0 : Int32) (0 : Int32)
set_option maxRecDepth 100000 in
set_option maxHeartbeats 4000000 in
theorem kB_wormy_l4 (G : xG) (t : Nat) (ht : t < 5) (z : xM) (m : xM)   : ∀ (n : Nat) (v1 : Int32) (v2 : Int32), xR G yyB_wormy (emi (m, z)) 4 [(0, .ref (xa G (72 + t))), (1, .int v1), (2, .int v2)] [] (m, z) (fB_wormy_l4 t m n v1 v2) := by
  intro n
  induction n with
  | zero =>
    intro v1 v2
    rw [fB_wormy_l4]
    exact xR_none
  | succ n ih =>
    intro v1 v2
    rw [fB_wormy_l4]
    refine xR_iln 4 2 dB_wormy_4 rfl rfl ?_
    refine xR_aln 5 0 dB_wormy_5 rfl rfl ?_
    refine xR_getf 6 xcf0 0 (72 + t) (by decide) (xk_B ht) (xC_brd ht) (v := .ref (xa G (36 + (xtb t)))) rfl fl_RX0_14 dB_wormy_6 ?_
    refine xR_callVi 9 cv_T_many ml_RX0_20 ⟨Nat.le_of_ble_eq_true rfl, Nat.le_of_ble_eq_true rfl⟩ xcf3 rfl (36 + (xtb t)) (xk_T (xtb_lt ht)) (xC_tab (xtb_lt ht)) [] rfl rfl (Nat.le_of_ble_eq_true rfl) dB_wormy_9 (kT_many G (xtb t) (xtb_lt ht) z m) (fun r9 => ?_)
    refine xR_icge 12 33 dB_wormy_12 (by decide) ?_ ?_
    · refine xR_iln 33 1 dB_wormy_33 rfl rfl ?_
      exact xR_iret 34 rfl rfl dB_wormy_34
    · refine xR_iln 15 1 dB_wormy_15 rfl rfl ?_
      refine xR_aln 16 0 dB_wormy_16 rfl rfl ?_
      refine xR_getf 17 xcf0 0 (72 + t) (by decide) (xk_B ht) (xC_brd ht) (v := .ref (xa G (36 + (xtb t)))) rfl fl_RX0_14 dB_wormy_17 ?_
      refine xR_iln 20 2 dB_wormy_20 rfl rfl ?_
      refine xR_ic 21 (4 : Int32) dB_wormy_21 (by decide) ?_
      refine xR_callVi 22 cv_T_get ml_RX0_24 ⟨Nat.le_of_ble_eq_true rfl, Nat.le_of_ble_eq_true rfl⟩ xcf3 rfl (36 + (xtb t)) (xk_T (xtb_lt ht)) (xC_tab (xtb_lt ht)) [.int v2, .int (4 : Int32)] rfl rfl (Nat.le_of_ble_eq_true rfl) dB_wormy_22 (kT_get G (xtb t) (xtb_lt ht) z m v2 (4 : Int32)) (fun r22 => ?_)
      refine xR_iadd 25 dB_wormy_25 ?_
      refine xR_isn 26 ([(1, .int (v1 + r22)), (0, .ref (xa G (72 + t))), (2, .int v2)]) dB_wormy_26 rfl (by decide) rfl ?_
      refine xR_iinc 27 2 (v2 + 1) ([(2, .int (v2 + 1)), (1, .int (v1 + r22)), (0, .ref (xa G (72 + t)))]) dB_wormy_27 rfl rfl (by decide) rfl ?_
      refine xR_goto 30 4 dB_wormy_30 (by decide) ?_
      exact xR_sub [2, 1, 0] rfl (ih (v1 + r22) (v2 + 1))
set_option maxRecDepth 100000 in
set_option maxHeartbeats 4000000 in
theorem kB_wormy (G : xG) (t : Nat) (ht : t < 5) (z : xM) (m : xM) : ∀ a, fB_wormy t m  = some a → xCt G yyB_wormy [.ref (xa G (72 + t))] (m, z) (some (.int a)) (m, z) := by
  refine xR_ct (em := (emi (m, z))) rfl (Nat.le_of_ble_eq_true rfl) ?_
  show xR G yyB_wormy _ 0 [(0, .ref (xa G (72 + t)))] [] _ _
  unfold fB_wormy
  refine xR_ic 0 (0 : Int32) dB_wormy_0 (by decide) ?_
  refine xR_isn 1 ([(1, .int (0 : Int32)), (0, .ref (xa G (72 + t)))]) dB_wormy_1 rfl (by decide) rfl ?_
  refine xR_ic 2 (0 : Int32) dB_wormy_2 (by decide) ?_
  refine xR_isn 3 ([(2, .int (0 : Int32)), (1, .int (0 : Int32)), (0, .ref (xa G (72 + t)))]) dB_wormy_3 rfl (by decide) rfl ?_
  exact xR_sub [2, 1, 0] rfl (kB_wormy_l4 G t ht z m xfu (0 : Int32) (0 : Int32))
theorem dB_goBackTo_0 : decode (xb yyB_goBackTo) 0 = .ok (.iconst 0, 1) := by decide +kernel
theorem dB_goBackTo_1 : decode (xb yyB_goBackTo) 1 = .ok (.istore_n 3, 1) := by decide +kernel
theorem dB_goBackTo_2 : decode (xb yyB_goBackTo) 2 = .ok (.iload_n 3, 1) := by decide +kernel
theorem dB_goBackTo_3 : decode (xb yyB_goBackTo) 3 = .ok (.bipush 6, 2) := by decide +kernel
theorem dB_goBackTo_5 : decode (xb yyB_goBackTo) 5 = .ok (.if_icmp .ge 47, 3) := by decide +kernel
theorem dB_goBackTo_8 : decode (xb yyB_goBackTo) 8 = .ok (.iconst 0, 1) := by decide +kernel
theorem dB_goBackTo_9 : decode (xb yyB_goBackTo) 9 = .ok (.istore 4, 2) := by decide +kernel
theorem dB_goBackTo_11 : decode (xb yyB_goBackTo) 11 = .ok (.iload 4, 2) := by decide +kernel
theorem dB_goBackTo_13 : decode (xb yyB_goBackTo) 13 = .ok (.bipush 6, 2) := by decide +kernel
theorem dB_goBackTo_15 : decode (xb yyB_goBackTo) 15 = .ok (.if_icmp .ge 31, 3) := by decide +kernel
theorem dB_goBackTo_18 : decode (xb yyB_goBackTo) 18 = .ok (.aload_n 0, 1) := by decide +kernel
theorem dB_goBackTo_19 : decode (xb yyB_goBackTo) 19 = .ok (.getfield 14, 3) := by decide +kernel
theorem dB_goBackTo_22 : decode (xb yyB_goBackTo) 22 = .ok (.iload_n 3, 1) := by decide +kernel
theorem dB_goBackTo_23 : decode (xb yyB_goBackTo) 23 = .ok (.iload 4, 2) := by decide +kernel
theorem dB_goBackTo_25 : decode (xb yyB_goBackTo) 25 = .ok (.aload_n 1, 1) := by decide +kernel
theorem dB_goBackTo_26 : decode (xb yyB_goBackTo) 26 = .ok (.iload_n 2, 1) := by decide +kernel
theorem dB_goBackTo_27 : decode (xb yyB_goBackTo) 27 = .ok (.bipush 6, 2) := by decide +kernel
theorem dB_goBackTo_29 : decode (xb yyB_goBackTo) 29 = .ok (.iload_n 3, 1) := by decide +kernel
theorem dB_goBackTo_30 : decode (xb yyB_goBackTo) 30 = .ok (.imul, 1) := by decide +kernel
theorem dB_goBackTo_31 : decode (xb yyB_goBackTo) 31 = .ok (.iload 4, 2) := by decide +kernel
theorem dB_goBackTo_33 : decode (xb yyB_goBackTo) 33 = .ok (.iadd, 1) := by decide +kernel
theorem dB_goBackTo_34 : decode (xb yyB_goBackTo) 34 = .ok (.invokevirtual 24, 3) := by decide +kernel
theorem dB_goBackTo_37 : decode (xb yyB_goBackTo) 37 = .ok (.invokevirtual 28, 3) := by decide +kernel
theorem dB_goBackTo_40 : decode (xb yyB_goBackTo) 40 = .ok (.iinc 4 1, 3) := by decide +kernel
theorem dB_goBackTo_43 : decode (xb yyB_goBackTo) 43 = .ok (.goto (-32), 3) := by decide +kernel
theorem dB_goBackTo_46 : decode (xb yyB_goBackTo) 46 = .ok (.iinc 3 1, 3) := by decide +kernel
theorem dB_goBackTo_49 : decode (xb yyB_goBackTo) 49 = .ok (.goto (-47), 3) := by decide +kernel
theorem dB_goBackTo_52 : decode (xb yyB_goBackTo) 52 = .ok (.aload_n 0, 1) := by decide +kernel
theorem dB_goBackTo_53 : decode (xb yyB_goBackTo) 53 = .ok (.aload_n 1, 1) := by decide +kernel
theorem dB_goBackTo_54 : decode (xb yyB_goBackTo) 54 = .ok (.iload_n 2, 1) := by decide +kernel
theorem dB_goBackTo_55 : decode (xb yyB_goBackTo) 55 = .ok (.bipush 36, 2) := by decide +kernel
theorem dB_goBackTo_57 : decode (xb yyB_goBackTo) 57 = .ok (.invokevirtual 24, 3) := by decide +kernel
theorem dB_goBackTo_60 : decode (xb yyB_goBackTo) 60 = .ok (.putfield 35, 3) := by decide +kernel
theorem dB_goBackTo_63 : decode (xb yyB_goBackTo) 63 = .ok (.return_, 1) := by decide +kernel
def fB_goBackTo_l11 (t : Nat) (t1 : Nat) (k2 : Int32 → Int32 → xM → Option (xM)) : Nat → Int32 → Int32 → Int32 → xM → Option (xM)
  | 0, _, _, _, _ => none
  | n + 1, v2, v3, v4, m => (if (6 : Int32) ≤ v4 then k2 v2 (v3 + 1) m else (fT_get t1 m v2 (((6 : Int32) * v3) + v4)).bind fun r34 => (fT_put (xtb t) v3 v4 r34 m).bind fun r37 => fB_goBackTo_l11 t t1 k2 n v2 v3 (v4 + 1) r37)
def fB_goBackTo_l2 (t : Nat) (t1 : Nat) : Nat → Int32 → Int32 → xM → Option (xM)
  | 0, _, _, _ => none
  | n + 1, v2, v3, m => (if (6 : Int32) ≤ v3 then (fT_get t1 m v2 (36 : Int32)).bind fun r57 => some (xset m 37 t r57) else fB_goBackTo_l11 t t1 (fB_goBackTo_l2 t t1 n) xfu v2 v3 (0 : Int32) m)
def fB_goBackTo (t : Nat) (t1 : Nat) (v2 : Int32) (m : xM) : Option (xM) := fB_goBackTo_l2 t t1 xfu v2 (0 : Int32) m
set_option maxRecDepth 100000 in
set_option maxHeartbeats 4000000 in
theorem kB_goBackTo_l11 (G : xG) (t : Nat) (t1 : Nat) (ht : t < 5) (ht1 : t1 < 36) (z : xM)  (k2 : Int32 → Int32 → xM → Option (xM)) (hk2 : ∀ (v2 : Int32) (v3 : Int32) (m : xM), xR G yyB_goBackTo (emvc z) 2 [(0, .ref (xa G (72 + t))), (1, .ref (xa G (36 + t1))), (2, .int v2), (3, .int v3)] [] (m, z) (k2 v2 v3 m)) : ∀ (n : Nat) (v2 : Int32) (v3 : Int32) (v4 : Int32) (m : xM), xR G yyB_goBackTo (emvc z) 11 [(0, .ref (xa G (72 + t))), (1, .ref (xa G (36 + t1))), (2, .int v2), (3, .int v3), (4, .int v4)] [] (m, z) (fB_goBackTo_l11 t t1 k2 n v2 v3 v4 m) := by
  intro n
  induction n with
  | zero =>
    intro v2 v3 v4 m
    rw [fB_goBackTo_l11]
    exact xR_none
  | succ n ih =>
    intro v2 v3 v4 m
    rw [fB_goBackTo_l11]
    refine xR_il 11 4 dB_goBackTo_11 rfl ?_
    refine xR_bp 13 (6 : Int32) dB_goBackTo_13 (by decide) ?_
    refine xR_icge 15 46 dB_goBackTo_15 (by decide) ?_ ?_
    · refine xR_iinc 46 3 (v3 + 1) ([(3, .int (v3 + 1)), (0, .ref (xa G (72 + t))), (1, .ref (xa G (36 + t1))), (2, .int v2), (4, .int v4)]) dB_goBackTo_46 rfl rfl (by decide) rfl ?_
      refine xR_goto 49 2 dB_goBackTo_49 (by decide) ?_
      exact xR_sub [1, 2, 3, 0] rfl (hk2 v2 (v3 + 1) m)
    · refine xR_aln 18 0 dB_goBackTo_18 rfl rfl ?_
      refine xR_getf 19 xcf0 0 (72 + t) (by decide) (xk_B ht) (xC_brd ht) (v := .ref (xa G (36 + (xtb t)))) rfl fl_RX0_14 dB_goBackTo_19 ?_
      refine xR_iln 22 3 dB_goBackTo_22 rfl rfl ?_
      refine xR_il 23 4 dB_goBackTo_23 rfl ?_
      refine xR_aln 25 1 dB_goBackTo_25 rfl rfl ?_
      refine xR_iln 26 2 dB_goBackTo_26 rfl rfl ?_
      refine xR_bp 27 (6 : Int32) dB_goBackTo_27 (by decide) ?_
      refine xR_iln 29 3 dB_goBackTo_29 rfl rfl ?_
      refine xR_imul 30 dB_goBackTo_30 ?_
      refine xR_il 31 4 dB_goBackTo_31 rfl ?_
      refine xR_iadd 33 dB_goBackTo_33 ?_
      refine xR_callVi 34 cv_T_get ml_RX0_24 ⟨Nat.le_of_ble_eq_true rfl, Nat.le_of_ble_eq_true rfl⟩ xcf3 rfl (36 + t1) (xk_T ht1) (xC_tab ht1) [.int v2, .int (((6 : Int32) * v3) + v4)] rfl rfl (Nat.le_of_ble_eq_true rfl) dB_goBackTo_34 (kT_get G t1 ht1 z m v2 (((6 : Int32) * v3) + v4)) (fun r34 => ?_)
      refine xR_callVvc 37 cv_T_put ml_RX0_28 ⟨Nat.le_of_ble_eq_true rfl, Nat.le_of_ble_eq_true rfl⟩ xcf3 rfl (36 + (xtb t)) (xk_T (xtb_lt ht)) (xC_tab (xtb_lt ht)) [.int v3, .int v4, .int r34] rfl rfl (Nat.le_of_ble_eq_true rfl) dB_goBackTo_37 (kT_put G (xtb t) (xtb_lt ht) z m v3 v4 r34) (fun r37 => ?_)
      refine xR_iinc 40 4 (v4 + 1) ([(4, .int (v4 + 1)), (0, .ref (xa G (72 + t))), (1, .ref (xa G (36 + t1))), (2, .int v2), (3, .int v3)]) dB_goBackTo_40 rfl rfl (by decide) rfl ?_
      refine xR_goto 43 11 dB_goBackTo_43 (by decide) ?_
      exact xR_sub [1, 2, 3, 4, 0] rfl (ih v2 v3 (v4 + 1) r37)
set_option maxRecDepth 100000 in
set_option maxHeartbeats 4000000 in
theorem kB_goBackTo_l2 (G : xG) (t : Nat) (t1 : Nat) (ht : t < 5) (ht1 : t1 < 36) (z : xM)    : ∀ (n : Nat) (v2 : Int32) (v3 : Int32) (m : xM), xR G yyB_goBackTo (emvc z) 2 [(0, .ref (xa G (72 + t))), (1, .ref (xa G (36 + t1))), (2, .int v2), (3, .int v3)] [] (m, z) (fB_goBackTo_l2 t t1 n v2 v3 m) := by
  intro n
  induction n with
  | zero =>
    intro v2 v3 m
    rw [fB_goBackTo_l2]
    exact xR_none
  | succ n ih =>
    intro v2 v3 m
    rw [fB_goBackTo_l2]
    refine xR_iln 2 3 dB_goBackTo_2 rfl rfl ?_
    refine xR_bp 3 (6 : Int32) dB_goBackTo_3 (by decide) ?_
    refine xR_icge 5 52 dB_goBackTo_5 (by decide) ?_ ?_
    · refine xR_aln 52 0 dB_goBackTo_52 rfl rfl ?_
      refine xR_aln 53 1 dB_goBackTo_53 rfl rfl ?_
      refine xR_iln 54 2 dB_goBackTo_54 rfl rfl ?_
      refine xR_bp 55 (36 : Int32) dB_goBackTo_55 (by decide) ?_
      refine xR_callVi 57 cv_T_get ml_RX0_24 ⟨Nat.le_of_ble_eq_true rfl, Nat.le_of_ble_eq_true rfl⟩ xcf3 rfl (36 + t1) (xk_T ht1) (xC_tab ht1) [.int v2, .int (36 : Int32)] rfl rfl (Nat.le_of_ble_eq_true rfl) dB_goBackTo_57 (kT_get G t1 ht1 z m v2 (36 : Int32)) (fun r57 => ?_)
      refine xR_putf 60 xcf0 1 (72 + t) (by decide) (xk_B ht) (xC_brd ht) rfl rfl rfl (Nat.le_of_ble_eq_true rfl) ((xset m 37 t r57), z) (xW_year ht) fl_RX0_35 dB_goBackTo_60 ?_
      exact xR_vret 63 rfl rfl dB_goBackTo_63
    · refine xR_ic 8 (0 : Int32) dB_goBackTo_8 (by decide) ?_
      refine xR_is 9 ([(4, .int (0 : Int32)), (0, .ref (xa G (72 + t))), (1, .ref (xa G (36 + t1))), (2, .int v2), (3, .int v3)]) dB_goBackTo_9 (by decide) rfl ?_
      exact xR_sub [1, 2, 3, 4, 0] rfl (kB_goBackTo_l11 G t t1 ht ht1 z (fB_goBackTo_l2 t t1 n) ih xfu v2 v3 (0 : Int32) m)
set_option maxRecDepth 100000 in
set_option maxHeartbeats 4000000 in
theorem kB_goBackTo (G : xG) (t : Nat) (t1 : Nat) (ht : t < 5) (ht1 : t1 < 36) (z : xM) (m : xM) (v2 : Int32) : ∀ a, fB_goBackTo t t1 v2 m = some a → xCt G yyB_goBackTo [.ref (xa G (72 + t)), .ref (xa G (36 + t1)), .int v2] (m, z) (none) (a, z) := by
  refine xR_ct (em := (emvc z)) rfl (Nat.le_of_ble_eq_true rfl) ?_
  show xR G yyB_goBackTo _ 0 [(0, .ref (xa G (72 + t))), (1, .ref (xa G (36 + t1))), (2, .int v2)] [] _ _
  unfold fB_goBackTo
  refine xR_ic 0 (0 : Int32) dB_goBackTo_0 (by decide) ?_
  refine xR_isn 1 ([(3, .int (0 : Int32)), (0, .ref (xa G (72 + t))), (1, .ref (xa G (36 + t1))), (2, .int v2)]) dB_goBackTo_1 rfl (by decide) rfl ?_
  exact xR_sub [1, 2, 3, 0] rfl (kB_goBackTo_l2 G t t1 ht ht1 z xfu v2 (0 : Int32) m)
theorem dB_housesIn_0 : decode (xb yyB_housesIn) 0 = .ok (.iconst 0, 1) := by decide +kernel
theorem dB_housesIn_1 : decode (xb yyB_housesIn) 1 = .ok (.istore_n 2, 1) := by decide +kernel
theorem dB_housesIn_2 : decode (xb yyB_housesIn) 2 = .ok (.iconst 0, 1) := by decide +kernel
theorem dB_housesIn_3 : decode (xb yyB_housesIn) 3 = .ok (.istore_n 3, 1) := by decide +kernel
theorem dB_housesIn_4 : decode (xb yyB_housesIn) 4 = .ok (.iload_n 3, 1) := by decide +kernel
theorem dB_housesIn_5 : decode (xb yyB_housesIn) 5 = .ok (.aload_n 0, 1) := by decide +kernel
theorem dB_housesIn_6 : decode (xb yyB_housesIn) 6 = .ok (.getfield 14, 3) := by decide +kernel
theorem dB_housesIn_9 : decode (xb yyB_housesIn) 9 = .ok (.invokevirtual 20, 3) := by decide +kernel
theorem dB_housesIn_12 : decode (xb yyB_housesIn) 12 = .ok (.if_icmp .ge 36, 3) := by decide +kernel
theorem dB_housesIn_15 : decode (xb yyB_housesIn) 15 = .ok (.aload_n 0, 1) := by decide +kernel
theorem dB_housesIn_16 : decode (xb yyB_housesIn) 16 = .ok (.getfield 14, 3) := by decide +kernel
theorem dB_housesIn_19 : decode (xb yyB_housesIn) 19 = .ok (.iload_n 3, 1) := by decide +kernel
theorem dB_housesIn_20 : decode (xb yyB_housesIn) 20 = .ok (.iconst 5, 1) := by decide +kernel
theorem dB_housesIn_21 : decode (xb yyB_housesIn) 21 = .ok (.invokevirtual 24, 3) := by decide +kernel
theorem dB_housesIn_24 : decode (xb yyB_housesIn) 24 = .ok (.iload_n 1, 1) := by decide +kernel
theorem dB_housesIn_25 : decode (xb yyB_housesIn) 25 = .ok (.if_icmp .ne 17, 3) := by decide +kernel
theorem dB_housesIn_28 : decode (xb yyB_housesIn) 28 = .ok (.iload_n 2, 1) := by decide +kernel
theorem dB_housesIn_29 : decode (xb yyB_housesIn) 29 = .ok (.iconst 1, 1) := by decide +kernel
theorem dB_housesIn_30 : decode (xb yyB_housesIn) 30 = .ok (.aload_n 0, 1) := by decide +kernel
theorem dB_housesIn_31 : decode (xb yyB_housesIn) 31 = .ok (.getfield 14, 3) := by decide +kernel
theorem dB_housesIn_34 : decode (xb yyB_housesIn) 34 = .ok (.iload_n 3, 1) := by decide +kernel
theorem dB_housesIn_35 : decode (xb yyB_housesIn) 35 = .ok (.iconst 3, 1) := by decide +kernel
theorem dB_housesIn_36 : decode (xb yyB_housesIn) 36 = .ok (.invokevirtual 24, 3) := by decide +kernel
theorem dB_housesIn_39 : decode (xb yyB_housesIn) 39 = .ok (.ishl, 1) := by decide +kernel
theorem dB_housesIn_40 : decode (xb yyB_housesIn) 40 = .ok (.ior, 1) := by decide +kernel
theorem dB_housesIn_41 : decode (xb yyB_housesIn) 41 = .ok (.istore_n 2, 1) := by decide +kernel
theorem dB_housesIn_42 : decode (xb yyB_housesIn) 42 = .ok (.iinc 3 1, 3) := by decide +kernel
theorem dB_housesIn_45 : decode (xb yyB_housesIn) 45 = .ok (.goto (-41), 3) := by decide +kernel
theorem dB_housesIn_48 : decode (xb yyB_housesIn) 48 = .ok (.iload_n 2, 1) := by decide +kernel
theorem dB_housesIn_49 : decode (xb yyB_housesIn) 49 = .ok (.invokestatic 50, 3) := by decide +kernel
theorem dB_housesIn_52 : decode (xb yyB_housesIn) 52 = .ok (.ireturn, 1) := by decide +kernel
def fB_housesIn_b42 (t : Nat) (m : xM) (k4 : Int32 → Int32 → Int32 → Option (Int32)) (v1 : Int32) (v2 : Int32) (v3 : Int32) : Option (Int32) := k4 v1 v2 (v3 + 1)
def fB_housesIn_l4 (t : Nat) (m : xM) : Nat → Int32 → Int32 → Int32 → Option (Int32)
  | 0, _, _, _ => none
  | n + 1, v1, v2, v3 => (fT_many (xtb t) m).bind fun r9 => (if r9 ≤ v3 then (fJ_bitCount v2).bind fun r49 => some r49 else (fT_get (xtb t) m v3 (5 : Int32)).bind fun r21 => (if r21 = v1 then (fT_get (xtb t) m v3 (3 : Int32)).bind fun r36 => fB_housesIn_b42 t m (fB_housesIn_l4 t m n) v1 (v2 ||| ((1 : Int32) <<< (r36 &&& 31))) v3 else fB_housesIn_b42 t m (fB_housesIn_l4 t m n) v1 v2 v3))
def fB_housesIn (t : Nat) (m : xM) (v1 : Int32) : Option (Int32) := fB_housesIn_l4 t m xfu v1 (0 : Int32) (0 : Int32)
set_option maxRecDepth 100000 in
set_option maxHeartbeats 4000000 in
theorem kB_housesIn_b42 (G : xG) (t : Nat) (ht : t < 5) (z : xM) (m : xM) (k4 : Int32 → Int32 → Int32 → Option (Int32)) (hk4 : ∀ (v1 : Int32) (v2 : Int32) (v3 : Int32), xR G yyB_housesIn (emi (m, z)) 4 [(0, .ref (xa G (72 + t))), (1, .int v1), (2, .int v2), (3, .int v3)] [] (m, z) (k4 v1 v2 v3)) (v1 : Int32) (v2 : Int32) (v3 : Int32) : xR G yyB_housesIn (emi (m, z)) 42 [(0, .ref (xa G (72 + t))), (1, .int v1), (2, .int v2), (3, .int v3)] [] (m, z) (fB_housesIn_b42 t m k4 v1 v2 v3) := by
  unfold fB_housesIn_b42
  refine xR_iinc 42 3 (v3 + 1) ([(3, .int (v3 + 1)), (0, .ref (xa G (72 + t))), (1, .int v1), (2, .int v2)]) dB_housesIn_42 rfl rfl (by decide) rfl ?_
  refine xR_goto 45 4 dB_housesIn_45 (by decide) ?_
  exact xR_sub [1, 2, 3, 0] rfl (hk4 v1 v2 (v3 + 1))
set_option maxRecDepth 100000 in
set_option maxHeartbeats 4000000 in
theorem kB_housesIn_l4 (G : xG) (t : Nat) (ht : t < 5) (z : xM) (m : xM)   : ∀ (n : Nat) (v1 : Int32) (v2 : Int32) (v3 : Int32), xR G yyB_housesIn (emi (m, z)) 4 [(0, .ref (xa G (72 + t))), (1, .int v1), (2, .int v2), (3, .int v3)] [] (m, z) (fB_housesIn_l4 t m n v1 v2 v3) := by
  intro n
  induction n with
  | zero =>
    intro v1 v2 v3
    rw [fB_housesIn_l4]
    exact xR_none
  | succ n ih =>
    intro v1 v2 v3
    rw [fB_housesIn_l4]
    refine xR_iln 4 3 dB_housesIn_4 rfl rfl ?_
    refine xR_aln 5 0 dB_housesIn_5 rfl rfl ?_
    refine xR_getf 6 xcf0 0 (72 + t) (by decide) (xk_B ht) (xC_brd ht) (v := .ref (xa G (36 + (xtb t)))) rfl fl_RX0_14 dB_housesIn_6 ?_
    refine xR_callVi 9 cv_T_many ml_RX0_20 ⟨Nat.le_of_ble_eq_true rfl, Nat.le_of_ble_eq_true rfl⟩ xcf3 rfl (36 + (xtb t)) (xk_T (xtb_lt ht)) (xC_tab (xtb_lt ht)) [] rfl rfl (Nat.le_of_ble_eq_true rfl) dB_housesIn_9 (kT_many G (xtb t) (xtb_lt ht) z m) (fun r9 => ?_)
    refine xR_icge 12 48 dB_housesIn_12 (by decide) ?_ ?_
    · refine xR_iln 48 2 dB_housesIn_48 rfl rfl ?_
      refine xR_callSi 49 cs_J_bitCount ml_RX0_50 ⟨Nat.le_of_ble_eq_true rfl, Nat.le_of_ble_eq_true rfl⟩ [.int v2] rfl rfl (Nat.le_of_ble_eq_true rfl) dB_housesIn_49 (kJ_bitCount G (m, z) v2) (fun r49 => ?_)
      exact xR_iret 52 rfl rfl dB_housesIn_52
    · refine xR_aln 15 0 dB_housesIn_15 rfl rfl ?_
      refine xR_getf 16 xcf0 0 (72 + t) (by decide) (xk_B ht) (xC_brd ht) (v := .ref (xa G (36 + (xtb t)))) rfl fl_RX0_14 dB_housesIn_16 ?_
      refine xR_iln 19 3 dB_housesIn_19 rfl rfl ?_
      refine xR_ic 20 (5 : Int32) dB_housesIn_20 (by decide) ?_
      refine xR_callVi 21 cv_T_get ml_RX0_24 ⟨Nat.le_of_ble_eq_true rfl, Nat.le_of_ble_eq_true rfl⟩ xcf3 rfl (36 + (xtb t)) (xk_T (xtb_lt ht)) (xC_tab (xtb_lt ht)) [.int v3, .int (5 : Int32)] rfl rfl (Nat.le_of_ble_eq_true rfl) dB_housesIn_21 (kT_get G (xtb t) (xtb_lt ht) z m v3 (5 : Int32)) (fun r21 => ?_)
      refine xR_iln 24 1 dB_housesIn_24 rfl rfl ?_
      refine xR_icne 25 42 dB_housesIn_25 (by decide) ?_ ?_
      · exact kB_housesIn_b42 G t ht z m (fB_housesIn_l4 t m n) ih v1 v2 v3
      · refine xR_iln 28 2 dB_housesIn_28 rfl rfl ?_
        refine xR_ic 29 (1 : Int32) dB_housesIn_29 (by decide) ?_
        refine xR_aln 30 0 dB_housesIn_30 rfl rfl ?_
        refine xR_getf 31 xcf0 0 (72 + t) (by decide) (xk_B ht) (xC_brd ht) (v := .ref (xa G (36 + (xtb t)))) rfl fl_RX0_14 dB_housesIn_31 ?_
        refine xR_iln 34 3 dB_housesIn_34 rfl rfl ?_
        refine xR_ic 35 (3 : Int32) dB_housesIn_35 (by decide) ?_
        refine xR_callVi 36 cv_T_get ml_RX0_24 ⟨Nat.le_of_ble_eq_true rfl, Nat.le_of_ble_eq_true rfl⟩ xcf3 rfl (36 + (xtb t)) (xk_T (xtb_lt ht)) (xC_tab (xtb_lt ht)) [.int v3, .int (3 : Int32)] rfl rfl (Nat.le_of_ble_eq_true rfl) dB_housesIn_36 (kT_get G (xtb t) (xtb_lt ht) z m v3 (3 : Int32)) (fun r36 => ?_)
        refine xR_ishl 39 dB_housesIn_39 ?_
        refine xR_ior 40 dB_housesIn_40 ?_
        refine xR_isn 41 ([(2, .int (v2 ||| ((1 : Int32) <<< (r36 &&& 31)))), (0, .ref (xa G (72 + t))), (1, .int v1), (3, .int v3)]) dB_housesIn_41 rfl (by decide) rfl ?_
        exact xR_sub [1, 2, 0, 3] rfl (kB_housesIn_b42 G t ht z m (fB_housesIn_l4 t m n) ih v1 (v2 ||| ((1 : Int32) <<< (r36 &&& 31))) v3)
set_option maxRecDepth 100000 in
set_option maxHeartbeats 4000000 in
theorem kB_housesIn (G : xG) (t : Nat) (ht : t < 5) (z : xM) (m : xM) (v1 : Int32) : ∀ a, fB_housesIn t m v1 = some a → xCt G yyB_housesIn [.ref (xa G (72 + t)), .int v1] (m, z) (some (.int a)) (m, z) := by
  refine xR_ct (em := (emi (m, z))) rfl (Nat.le_of_ble_eq_true rfl) ?_
  show xR G yyB_housesIn _ 0 [(0, .ref (xa G (72 + t))), (1, .int v1)] [] _ _
  unfold fB_housesIn
  refine xR_ic 0 (0 : Int32) dB_housesIn_0 (by decide) ?_
  refine xR_isn 1 ([(2, .int (0 : Int32)), (0, .ref (xa G (72 + t))), (1, .int v1)]) dB_housesIn_1 rfl (by decide) rfl ?_
  refine xR_ic 2 (0 : Int32) dB_housesIn_2 (by decide) ?_
  refine xR_isn 3 ([(3, .int (0 : Int32)), (2, .int (0 : Int32)), (0, .ref (xa G (72 + t))), (1, .int v1)]) dB_housesIn_3 rfl (by decide) rfl ?_
  exact xR_sub [2, 3, 1, 0] rfl (kB_housesIn_l4 G t ht z m xfu v1 (0 : Int32) (0 : Int32))
theorem dB_soundOf_0 : decode (xb yyB_soundOf) 0 = .ok (.aload_n 0, 1) := by decide +kernel
theorem dB_soundOf_1 : decode (xb yyB_soundOf) 1 = .ok (.getfield 14, 3) := by decide +kernel
theorem dB_soundOf_4 : decode (xb yyB_soundOf) 4 = .ok (.iload_n 1, 1) := by decide +kernel
theorem dB_soundOf_5 : decode (xb yyB_soundOf) 5 = .ok (.iconst 0, 1) := by decide +kernel
theorem dB_soundOf_6 : decode (xb yyB_soundOf) 6 = .ok (.invokevirtual 24, 3) := by decide +kernel
theorem dB_soundOf_9 : decode (xb yyB_soundOf) 9 = .ok (.iload_n 2, 1) := by decide +kernel
theorem dB_soundOf_10 : decode (xb yyB_soundOf) 10 = .ok (.aload_n 0, 1) := by decide +kernel
theorem dB_soundOf_11 : decode (xb yyB_soundOf) 11 = .ok (.getfield 14, 3) := by decide +kernel
theorem dB_soundOf_14 : decode (xb yyB_soundOf) 14 = .ok (.iload_n 1, 1) := by decide +kernel
theorem dB_soundOf_15 : decode (xb yyB_soundOf) 15 = .ok (.iconst 1, 1) := by decide +kernel
theorem dB_soundOf_16 : decode (xb yyB_soundOf) 16 = .ok (.invokevirtual 24, 3) := by decide +kernel
theorem dB_soundOf_19 : decode (xb yyB_soundOf) 19 = .ok (.aload_n 0, 1) := by decide +kernel
theorem dB_soundOf_20 : decode (xb yyB_soundOf) 20 = .ok (.getfield 14, 3) := by decide +kernel
theorem dB_soundOf_23 : decode (xb yyB_soundOf) 23 = .ok (.iload_n 1, 1) := by decide +kernel
theorem dB_soundOf_24 : decode (xb yyB_soundOf) 24 = .ok (.iconst 2, 1) := by decide +kernel
theorem dB_soundOf_25 : decode (xb yyB_soundOf) 25 = .ok (.invokevirtual 24, 3) := by decide +kernel
theorem dB_soundOf_28 : decode (xb yyB_soundOf) 28 = .ok (.invokestatic 63, 3) := by decide +kernel
theorem dB_soundOf_31 : decode (xb yyB_soundOf) 31 = .ok (.istore_n 3, 1) := by decide +kernel
theorem dB_soundOf_32 : decode (xb yyB_soundOf) 32 = .ok (.aload_n 0, 1) := by decide +kernel
theorem dB_soundOf_33 : decode (xb yyB_soundOf) 33 = .ok (.getfield 14, 3) := by decide +kernel
theorem dB_soundOf_36 : decode (xb yyB_soundOf) 36 = .ok (.iload_n 1, 1) := by decide +kernel
theorem dB_soundOf_37 : decode (xb yyB_soundOf) 37 = .ok (.iconst 4, 1) := by decide +kernel
theorem dB_soundOf_38 : decode (xb yyB_soundOf) 38 = .ok (.invokevirtual 24, 3) := by decide +kernel
theorem dB_soundOf_41 : decode (xb yyB_soundOf) 41 = .ok (.iconst 1, 1) := by decide +kernel
theorem dB_soundOf_42 : decode (xb yyB_soundOf) 42 = .ok (.if_icmp .ne 9, 3) := by decide +kernel
theorem dB_soundOf_45 : decode (xb yyB_soundOf) 45 = .ok (.iload_n 3, 1) := by decide +kernel
theorem dB_soundOf_46 : decode (xb yyB_soundOf) 46 = .ok (.iconst 2, 1) := by decide +kernel
theorem dB_soundOf_47 : decode (xb yyB_soundOf) 47 = .ok (.idiv, 1) := by decide +kernel
theorem dB_soundOf_48 : decode (xb yyB_soundOf) 48 = .ok (.goto 4, 3) := by decide +kernel
theorem dB_soundOf_51 : decode (xb yyB_soundOf) 51 = .ok (.iload_n 3, 1) := by decide +kernel
theorem dB_soundOf_52 : decode (xb yyB_soundOf) 52 = .ok (.ireturn, 1) := by decide +kernel
def fB_soundOf (t : Nat) (m : xM) (v1 : Int32) (v2 : Int32) : Option (Int32) := (fT_get (xtb t) m v1 (0 : Int32)).bind fun r6 => (fT_get (xtb t) m v1 (1 : Int32)).bind fun r16 => (fT_get (xtb t) m v1 (2 : Int32)).bind fun r25 => (fD_soundBy r6 v2 r16 r25).bind fun r28 => (fT_get (xtb t) m v1 (4 : Int32)).bind fun r38 => (if r38 = (1 : Int32) then some (r28 / (2 : Int32)) else some r28)
set_option maxRecDepth 100000 in
set_option maxHeartbeats 4000000 in
theorem kB_soundOf (G : xG) (t : Nat) (ht : t < 5) (z : xM) (m : xM) (v1 : Int32) (v2 : Int32) : ∀ a, fB_soundOf t m v1 v2 = some a → xCt G yyB_soundOf [.ref (xa G (72 + t)), .int v1, .int v2] (m, z) (some (.int a)) (m, z) := by
  refine xR_ct (em := (emi (m, z))) rfl (Nat.le_of_ble_eq_true rfl) ?_
  show xR G yyB_soundOf _ 0 [(0, .ref (xa G (72 + t))), (1, .int v1), (2, .int v2)] [] _ _
  unfold fB_soundOf
  refine xR_aln 0 0 dB_soundOf_0 rfl rfl ?_
  refine xR_getf 1 xcf0 0 (72 + t) (by decide) (xk_B ht) (xC_brd ht) (v := .ref (xa G (36 + (xtb t)))) rfl fl_RX0_14 dB_soundOf_1 ?_
  refine xR_iln 4 1 dB_soundOf_4 rfl rfl ?_
  refine xR_ic 5 (0 : Int32) dB_soundOf_5 (by decide) ?_
  refine xR_callVi 6 cv_T_get ml_RX0_24 ⟨Nat.le_of_ble_eq_true rfl, Nat.le_of_ble_eq_true rfl⟩ xcf3 rfl (36 + (xtb t)) (xk_T (xtb_lt ht)) (xC_tab (xtb_lt ht)) [.int v1, .int (0 : Int32)] rfl rfl (Nat.le_of_ble_eq_true rfl) dB_soundOf_6 (kT_get G (xtb t) (xtb_lt ht) z m v1 (0 : Int32)) (fun r6 => ?_)
  refine xR_iln 9 2 dB_soundOf_9 rfl rfl ?_
  refine xR_aln 10 0 dB_soundOf_10 rfl rfl ?_
  refine xR_getf 11 xcf0 0 (72 + t) (by decide) (xk_B ht) (xC_brd ht) (v := .ref (xa G (36 + (xtb t)))) rfl fl_RX0_14 dB_soundOf_11 ?_
  refine xR_iln 14 1 dB_soundOf_14 rfl rfl ?_
  refine xR_ic 15 (1 : Int32) dB_soundOf_15 (by decide) ?_
  refine xR_callVi 16 cv_T_get ml_RX0_24 ⟨Nat.le_of_ble_eq_true rfl, Nat.le_of_ble_eq_true rfl⟩ xcf3 rfl (36 + (xtb t)) (xk_T (xtb_lt ht)) (xC_tab (xtb_lt ht)) [.int v1, .int (1 : Int32)] rfl rfl (Nat.le_of_ble_eq_true rfl) dB_soundOf_16 (kT_get G (xtb t) (xtb_lt ht) z m v1 (1 : Int32)) (fun r16 => ?_)
  refine xR_aln 19 0 dB_soundOf_19 rfl rfl ?_
  refine xR_getf 20 xcf0 0 (72 + t) (by decide) (xk_B ht) (xC_brd ht) (v := .ref (xa G (36 + (xtb t)))) rfl fl_RX0_14 dB_soundOf_20 ?_
  refine xR_iln 23 1 dB_soundOf_23 rfl rfl ?_
  refine xR_ic 24 (2 : Int32) dB_soundOf_24 (by decide) ?_
  refine xR_callVi 25 cv_T_get ml_RX0_24 ⟨Nat.le_of_ble_eq_true rfl, Nat.le_of_ble_eq_true rfl⟩ xcf3 rfl (36 + (xtb t)) (xk_T (xtb_lt ht)) (xC_tab (xtb_lt ht)) [.int v1, .int (2 : Int32)] rfl rfl (Nat.le_of_ble_eq_true rfl) dB_soundOf_25 (kT_get G (xtb t) (xtb_lt ht) z m v1 (2 : Int32)) (fun r25 => ?_)
  refine xR_callSi 28 cs_D_soundBy ml_RX0_63 ⟨Nat.le_of_ble_eq_true rfl, Nat.le_of_ble_eq_true rfl⟩ [.int r6, .int v2, .int r16, .int r25] rfl rfl (Nat.le_of_ble_eq_true rfl) dB_soundOf_28 (kD_soundBy G (m, z) r6 v2 r16 r25) (fun r28 => ?_)
  refine xR_isn 31 ([(3, .int r28), (0, .ref (xa G (72 + t))), (1, .int v1), (2, .int v2)]) dB_soundOf_31 rfl (by decide) rfl ?_
  refine xR_aln 32 1 dB_soundOf_32 rfl rfl ?_
  refine xR_getf 33 xcf0 0 (72 + t) (by decide) (xk_B ht) (xC_brd ht) (v := .ref (xa G (36 + (xtb t)))) rfl fl_RX0_14 dB_soundOf_33 ?_
  refine xR_iln 36 2 dB_soundOf_36 rfl rfl ?_
  refine xR_ic 37 (4 : Int32) dB_soundOf_37 (by decide) ?_
  refine xR_callVi 38 cv_T_get ml_RX0_24 ⟨Nat.le_of_ble_eq_true rfl, Nat.le_of_ble_eq_true rfl⟩ xcf3 rfl (36 + (xtb t)) (xk_T (xtb_lt ht)) (xC_tab (xtb_lt ht)) [.int v1, .int (4 : Int32)] rfl rfl (Nat.le_of_ble_eq_true rfl) dB_soundOf_38 (kT_get G (xtb t) (xtb_lt ht) z m v1 (4 : Int32)) (fun r38 => ?_)
  refine xR_ic 41 (1 : Int32) dB_soundOf_41 (by decide) ?_
  refine xR_icne 42 51 dB_soundOf_42 (by decide) ?_ ?_
  · refine xR_iln 51 0 dB_soundOf_51 rfl rfl ?_
    exact xR_iret 52 rfl rfl dB_soundOf_52
  · refine xR_iln 45 0 dB_soundOf_45 rfl rfl ?_
    refine xR_ic 46 (2 : Int32) dB_soundOf_46 (by decide) ?_
    refine xR_idiv 47 dB_soundOf_47 (by decide) ?_
    refine xR_goto 48 52 dB_soundOf_48 (by decide) ?_
    exact xR_iret 52 rfl rfl dB_soundOf_52
theorem dB_dampOfAll_0 : decode (xb yyB_dampOfAll) 0 = .ok (.iconst 0, 1) := by decide +kernel
theorem dB_dampOfAll_1 : decode (xb yyB_dampOfAll) 1 = .ok (.istore_n 1, 1) := by decide +kernel
theorem dB_dampOfAll_2 : decode (xb yyB_dampOfAll) 2 = .ok (.iconst 0, 1) := by decide +kernel
theorem dB_dampOfAll_3 : decode (xb yyB_dampOfAll) 3 = .ok (.istore_n 2, 1) := by decide +kernel
theorem dB_dampOfAll_4 : decode (xb yyB_dampOfAll) 4 = .ok (.iload_n 2, 1) := by decide +kernel
theorem dB_dampOfAll_5 : decode (xb yyB_dampOfAll) 5 = .ok (.aload_n 0, 1) := by decide +kernel
theorem dB_dampOfAll_6 : decode (xb yyB_dampOfAll) 6 = .ok (.getfield 14, 3) := by decide +kernel
theorem dB_dampOfAll_9 : decode (xb yyB_dampOfAll) 9 = .ok (.invokevirtual 20, 3) := by decide +kernel
theorem dB_dampOfAll_12 : decode (xb yyB_dampOfAll) 12 = .ok (.if_icmp .ge 21, 3) := by decide +kernel
theorem dB_dampOfAll_15 : decode (xb yyB_dampOfAll) 15 = .ok (.iload_n 1, 1) := by decide +kernel
theorem dB_dampOfAll_16 : decode (xb yyB_dampOfAll) 16 = .ok (.aload_n 0, 1) := by decide +kernel
theorem dB_dampOfAll_17 : decode (xb yyB_dampOfAll) 17 = .ok (.getfield 14, 3) := by decide +kernel
theorem dB_dampOfAll_20 : decode (xb yyB_dampOfAll) 20 = .ok (.iload_n 2, 1) := by decide +kernel
theorem dB_dampOfAll_21 : decode (xb yyB_dampOfAll) 21 = .ok (.iconst 2, 1) := by decide +kernel
theorem dB_dampOfAll_22 : decode (xb yyB_dampOfAll) 22 = .ok (.invokevirtual 24, 3) := by decide +kernel
theorem dB_dampOfAll_25 : decode (xb yyB_dampOfAll) 25 = .ok (.iadd, 1) := by decide +kernel
theorem dB_dampOfAll_26 : decode (xb yyB_dampOfAll) 26 = .ok (.istore_n 1, 1) := by decide +kernel
theorem dB_dampOfAll_27 : decode (xb yyB_dampOfAll) 27 = .ok (.iinc 2 1, 3) := by decide +kernel
theorem dB_dampOfAll_30 : decode (xb yyB_dampOfAll) 30 = .ok (.goto (-26), 3) := by decide +kernel
theorem dB_dampOfAll_33 : decode (xb yyB_dampOfAll) 33 = .ok (.iload_n 1, 1) := by decide +kernel
theorem dB_dampOfAll_34 : decode (xb yyB_dampOfAll) 34 = .ok (.ireturn, 1) := by decide +kernel
def fB_dampOfAll_l4 (t : Nat) (m : xM) : Nat → Int32 → Int32 → Option (Int32)
  | 0, _, _ => none
  | n + 1, v1, v2 => (fT_many (xtb t) m).bind fun r9 => (if r9 ≤ v2 then some v1 else (fT_get (xtb t) m v2 (2 : Int32)).bind fun r22 => fB_dampOfAll_l4 t m n (v1 + r22) (v2 + 1))
def fB_dampOfAll (t : Nat) (m : xM) : Option (Int32) := fB_dampOfAll_l4 t m xfu (0 : Int32) (0 : Int32)
set_option maxRecDepth 100000 in
set_option maxHeartbeats 4000000 in
theorem kB_dampOfAll_l4 (G : xG) (t : Nat) (ht : t < 5) (z : xM) (m : xM)   : ∀ (n : Nat) (v1 : Int32) (v2 : Int32), xR G yyB_dampOfAll (emi (m, z)) 4 [(0, .ref (xa G (72 + t))), (1, .int v1), (2, .int v2)] [] (m, z) (fB_dampOfAll_l4 t m n v1 v2) := by
  intro n
  induction n with
  | zero =>
    intro v1 v2
    rw [fB_dampOfAll_l4]
    exact xR_none
  | succ n ih =>
    intro v1 v2
    rw [fB_dampOfAll_l4]
    refine xR_iln 4 2 dB_dampOfAll_4 rfl rfl ?_
    refine xR_aln 5 0 dB_dampOfAll_5 rfl rfl ?_
    refine xR_getf 6 xcf0 0 (72 + t) (by decide) (xk_B ht) (xC_brd ht) (v := .ref (xa G (36 + (xtb t)))) rfl fl_RX0_14 dB_dampOfAll_6 ?_
    refine xR_callVi 9 cv_T_many ml_RX0_20 ⟨Nat.le_of_ble_eq_true rfl, Nat.le_of_ble_eq_true rfl⟩ xcf3 rfl (36 + (xtb t)) (xk_T (xtb_lt ht)) (xC_tab (xtb_lt ht)) [] rfl rfl (Nat.le_of_ble_eq_true rfl) dB_dampOfAll_9 (kT_many G (xtb t) (xtb_lt ht) z m) (fun r9 => ?_)
    refine xR_icge 12 33 dB_dampOfAll_12 (by decide) ?_ ?_
    · refine xR_iln 33 1 dB_dampOfAll_33 rfl rfl ?_
      exact xR_iret 34 rfl rfl dB_dampOfAll_34
    · refine xR_iln 15 1 dB_dampOfAll_15 rfl rfl ?_
      refine xR_aln 16 0 dB_dampOfAll_16 rfl rfl ?_
      refine xR_getf 17 xcf0 0 (72 + t) (by decide) (xk_B ht) (xC_brd ht) (v := .ref (xa G (36 + (xtb t)))) rfl fl_RX0_14 dB_dampOfAll_17 ?_
      refine xR_iln 20 2 dB_dampOfAll_20 rfl rfl ?_
      refine xR_ic 21 (2 : Int32) dB_dampOfAll_21 (by decide) ?_
      refine xR_callVi 22 cv_T_get ml_RX0_24 ⟨Nat.le_of_ble_eq_true rfl, Nat.le_of_ble_eq_true rfl⟩ xcf3 rfl (36 + (xtb t)) (xk_T (xtb_lt ht)) (xC_tab (xtb_lt ht)) [.int v2, .int (2 : Int32)] rfl rfl (Nat.le_of_ble_eq_true rfl) dB_dampOfAll_22 (kT_get G (xtb t) (xtb_lt ht) z m v2 (2 : Int32)) (fun r22 => ?_)
      refine xR_iadd 25 dB_dampOfAll_25 ?_
      refine xR_isn 26 ([(1, .int (v1 + r22)), (0, .ref (xa G (72 + t))), (2, .int v2)]) dB_dampOfAll_26 rfl (by decide) rfl ?_
      refine xR_iinc 27 2 (v2 + 1) ([(2, .int (v2 + 1)), (1, .int (v1 + r22)), (0, .ref (xa G (72 + t)))]) dB_dampOfAll_27 rfl rfl (by decide) rfl ?_
      refine xR_goto 30 4 dB_dampOfAll_30 (by decide) ?_
      exact xR_sub [2, 1, 0] rfl (ih (v1 + r22) (v2 + 1))
set_option maxRecDepth 100000 in
set_option maxHeartbeats 4000000 in
theorem kB_dampOfAll (G : xG) (t : Nat) (ht : t < 5) (z : xM) (m : xM) : ∀ a, fB_dampOfAll t m  = some a → xCt G yyB_dampOfAll [.ref (xa G (72 + t))] (m, z) (some (.int a)) (m, z) := by
  refine xR_ct (em := (emi (m, z))) rfl (Nat.le_of_ble_eq_true rfl) ?_
  show xR G yyB_dampOfAll _ 0 [(0, .ref (xa G (72 + t)))] [] _ _
  unfold fB_dampOfAll
  refine xR_ic 0 (0 : Int32) dB_dampOfAll_0 (by decide) ?_
  refine xR_isn 1 ([(1, .int (0 : Int32)), (0, .ref (xa G (72 + t)))]) dB_dampOfAll_1 rfl (by decide) rfl ?_
  refine xR_ic 2 (0 : Int32) dB_dampOfAll_2 (by decide) ?_
  refine xR_isn 3 ([(2, .int (0 : Int32)), (1, .int (0 : Int32)), (0, .ref (xa G (72 + t)))]) dB_dampOfAll_3 rfl (by decide) rfl ?_
  exact xR_sub [2, 1, 0] rfl (kB_dampOfAll_l4 G t ht z m xfu (0 : Int32) (0 : Int32))
end
section
theorem dW_dryWets_0 : decode (xb yyW_dryWets) 0 = .ok (.aload_n 0, 1) := by decide +kernel
theorem dW_dryWets_1 : decode (xb yyW_dryWets) 1 = .ok (.getfield 27, 3) := by decide +kernel
theorem dW_dryWets_4 : decode (xb yyW_dryWets) 4 = .ok (.invokevirtual 45, 3) := by decide +kernel
theorem dW_dryWets_7 : decode (xb yyW_dryWets) 7 = .ok (.iconst 0, 1) := by decide +kernel
theorem dW_dryWets_8 : decode (xb yyW_dryWets) 8 = .ok (.istore_n 1, 1) := by decide +kernel
theorem dW_dryWets_9 : decode (xb yyW_dryWets) 9 = .ok (.iload_n 1, 1) := by decide +kernel
theorem dW_dryWets_10 : decode (xb yyW_dryWets) 10 = .ok (.iconst 5, 1) := by decide +kernel
theorem dW_dryWets_11 : decode (xb yyW_dryWets) 11 = .ok (.if_icmp .ge 25, 3) := by decide +kernel
theorem dW_dryWets_14 : decode (xb yyW_dryWets) 14 = .ok (.aload_n 0, 1) := by decide +kernel
theorem dW_dryWets_15 : decode (xb yyW_dryWets) 15 = .ok (.getfield 27, 3) := by decide +kernel
theorem dW_dryWets_18 : decode (xb yyW_dryWets) 18 = .ok (.aload_n 0, 1) := by decide +kernel
theorem dW_dryWets_19 : decode (xb yyW_dryWets) 19 = .ok (.getfield 27, 3) := by decide +kernel
theorem dW_dryWets_22 : decode (xb yyW_dryWets) 22 = .ok (.invokevirtual 48, 3) := by decide +kernel
theorem dW_dryWets_25 : decode (xb yyW_dryWets) 25 = .ok (.iconst 0, 1) := by decide +kernel
theorem dW_dryWets_26 : decode (xb yyW_dryWets) 26 = .ok (.iconst 0, 1) := by decide +kernel
theorem dW_dryWets_27 : decode (xb yyW_dryWets) 27 = .ok (.invokevirtual 52, 3) := by decide +kernel
theorem dW_dryWets_30 : decode (xb yyW_dryWets) 30 = .ok (.iinc 1 1, 3) := by decide +kernel
theorem dW_dryWets_33 : decode (xb yyW_dryWets) 33 = .ok (.goto (-24), 3) := by decide +kernel
theorem dW_dryWets_36 : decode (xb yyW_dryWets) 36 = .ok (.return_, 1) := by decide +kernel
def fW_dryWets_l9 (t : Nat) : Nat → Int32 → xM → Option (xM)
  | 0, _, _ => none
  | n + 1, v1, m => (if (5 : Int32) ≤ v1 then some m else (fT_newRow (7 * t + 2) m).bind fun r22 => (fT_put (7 * t + 2) r22.1 (0 : Int32) (0 : Int32) r22.2).bind fun r27 => fW_dryWets_l9 t n (v1 + 1) r27)
def fW_dryWets (t : Nat) (m : xM) : Option (xM) := (fT_empty (7 * t + 2) m).bind fun r4 => fW_dryWets_l9 t xfu (0 : Int32) r4
set_option maxRecDepth 100000 in
set_option maxHeartbeats 4000000 in
theorem kW_dryWets_l9 (G : xG) (t : Nat) (ht : t < 4) (z : xM)    : ∀ (n : Nat) (v1 : Int32) (m : xM), xR G yyW_dryWets (emvc z) 9 [(0, .ref (xa G (77 + t))), (1, .int v1)] [] (m, z) (fW_dryWets_l9 t n v1 m) := by
  intro n
  induction n with
  | zero =>
    intro v1 m
    rw [fW_dryWets_l9]
    exact xR_none
  | succ n ih =>
    intro v1 m
    rw [fW_dryWets_l9]
    refine xR_iln 9 1 dW_dryWets_9 rfl rfl ?_
    refine xR_ic 10 (5 : Int32) dW_dryWets_10 (by decide) ?_
    refine xR_icge 11 36 dW_dryWets_11 (by decide) ?_ ?_
    · exact xR_vret 36 rfl rfl dW_dryWets_36
    · refine xR_aln 14 0 dW_dryWets_14 rfl rfl ?_
      refine xR_getf 15 xcf5 2 (77 + t) (by decide) (xk_W ht) (xC_twn ht) (v := .ref (xa G (36 + (7 * t + 2)))) rfl fl_RX6_27 dW_dryWets_15 ?_
      refine xR_aln 18 0 dW_dryWets_18 rfl rfl ?_
      refine xR_getf 19 xcf5 2 (77 + t) (by decide) (xk_W ht) (xC_twn ht) (v := .ref (xa G (36 + (7 * t + 2)))) rfl fl_RX6_27 dW_dryWets_19 ?_
      refine xR_callVic 22 cv_T_newRow ml_RX6_48 ⟨Nat.le_of_ble_eq_true rfl, Nat.le_of_ble_eq_true rfl⟩ xcf3 rfl (36 + (7 * t + 2)) (xk_T (xtw_lt ht (by decide))) (xC_tab (xtw_lt ht (by decide))) [] rfl rfl (Nat.le_of_ble_eq_true rfl) dW_dryWets_22 (kT_newRow G (7 * t + 2) (xtw_lt ht (by decide)) z m) (fun r22 => ?_)
      refine xR_ic 25 (0 : Int32) dW_dryWets_25 (by decide) ?_
      refine xR_ic 26 (0 : Int32) dW_dryWets_26 (by decide) ?_
      refine xR_callVvc 27 cv_T_put ml_RX6_52 ⟨Nat.le_of_ble_eq_true rfl, Nat.le_of_ble_eq_true rfl⟩ xcf3 rfl (36 + (7 * t + 2)) (xk_T (xtw_lt ht (by decide))) (xC_tab (xtw_lt ht (by decide))) [.int r22.1, .int (0 : Int32), .int (0 : Int32)] rfl rfl (Nat.le_of_ble_eq_true rfl) dW_dryWets_27 (kT_put G (7 * t + 2) (xtw_lt ht (by decide)) z r22.2 r22.1 (0 : Int32) (0 : Int32)) (fun r27 => ?_)
      refine xR_iinc 30 1 (v1 + 1) ([(1, .int (v1 + 1)), (0, .ref (xa G (77 + t)))]) dW_dryWets_30 rfl rfl (by decide) rfl ?_
      refine xR_goto 33 9 dW_dryWets_33 (by decide) ?_
      exact xR_sub [1, 0] rfl (ih (v1 + 1) r27)
set_option maxRecDepth 100000 in
set_option maxHeartbeats 4000000 in
theorem kW_dryWets (G : xG) (t : Nat) (ht : t < 4) (z : xM) (m : xM) : ∀ a, fW_dryWets t m = some a → xCt G yyW_dryWets [.ref (xa G (77 + t))] (m, z) (none) (a, z) := by
  refine xR_ct (em := (emvc z)) rfl (Nat.le_of_ble_eq_true rfl) ?_
  show xR G yyW_dryWets _ 0 [(0, .ref (xa G (77 + t)))] [] _ _
  unfold fW_dryWets
  refine xR_aln 0 0 dW_dryWets_0 rfl rfl ?_
  refine xR_getf 1 xcf5 2 (77 + t) (by decide) (xk_W ht) (xC_twn ht) (v := .ref (xa G (36 + (7 * t + 2)))) rfl fl_RX6_27 dW_dryWets_1 ?_
  refine xR_callVvc 4 cv_T_empty ml_RX6_45 ⟨Nat.le_of_ble_eq_true rfl, Nat.le_of_ble_eq_true rfl⟩ xcf3 rfl (36 + (7 * t + 2)) (xk_T (xtw_lt ht (by decide))) (xC_tab (xtw_lt ht (by decide))) [] rfl rfl (Nat.le_of_ble_eq_true rfl) dW_dryWets_4 (kT_empty G (7 * t + 2) (xtw_lt ht (by decide)) z m) (fun r4 => ?_)
  refine xR_ic 7 (0 : Int32) dW_dryWets_7 (by decide) ?_
  refine xR_isn 8 ([(1, .int (0 : Int32)), (0, .ref (xa G (77 + t)))]) dW_dryWets_8 rfl (by decide) rfl ?_
  exact xR_sub [1, 0] rfl (kW_dryWets_l9 G t ht z xfu (0 : Int32) r4)
theorem dW_empty_0 : decode (xb yyW_empty) 0 = .ok (.aload_n 0, 1) := by decide +kernel
theorem dW_empty_1 : decode (xb yyW_empty) 1 = .ok (.getfield 12, 3) := by decide +kernel
theorem dW_empty_4 : decode (xb yyW_empty) 4 = .ok (.invokevirtual 56, 3) := by decide +kernel
theorem dW_empty_7 : decode (xb yyW_empty) 7 = .ok (.aload_n 0, 1) := by decide +kernel
theorem dW_empty_8 : decode (xb yyW_empty) 8 = .ok (.getfield 23, 3) := by decide +kernel
theorem dW_empty_11 : decode (xb yyW_empty) 11 = .ok (.invokevirtual 45, 3) := by decide +kernel
theorem dW_empty_14 : decode (xb yyW_empty) 14 = .ok (.aload_n 0, 1) := by decide +kernel
theorem dW_empty_15 : decode (xb yyW_empty) 15 = .ok (.invokevirtual 42, 3) := by decide +kernel
theorem dW_empty_18 : decode (xb yyW_empty) 18 = .ok (.aload_n 0, 1) := by decide +kernel
theorem dW_empty_19 : decode (xb yyW_empty) 19 = .ok (.getfield 30, 3) := by decide +kernel
theorem dW_empty_22 : decode (xb yyW_empty) 22 = .ok (.invokevirtual 45, 3) := by decide +kernel
theorem dW_empty_25 : decode (xb yyW_empty) 25 = .ok (.aload_n 0, 1) := by decide +kernel
theorem dW_empty_26 : decode (xb yyW_empty) 26 = .ok (.getfield 33, 3) := by decide +kernel
theorem dW_empty_29 : decode (xb yyW_empty) 29 = .ok (.invokevirtual 45, 3) := by decide +kernel
theorem dW_empty_32 : decode (xb yyW_empty) 32 = .ok (.aload_n 0, 1) := by decide +kernel
theorem dW_empty_33 : decode (xb yyW_empty) 33 = .ok (.getfield 36, 3) := by decide +kernel
theorem dW_empty_36 : decode (xb yyW_empty) 36 = .ok (.invokevirtual 45, 3) := by decide +kernel
theorem dW_empty_39 : decode (xb yyW_empty) 39 = .ok (.aload_n 0, 1) := by decide +kernel
theorem dW_empty_40 : decode (xb yyW_empty) 40 = .ok (.getfield 39, 3) := by decide +kernel
theorem dW_empty_43 : decode (xb yyW_empty) 43 = .ok (.invokevirtual 45, 3) := by decide +kernel
theorem dW_empty_46 : decode (xb yyW_empty) 46 = .ok (.return_, 1) := by decide +kernel
def fW_empty (t : Nat) (m : xM) : Option (xM) := (fB_empty t m).bind fun r4 => (fT_empty (7 * t + 1) r4).bind fun r11 => (fW_dryWets t r11).bind fun r15 => (fT_empty (7 * t + 3) r15).bind fun r22 => (fT_empty (7 * t + 4) r22).bind fun r29 => (fT_empty (7 * t + 5) r29).bind fun r36 => (fT_empty (7 * t + 6) r36).bind fun r43 => some r43
set_option maxRecDepth 100000 in
set_option maxHeartbeats 4000000 in
theorem kW_empty (G : xG) (t : Nat) (ht : t < 4) (z : xM) (m : xM) : ∀ a, fW_empty t m = some a → xCt G yyW_empty [.ref (xa G (77 + t))] (m, z) (none) (a, z) := by
  refine xR_ct (em := (emvc z)) rfl (Nat.le_of_ble_eq_true rfl) ?_
  show xR G yyW_empty _ 0 [(0, .ref (xa G (77 + t)))] [] _ _
  unfold fW_empty
  refine xR_aln 0 0 dW_empty_0 rfl rfl ?_
  refine xR_getf 1 xcf5 0 (77 + t) (by decide) (xk_W ht) (xC_twn ht) (v := .ref (xa G (72 + t))) rfl fl_RX6_12 dW_empty_1 ?_
  refine xR_callVvc 4 cv_B_empty ml_RX6_56 ⟨Nat.le_of_ble_eq_true rfl, Nat.le_of_ble_eq_true rfl⟩ xcf0 rfl (72 + t) (xk_B (Nat.lt_of_lt_of_le ht (by decide))) (xC_brd (Nat.lt_of_lt_of_le ht (by decide))) [] rfl rfl (Nat.le_of_ble_eq_true rfl) dW_empty_4 (kB_empty G t (Nat.lt_of_lt_of_le ht (by decide)) z m) (fun r4 => ?_)
  refine xR_aln 7 0 dW_empty_7 rfl rfl ?_
  refine xR_getf 8 xcf5 1 (77 + t) (by decide) (xk_W ht) (xC_twn ht) (v := .ref (xa G (36 + (7 * t + 1)))) rfl fl_RX6_23 dW_empty_8 ?_
  refine xR_callVvc 11 cv_T_empty ml_RX6_45 ⟨Nat.le_of_ble_eq_true rfl, Nat.le_of_ble_eq_true rfl⟩ xcf3 rfl (36 + (7 * t + 1)) (xk_T (xtw_lt ht (by decide))) (xC_tab (xtw_lt ht (by decide))) [] rfl rfl (Nat.le_of_ble_eq_true rfl) dW_empty_11 (kT_empty G (7 * t + 1) (xtw_lt ht (by decide)) z r4) (fun r11 => ?_)
  refine xR_aln 14 0 dW_empty_14 rfl rfl ?_
  refine xR_callVvc 15 cv_W_dryWets ml_RX6_42 ⟨Nat.le_of_ble_eq_true rfl, Nat.le_of_ble_eq_true rfl⟩ xcf5 rfl (77 + t) (xk_W ht) (xC_twn ht) [] rfl rfl (Nat.le_of_ble_eq_true rfl) dW_empty_15 (kW_dryWets G t ht z r11) (fun r15 => ?_)
  refine xR_aln 18 0 dW_empty_18 rfl rfl ?_
  refine xR_getf 19 xcf5 3 (77 + t) (by decide) (xk_W ht) (xC_twn ht) (v := .ref (xa G (36 + (7 * t + 3)))) rfl fl_RX6_30 dW_empty_19 ?_
  refine xR_callVvc 22 cv_T_empty ml_RX6_45 ⟨Nat.le_of_ble_eq_true rfl, Nat.le_of_ble_eq_true rfl⟩ xcf3 rfl (36 + (7 * t + 3)) (xk_T (xtw_lt ht (by decide))) (xC_tab (xtw_lt ht (by decide))) [] rfl rfl (Nat.le_of_ble_eq_true rfl) dW_empty_22 (kT_empty G (7 * t + 3) (xtw_lt ht (by decide)) z r15) (fun r22 => ?_)
  refine xR_aln 25 0 dW_empty_25 rfl rfl ?_
  refine xR_getf 26 xcf5 4 (77 + t) (by decide) (xk_W ht) (xC_twn ht) (v := .ref (xa G (36 + (7 * t + 4)))) rfl fl_RX6_33 dW_empty_26 ?_
  refine xR_callVvc 29 cv_T_empty ml_RX6_45 ⟨Nat.le_of_ble_eq_true rfl, Nat.le_of_ble_eq_true rfl⟩ xcf3 rfl (36 + (7 * t + 4)) (xk_T (xtw_lt ht (by decide))) (xC_tab (xtw_lt ht (by decide))) [] rfl rfl (Nat.le_of_ble_eq_true rfl) dW_empty_29 (kT_empty G (7 * t + 4) (xtw_lt ht (by decide)) z r22) (fun r29 => ?_)
  refine xR_aln 32 0 dW_empty_32 rfl rfl ?_
  refine xR_getf 33 xcf5 5 (77 + t) (by decide) (xk_W ht) (xC_twn ht) (v := .ref (xa G (36 + (7 * t + 5)))) rfl fl_RX6_36 dW_empty_33 ?_
  refine xR_callVvc 36 cv_T_empty ml_RX6_45 ⟨Nat.le_of_ble_eq_true rfl, Nat.le_of_ble_eq_true rfl⟩ xcf3 rfl (36 + (7 * t + 5)) (xk_T (xtw_lt ht (by decide))) (xC_tab (xtw_lt ht (by decide))) [] rfl rfl (Nat.le_of_ble_eq_true rfl) dW_empty_36 (kT_empty G (7 * t + 5) (xtw_lt ht (by decide)) z r29) (fun r36 => ?_)
  refine xR_aln 39 0 dW_empty_39 rfl rfl ?_
  refine xR_getf 40 xcf5 6 (77 + t) (by decide) (xk_W ht) (xC_twn ht) (v := .ref (xa G (36 + (7 * t + 6)))) rfl fl_RX6_39 dW_empty_40 ?_
  refine xR_callVvc 43 cv_T_empty ml_RX6_45 ⟨Nat.le_of_ble_eq_true rfl, Nat.le_of_ble_eq_true rfl⟩ xcf3 rfl (36 + (7 * t + 6)) (xk_T (xtw_lt ht (by decide))) (xC_tab (xtw_lt ht (by decide))) [] rfl rfl (Nat.le_of_ble_eq_true rfl) dW_empty_43 (kT_empty G (7 * t + 6) (xtw_lt ht (by decide)) z r36) (fun r43 => ?_)
  exact xR_vret 46 rfl rfl dW_empty_46
theorem dW_bringInstrument_0 : decode (xb yyW_bringInstrument) 0 = .ok (.aload_n 0, 1) := by decide +kernel
theorem dW_bringInstrument_1 : decode (xb yyW_bringInstrument) 1 = .ok (.getfield 30, 3) := by decide +kernel
theorem dW_bringInstrument_4 : decode (xb yyW_bringInstrument) 4 = .ok (.invokevirtual 48, 3) := by decide +kernel
theorem dW_bringInstrument_7 : decode (xb yyW_bringInstrument) 7 = .ok (.istore_n 2, 1) := by decide +kernel
theorem dW_bringInstrument_8 : decode (xb yyW_bringInstrument) 8 = .ok (.aload_n 0, 1) := by decide +kernel
theorem dW_bringInstrument_9 : decode (xb yyW_bringInstrument) 9 = .ok (.getfield 30, 3) := by decide +kernel
theorem dW_bringInstrument_12 : decode (xb yyW_bringInstrument) 12 = .ok (.iload_n 2, 1) := by decide +kernel
theorem dW_bringInstrument_13 : decode (xb yyW_bringInstrument) 13 = .ok (.iconst 0, 1) := by decide +kernel
theorem dW_bringInstrument_14 : decode (xb yyW_bringInstrument) 14 = .ok (.iload_n 1, 1) := by decide +kernel
theorem dW_bringInstrument_15 : decode (xb yyW_bringInstrument) 15 = .ok (.invokevirtual 52, 3) := by decide +kernel
theorem dW_bringInstrument_18 : decode (xb yyW_bringInstrument) 18 = .ok (.iload_n 2, 1) := by decide +kernel
theorem dW_bringInstrument_19 : decode (xb yyW_bringInstrument) 19 = .ok (.ireturn, 1) := by decide +kernel
def fW_bringInstrument (t : Nat) (v1 : Int32) (m : xM) : Option (Int32 × xM) := (fT_newRow (7 * t + 3) m).bind fun r4 => (fT_put (7 * t + 3) r4.1 (0 : Int32) v1 r4.2).bind fun r15 => some (r4.1, r15)
set_option maxRecDepth 100000 in
set_option maxHeartbeats 4000000 in
theorem kW_bringInstrument (G : xG) (t : Nat) (ht : t < 4) (z : xM) (m : xM) (v1 : Int32) : ∀ a, fW_bringInstrument t v1 m = some a → xCt G yyW_bringInstrument [.ref (xa G (77 + t)), .int v1] (m, z) (some (.int a.1)) (a.2, z) := by
  refine xR_ct (em := (emic z)) rfl (Nat.le_of_ble_eq_true rfl) ?_
  show xR G yyW_bringInstrument _ 0 [(0, .ref (xa G (77 + t))), (1, .int v1)] [] _ _
  unfold fW_bringInstrument
  refine xR_aln 0 0 dW_bringInstrument_0 rfl rfl ?_
  refine xR_getf 1 xcf5 3 (77 + t) (by decide) (xk_W ht) (xC_twn ht) (v := .ref (xa G (36 + (7 * t + 3)))) rfl fl_RX6_30 dW_bringInstrument_1 ?_
  refine xR_callVic 4 cv_T_newRow ml_RX6_48 ⟨Nat.le_of_ble_eq_true rfl, Nat.le_of_ble_eq_true rfl⟩ xcf3 rfl (36 + (7 * t + 3)) (xk_T (xtw_lt ht (by decide))) (xC_tab (xtw_lt ht (by decide))) [] rfl rfl (Nat.le_of_ble_eq_true rfl) dW_bringInstrument_4 (kT_newRow G (7 * t + 3) (xtw_lt ht (by decide)) z m) (fun r4 => ?_)
  refine xR_isn 7 ([(2, .int r4.1), (0, .ref (xa G (77 + t))), (1, .int v1)]) dW_bringInstrument_7 rfl (by decide) rfl ?_
  refine xR_aln 8 1 dW_bringInstrument_8 rfl rfl ?_
  refine xR_getf 9 xcf5 3 (77 + t) (by decide) (xk_W ht) (xC_twn ht) (v := .ref (xa G (36 + (7 * t + 3)))) rfl fl_RX6_30 dW_bringInstrument_9 ?_
  refine xR_iln 12 0 dW_bringInstrument_12 rfl rfl ?_
  refine xR_ic 13 (0 : Int32) dW_bringInstrument_13 (by decide) ?_
  refine xR_iln 14 2 dW_bringInstrument_14 rfl rfl ?_
  refine xR_callVvc 15 cv_T_put ml_RX6_52 ⟨Nat.le_of_ble_eq_true rfl, Nat.le_of_ble_eq_true rfl⟩ xcf3 rfl (36 + (7 * t + 3)) (xk_T (xtw_lt ht (by decide))) (xC_tab (xtw_lt ht (by decide))) [.int r4.1, .int (0 : Int32), .int v1] rfl rfl (Nat.le_of_ble_eq_true rfl) dW_bringInstrument_15 (kT_put G (7 * t + 3) (xtw_lt ht (by decide)) z r4.2 r4.1 (0 : Int32) v1) (fun r15 => ?_)
  refine xR_iln 18 0 dW_bringInstrument_18 rfl rfl ?_
  exact xR_iret 19 rfl rfl dW_bringInstrument_19
theorem dW_passYears_0 : decode (xb yyW_passYears) 0 = .ok (.iconst 0, 1) := by decide +kernel
theorem dW_passYears_1 : decode (xb yyW_passYears) 1 = .ok (.istore_n 2, 1) := by decide +kernel
theorem dW_passYears_2 : decode (xb yyW_passYears) 2 = .ok (.iload_n 2, 1) := by decide +kernel
theorem dW_passYears_3 : decode (xb yyW_passYears) 3 = .ok (.iload_n 1, 1) := by decide +kernel
theorem dW_passYears_4 : decode (xb yyW_passYears) 4 = .ok (.if_icmp .ge 33, 3) := by decide +kernel
theorem dW_passYears_7 : decode (xb yyW_passYears) 7 = .ok (.aload_n 0, 1) := by decide +kernel
theorem dW_passYears_8 : decode (xb yyW_passYears) 8 = .ok (.getfield 12, 3) := by decide +kernel
theorem dW_passYears_11 : decode (xb yyW_passYears) 11 = .ok (.getfield 80, 3) := by decide +kernel
theorem dW_passYears_14 : decode (xb yyW_passYears) 14 = .ok (.sipush 999, 3) := by decide +kernel
theorem dW_passYears_17 : decode (xb yyW_passYears) 17 = .ok (.if_icmp .ge 20, 3) := by decide +kernel
theorem dW_passYears_20 : decode (xb yyW_passYears) 20 = .ok (.aload_n 0, 1) := by decide +kernel
theorem dW_passYears_21 : decode (xb yyW_passYears) 21 = .ok (.getfield 12, 3) := by decide +kernel
theorem dW_passYears_24 : decode (xb yyW_passYears) 24 = .ok (.aload_n 0, 1) := by decide +kernel
theorem dW_passYears_25 : decode (xb yyW_passYears) 25 = .ok (.getfield 27, 3) := by decide +kernel
theorem dW_passYears_28 : decode (xb yyW_passYears) 28 = .ok (.invokevirtual 84, 3) := by decide +kernel
theorem dW_passYears_31 : decode (xb yyW_passYears) 31 = .ok (.iinc 2 1, 3) := by decide +kernel
theorem dW_passYears_34 : decode (xb yyW_passYears) 34 = .ok (.goto (-32), 3) := by decide +kernel
theorem dW_passYears_37 : decode (xb yyW_passYears) 37 = .ok (.return_, 1) := by decide +kernel
def fW_passYears_l2 (t : Nat) : Nat → Int32 → Int32 → xM → Option (xM)
  | 0, _, _, _ => none
  | n + 1, v1, v2, m => (if v1 ≤ v2 then some m else (if (999 : Int32) ≤ (m.1 37 t) then some m else (fB_passYear t (7 * t + 2) m).bind fun r28 => fW_passYears_l2 t n v1 (v2 + 1) r28))
def fW_passYears (t : Nat) (v1 : Int32) (m : xM) : Option (xM) := fW_passYears_l2 t xfu v1 (0 : Int32) m
set_option maxRecDepth 100000 in
set_option maxHeartbeats 4000000 in
theorem kW_passYears_l2 (G : xG) (t : Nat) (ht : t < 4) (z : xM)    : ∀ (n : Nat) (v1 : Int32) (v2 : Int32) (m : xM), xR G yyW_passYears (emvc z) 2 [(0, .ref (xa G (77 + t))), (1, .int v1), (2, .int v2)] [] (m, z) (fW_passYears_l2 t n v1 v2 m) := by
  intro n
  induction n with
  | zero =>
    intro v1 v2 m
    rw [fW_passYears_l2]
    exact xR_none
  | succ n ih =>
    intro v1 v2 m
    rw [fW_passYears_l2]
    refine xR_iln 2 2 dW_passYears_2 rfl rfl ?_
    refine xR_iln 3 1 dW_passYears_3 rfl rfl ?_
    refine xR_icge 4 37 dW_passYears_4 (by decide) ?_ ?_
    · exact xR_vret 37 rfl rfl dW_passYears_37
    · refine xR_aln 7 0 dW_passYears_7 rfl rfl ?_
      refine xR_getf 8 xcf5 0 (77 + t) (by decide) (xk_W ht) (xC_twn ht) (v := .ref (xa G (72 + t))) rfl fl_RX6_12 dW_passYears_8 ?_
      refine xR_getf 11 xcf0 1 (72 + t) (by decide) (xk_B (Nat.lt_of_lt_of_le ht (by decide))) (xC_brd (Nat.lt_of_lt_of_le ht (by decide))) (v := .int (m.1 37 t)) rfl fl_RX6_80 dW_passYears_11 ?_
      refine xR_sp 14 (999 : Int32) dW_passYears_14 (by decide) ?_
      refine xR_icge 17 37 dW_passYears_17 (by decide) ?_ ?_
      · exact xR_vret 37 rfl rfl dW_passYears_37
      · refine xR_aln 20 0 dW_passYears_20 rfl rfl ?_
        refine xR_getf 21 xcf5 0 (77 + t) (by decide) (xk_W ht) (xC_twn ht) (v := .ref (xa G (72 + t))) rfl fl_RX6_12 dW_passYears_21 ?_
        refine xR_aln 24 0 dW_passYears_24 rfl rfl ?_
        refine xR_getf 25 xcf5 2 (77 + t) (by decide) (xk_W ht) (xC_twn ht) (v := .ref (xa G (36 + (7 * t + 2)))) rfl fl_RX6_27 dW_passYears_25 ?_
        refine xR_callVvc 28 cv_B_passYear ml_RX6_84 ⟨Nat.le_of_ble_eq_true rfl, Nat.le_of_ble_eq_true rfl⟩ xcf0 rfl (72 + t) (xk_B (Nat.lt_of_lt_of_le ht (by decide))) (xC_brd (Nat.lt_of_lt_of_le ht (by decide))) [.ref (xa G (36 + (7 * t + 2)))] rfl rfl (Nat.le_of_ble_eq_true rfl) dW_passYears_28 (kB_passYear G t (7 * t + 2) (Nat.lt_of_lt_of_le ht (by decide)) (xtw_lt ht (by decide)) z m) (fun r28 => ?_)
        refine xR_iinc 31 2 (v2 + 1) ([(2, .int (v2 + 1)), (0, .ref (xa G (77 + t))), (1, .int v1)]) dW_passYears_31 rfl rfl (by decide) rfl ?_
        refine xR_goto 34 2 dW_passYears_34 (by decide) ?_
        exact xR_sub [1, 2, 0] rfl (ih v1 (v2 + 1) r28)
set_option maxRecDepth 100000 in
set_option maxHeartbeats 4000000 in
theorem kW_passYears (G : xG) (t : Nat) (ht : t < 4) (z : xM) (m : xM) (v1 : Int32) : ∀ a, fW_passYears t v1 m = some a → xCt G yyW_passYears [.ref (xa G (77 + t)), .int v1] (m, z) (none) (a, z) := by
  refine xR_ct (em := (emvc z)) rfl (Nat.le_of_ble_eq_true rfl) ?_
  show xR G yyW_passYears _ 0 [(0, .ref (xa G (77 + t))), (1, .int v1)] [] _ _
  unfold fW_passYears
  refine xR_ic 0 (0 : Int32) dW_passYears_0 (by decide) ?_
  refine xR_isn 1 ([(2, .int (0 : Int32)), (0, .ref (xa G (77 + t))), (1, .int v1)]) dW_passYears_1 rfl (by decide) rfl ?_
  exact xR_sub [1, 2, 0] rfl (kW_passYears_l2 G t ht z xfu v1 (0 : Int32) m)
theorem dW_become_0 : decode (xb yyW_become) 0 = .ok (.aload_n 0, 1) := by decide +kernel
theorem dW_become_1 : decode (xb yyW_become) 1 = .ok (.getfield 12, 3) := by decide +kernel
theorem dW_become_4 : decode (xb yyW_become) 4 = .ok (.aload_n 1, 1) := by decide +kernel
theorem dW_become_5 : decode (xb yyW_become) 5 = .ok (.getfield 12, 3) := by decide +kernel
theorem dW_become_8 : decode (xb yyW_become) 8 = .ok (.invokevirtual 57, 3) := by decide +kernel
theorem dW_become_11 : decode (xb yyW_become) 11 = .ok (.aload_n 0, 1) := by decide +kernel
theorem dW_become_12 : decode (xb yyW_become) 12 = .ok (.getfield 23, 3) := by decide +kernel
theorem dW_become_15 : decode (xb yyW_become) 15 = .ok (.aload_n 1, 1) := by decide +kernel
theorem dW_become_16 : decode (xb yyW_become) 16 = .ok (.getfield 23, 3) := by decide +kernel
theorem dW_become_19 : decode (xb yyW_become) 19 = .ok (.invokevirtual 61, 3) := by decide +kernel
theorem dW_become_22 : decode (xb yyW_become) 22 = .ok (.aload_n 0, 1) := by decide +kernel
theorem dW_become_23 : decode (xb yyW_become) 23 = .ok (.getfield 27, 3) := by decide +kernel
theorem dW_become_26 : decode (xb yyW_become) 26 = .ok (.aload_n 1, 1) := by decide +kernel
theorem dW_become_27 : decode (xb yyW_become) 27 = .ok (.getfield 27, 3) := by decide +kernel
theorem dW_become_30 : decode (xb yyW_become) 30 = .ok (.invokevirtual 61, 3) := by decide +kernel
theorem dW_become_33 : decode (xb yyW_become) 33 = .ok (.aload_n 0, 1) := by decide +kernel
theorem dW_become_34 : decode (xb yyW_become) 34 = .ok (.getfield 30, 3) := by decide +kernel
theorem dW_become_37 : decode (xb yyW_become) 37 = .ok (.aload_n 1, 1) := by decide +kernel
theorem dW_become_38 : decode (xb yyW_become) 38 = .ok (.getfield 30, 3) := by decide +kernel
theorem dW_become_41 : decode (xb yyW_become) 41 = .ok (.invokevirtual 61, 3) := by decide +kernel
theorem dW_become_44 : decode (xb yyW_become) 44 = .ok (.aload_n 0, 1) := by decide +kernel
theorem dW_become_45 : decode (xb yyW_become) 45 = .ok (.getfield 33, 3) := by decide +kernel
theorem dW_become_48 : decode (xb yyW_become) 48 = .ok (.aload_n 1, 1) := by decide +kernel
theorem dW_become_49 : decode (xb yyW_become) 49 = .ok (.getfield 33, 3) := by decide +kernel
theorem dW_become_52 : decode (xb yyW_become) 52 = .ok (.invokevirtual 61, 3) := by decide +kernel
theorem dW_become_55 : decode (xb yyW_become) 55 = .ok (.aload_n 0, 1) := by decide +kernel
theorem dW_become_56 : decode (xb yyW_become) 56 = .ok (.getfield 36, 3) := by decide +kernel
theorem dW_become_59 : decode (xb yyW_become) 59 = .ok (.aload_n 1, 1) := by decide +kernel
theorem dW_become_60 : decode (xb yyW_become) 60 = .ok (.getfield 36, 3) := by decide +kernel
theorem dW_become_63 : decode (xb yyW_become) 63 = .ok (.invokevirtual 61, 3) := by decide +kernel
theorem dW_become_66 : decode (xb yyW_become) 66 = .ok (.aload_n 0, 1) := by decide +kernel
theorem dW_become_67 : decode (xb yyW_become) 67 = .ok (.getfield 39, 3) := by decide +kernel
theorem dW_become_70 : decode (xb yyW_become) 70 = .ok (.aload_n 1, 1) := by decide +kernel
theorem dW_become_71 : decode (xb yyW_become) 71 = .ok (.getfield 39, 3) := by decide +kernel
theorem dW_become_74 : decode (xb yyW_become) 74 = .ok (.invokevirtual 61, 3) := by decide +kernel
theorem dW_become_77 : decode (xb yyW_become) 77 = .ok (.return_, 1) := by decide +kernel
def fW_become (t : Nat) (t1 : Nat) (m : xM) : Option (xM) := (fB_become t t1 m).bind fun r8 => (fT_become (7 * t + 1) (7 * t1 + 1) r8).bind fun r19 => (fT_become (7 * t + 2) (7 * t1 + 2) r19).bind fun r30 => (fT_become (7 * t + 3) (7 * t1 + 3) r30).bind fun r41 => (fT_become (7 * t + 4) (7 * t1 + 4) r41).bind fun r52 => (fT_become (7 * t + 5) (7 * t1 + 5) r52).bind fun r63 => (fT_become (7 * t + 6) (7 * t1 + 6) r63).bind fun r74 => some r74
set_option maxRecDepth 100000 in
set_option maxHeartbeats 4000000 in
theorem kW_become (G : xG) (t : Nat) (t1 : Nat) (ht : t < 4) (ht1 : t1 < 4) (z : xM) (m : xM) : ∀ a, fW_become t t1 m = some a → xCt G yyW_become [.ref (xa G (77 + t)), .ref (xa G (77 + t1))] (m, z) (none) (a, z) := by
  refine xR_ct (em := (emvc z)) rfl (Nat.le_of_ble_eq_true rfl) ?_
  show xR G yyW_become _ 0 [(0, .ref (xa G (77 + t))), (1, .ref (xa G (77 + t1)))] [] _ _
  unfold fW_become
  refine xR_aln 0 0 dW_become_0 rfl rfl ?_
  refine xR_getf 1 xcf5 0 (77 + t) (by decide) (xk_W ht) (xC_twn ht) (v := .ref (xa G (72 + t))) rfl fl_RX6_12 dW_become_1 ?_
  refine xR_aln 4 1 dW_become_4 rfl rfl ?_
  refine xR_getf 5 xcf5 0 (77 + t1) (by decide) (xk_W ht1) (xC_twn ht1) (v := .ref (xa G (72 + t1))) rfl fl_RX6_12 dW_become_5 ?_
  refine xR_callVvc 8 cv_B_become ml_RX6_57 ⟨Nat.le_of_ble_eq_true rfl, Nat.le_of_ble_eq_true rfl⟩ xcf0 rfl (72 + t) (xk_B (Nat.lt_of_lt_of_le ht (by decide))) (xC_brd (Nat.lt_of_lt_of_le ht (by decide))) [.ref (xa G (72 + t1))] rfl rfl (Nat.le_of_ble_eq_true rfl) dW_become_8 (kB_become G t t1 (Nat.lt_of_lt_of_le ht (by decide)) (Nat.lt_of_lt_of_le ht1 (by decide)) z m) (fun r8 => ?_)
  refine xR_aln 11 0 dW_become_11 rfl rfl ?_
  refine xR_getf 12 xcf5 1 (77 + t) (by decide) (xk_W ht) (xC_twn ht) (v := .ref (xa G (36 + (7 * t + 1)))) rfl fl_RX6_23 dW_become_12 ?_
  refine xR_aln 15 1 dW_become_15 rfl rfl ?_
  refine xR_getf 16 xcf5 1 (77 + t1) (by decide) (xk_W ht1) (xC_twn ht1) (v := .ref (xa G (36 + (7 * t1 + 1)))) rfl fl_RX6_23 dW_become_16 ?_
  refine xR_callVvc 19 cv_T_become ml_RX6_61 ⟨Nat.le_of_ble_eq_true rfl, Nat.le_of_ble_eq_true rfl⟩ xcf3 rfl (36 + (7 * t + 1)) (xk_T (xtw_lt ht (by decide))) (xC_tab (xtw_lt ht (by decide))) [.ref (xa G (36 + (7 * t1 + 1)))] rfl rfl (Nat.le_of_ble_eq_true rfl) dW_become_19 (kT_become G (7 * t + 1) (7 * t1 + 1) (xtw_lt ht (by decide)) (xtw_lt ht1 (by decide)) z r8) (fun r19 => ?_)
  refine xR_aln 22 0 dW_become_22 rfl rfl ?_
  refine xR_getf 23 xcf5 2 (77 + t) (by decide) (xk_W ht) (xC_twn ht) (v := .ref (xa G (36 + (7 * t + 2)))) rfl fl_RX6_27 dW_become_23 ?_
  refine xR_aln 26 1 dW_become_26 rfl rfl ?_
  refine xR_getf 27 xcf5 2 (77 + t1) (by decide) (xk_W ht1) (xC_twn ht1) (v := .ref (xa G (36 + (7 * t1 + 2)))) rfl fl_RX6_27 dW_become_27 ?_
  refine xR_callVvc 30 cv_T_become ml_RX6_61 ⟨Nat.le_of_ble_eq_true rfl, Nat.le_of_ble_eq_true rfl⟩ xcf3 rfl (36 + (7 * t + 2)) (xk_T (xtw_lt ht (by decide))) (xC_tab (xtw_lt ht (by decide))) [.ref (xa G (36 + (7 * t1 + 2)))] rfl rfl (Nat.le_of_ble_eq_true rfl) dW_become_30 (kT_become G (7 * t + 2) (7 * t1 + 2) (xtw_lt ht (by decide)) (xtw_lt ht1 (by decide)) z r19) (fun r30 => ?_)
  refine xR_aln 33 0 dW_become_33 rfl rfl ?_
  refine xR_getf 34 xcf5 3 (77 + t) (by decide) (xk_W ht) (xC_twn ht) (v := .ref (xa G (36 + (7 * t + 3)))) rfl fl_RX6_30 dW_become_34 ?_
  refine xR_aln 37 1 dW_become_37 rfl rfl ?_
  refine xR_getf 38 xcf5 3 (77 + t1) (by decide) (xk_W ht1) (xC_twn ht1) (v := .ref (xa G (36 + (7 * t1 + 3)))) rfl fl_RX6_30 dW_become_38 ?_
  refine xR_callVvc 41 cv_T_become ml_RX6_61 ⟨Nat.le_of_ble_eq_true rfl, Nat.le_of_ble_eq_true rfl⟩ xcf3 rfl (36 + (7 * t + 3)) (xk_T (xtw_lt ht (by decide))) (xC_tab (xtw_lt ht (by decide))) [.ref (xa G (36 + (7 * t1 + 3)))] rfl rfl (Nat.le_of_ble_eq_true rfl) dW_become_41 (kT_become G (7 * t + 3) (7 * t1 + 3) (xtw_lt ht (by decide)) (xtw_lt ht1 (by decide)) z r30) (fun r41 => ?_)
  refine xR_aln 44 0 dW_become_44 rfl rfl ?_
  refine xR_getf 45 xcf5 4 (77 + t) (by decide) (xk_W ht) (xC_twn ht) (v := .ref (xa G (36 + (7 * t + 4)))) rfl fl_RX6_33 dW_become_45 ?_
  refine xR_aln 48 1 dW_become_48 rfl rfl ?_
  refine xR_getf 49 xcf5 4 (77 + t1) (by decide) (xk_W ht1) (xC_twn ht1) (v := .ref (xa G (36 + (7 * t1 + 4)))) rfl fl_RX6_33 dW_become_49 ?_
  refine xR_callVvc 52 cv_T_become ml_RX6_61 ⟨Nat.le_of_ble_eq_true rfl, Nat.le_of_ble_eq_true rfl⟩ xcf3 rfl (36 + (7 * t + 4)) (xk_T (xtw_lt ht (by decide))) (xC_tab (xtw_lt ht (by decide))) [.ref (xa G (36 + (7 * t1 + 4)))] rfl rfl (Nat.le_of_ble_eq_true rfl) dW_become_52 (kT_become G (7 * t + 4) (7 * t1 + 4) (xtw_lt ht (by decide)) (xtw_lt ht1 (by decide)) z r41) (fun r52 => ?_)
  refine xR_aln 55 0 dW_become_55 rfl rfl ?_
  refine xR_getf 56 xcf5 5 (77 + t) (by decide) (xk_W ht) (xC_twn ht) (v := .ref (xa G (36 + (7 * t + 5)))) rfl fl_RX6_36 dW_become_56 ?_
  refine xR_aln 59 1 dW_become_59 rfl rfl ?_
  refine xR_getf 60 xcf5 5 (77 + t1) (by decide) (xk_W ht1) (xC_twn ht1) (v := .ref (xa G (36 + (7 * t1 + 5)))) rfl fl_RX6_36 dW_become_60 ?_
  refine xR_callVvc 63 cv_T_become ml_RX6_61 ⟨Nat.le_of_ble_eq_true rfl, Nat.le_of_ble_eq_true rfl⟩ xcf3 rfl (36 + (7 * t + 5)) (xk_T (xtw_lt ht (by decide))) (xC_tab (xtw_lt ht (by decide))) [.ref (xa G (36 + (7 * t1 + 5)))] rfl rfl (Nat.le_of_ble_eq_true rfl) dW_become_63 (kT_become G (7 * t + 5) (7 * t1 + 5) (xtw_lt ht (by decide)) (xtw_lt ht1 (by decide)) z r52) (fun r63 => ?_)
  refine xR_aln 66 0 dW_become_66 rfl rfl ?_
  refine xR_getf 67 xcf5 6 (77 + t) (by decide) (xk_W ht) (xC_twn ht) (v := .ref (xa G (36 + (7 * t + 6)))) rfl fl_RX6_39 dW_become_67 ?_
  refine xR_aln 70 1 dW_become_70 rfl rfl ?_
  refine xR_getf 71 xcf5 6 (77 + t1) (by decide) (xk_W ht1) (xC_twn ht1) (v := .ref (xa G (36 + (7 * t1 + 6)))) rfl fl_RX6_39 dW_become_71 ?_
  refine xR_callVvc 74 cv_T_become ml_RX6_61 ⟨Nat.le_of_ble_eq_true rfl, Nat.le_of_ble_eq_true rfl⟩ xcf3 rfl (36 + (7 * t + 6)) (xk_T (xtw_lt ht (by decide))) (xC_tab (xtw_lt ht (by decide))) [.ref (xa G (36 + (7 * t1 + 6)))] rfl rfl (Nat.le_of_ble_eq_true rfl) dW_become_74 (kT_become G (7 * t + 6) (7 * t1 + 6) (xtw_lt ht (by decide)) (xtw_lt ht1 (by decide)) z r63) (fun r74 => ?_)
  exact xR_vret 77 rfl rfl dW_become_77
theorem dW_remember_0 : decode (xb yyW_remember) 0 = .ok (.aload_n 0, 1) := by decide +kernel
theorem dW_remember_1 : decode (xb yyW_remember) 1 = .ok (.getfield 23, 3) := by decide +kernel
theorem dW_remember_4 : decode (xb yyW_remember) 4 = .ok (.invokevirtual 64, 3) := by decide +kernel
theorem dW_remember_7 : decode (xb yyW_remember) 7 = .ok (.bipush 8, 2) := by decide +kernel
theorem dW_remember_9 : decode (xb yyW_remember) 9 = .ok (.if_icmp .lt 10, 3) := by decide +kernel
theorem dW_remember_12 : decode (xb yyW_remember) 12 = .ok (.aload_n 0, 1) := by decide +kernel
theorem dW_remember_13 : decode (xb yyW_remember) 13 = .ok (.getfield 23, 3) := by decide +kernel
theorem dW_remember_16 : decode (xb yyW_remember) 16 = .ok (.invokevirtual 67, 3) := by decide +kernel
theorem dW_remember_19 : decode (xb yyW_remember) 19 = .ok (.aload_n 0, 1) := by decide +kernel
theorem dW_remember_20 : decode (xb yyW_remember) 20 = .ok (.getfield 12, 3) := by decide +kernel
theorem dW_remember_23 : decode (xb yyW_remember) 23 = .ok (.aload_n 0, 1) := by decide +kernel
theorem dW_remember_24 : decode (xb yyW_remember) 24 = .ok (.getfield 23, 3) := by decide +kernel
theorem dW_remember_27 : decode (xb yyW_remember) 27 = .ok (.aload_n 0, 1) := by decide +kernel
theorem dW_remember_28 : decode (xb yyW_remember) 28 = .ok (.getfield 23, 3) := by decide +kernel
theorem dW_remember_31 : decode (xb yyW_remember) 31 = .ok (.invokevirtual 48, 3) := by decide +kernel
theorem dW_remember_34 : decode (xb yyW_remember) 34 = .ok (.invokevirtual 70, 3) := by decide +kernel
theorem dW_remember_37 : decode (xb yyW_remember) 37 = .ok (.return_, 1) := by decide +kernel
def fW_remember_b19 (t : Nat) (m : xM) : Option (xM) := (fT_newRow (7 * t + 1) m).bind fun r31 => (fB_keepIn t (7 * t + 1) r31.1 r31.2).bind fun r34 => some r34
def fW_remember (t : Nat) (m : xM) : Option (xM) := (fT_many (7 * t + 1) m).bind fun r4 => (if r4 < (8 : Int32) then fW_remember_b19 t m else (fT_dropFirst (7 * t + 1) m).bind fun r16 => fW_remember_b19 t r16)
set_option maxRecDepth 100000 in
set_option maxHeartbeats 4000000 in
theorem kW_remember_b19 (G : xG) (t : Nat) (ht : t < 4) (z : xM)    (m : xM) : xR G yyW_remember (emvc z) 19 [(0, .ref (xa G (77 + t)))] [] (m, z) (fW_remember_b19 t m) := by
  unfold fW_remember_b19
  refine xR_aln 19 0 dW_remember_19 rfl rfl ?_
  refine xR_getf 20 xcf5 0 (77 + t) (by decide) (xk_W ht) (xC_twn ht) (v := .ref (xa G (72 + t))) rfl fl_RX6_12 dW_remember_20 ?_
  refine xR_aln 23 0 dW_remember_23 rfl rfl ?_
  refine xR_getf 24 xcf5 1 (77 + t) (by decide) (xk_W ht) (xC_twn ht) (v := .ref (xa G (36 + (7 * t + 1)))) rfl fl_RX6_23 dW_remember_24 ?_
  refine xR_aln 27 0 dW_remember_27 rfl rfl ?_
  refine xR_getf 28 xcf5 1 (77 + t) (by decide) (xk_W ht) (xC_twn ht) (v := .ref (xa G (36 + (7 * t + 1)))) rfl fl_RX6_23 dW_remember_28 ?_
  refine xR_callVic 31 cv_T_newRow ml_RX6_48 ⟨Nat.le_of_ble_eq_true rfl, Nat.le_of_ble_eq_true rfl⟩ xcf3 rfl (36 + (7 * t + 1)) (xk_T (xtw_lt ht (by decide))) (xC_tab (xtw_lt ht (by decide))) [] rfl rfl (Nat.le_of_ble_eq_true rfl) dW_remember_31 (kT_newRow G (7 * t + 1) (xtw_lt ht (by decide)) z m) (fun r31 => ?_)
  refine xR_callVvc 34 cv_B_keepIn ml_RX6_70 ⟨Nat.le_of_ble_eq_true rfl, Nat.le_of_ble_eq_true rfl⟩ xcf0 rfl (72 + t) (xk_B (Nat.lt_of_lt_of_le ht (by decide))) (xC_brd (Nat.lt_of_lt_of_le ht (by decide))) [.ref (xa G (36 + (7 * t + 1))), .int r31.1] rfl rfl (Nat.le_of_ble_eq_true rfl) dW_remember_34 (kB_keepIn G t (7 * t + 1) (Nat.lt_of_lt_of_le ht (by decide)) (xtw_lt ht (by decide)) z r31.2 r31.1) (fun r34 => ?_)
  exact xR_vret 37 rfl rfl dW_remember_37
set_option maxRecDepth 100000 in
set_option maxHeartbeats 4000000 in
theorem kW_remember (G : xG) (t : Nat) (ht : t < 4) (z : xM) (m : xM) : ∀ a, fW_remember t m = some a → xCt G yyW_remember [.ref (xa G (77 + t))] (m, z) (none) (a, z) := by
  refine xR_ct (em := (emvc z)) rfl (Nat.le_of_ble_eq_true rfl) ?_
  show xR G yyW_remember _ 0 [(0, .ref (xa G (77 + t)))] [] _ _
  unfold fW_remember
  refine xR_aln 0 0 dW_remember_0 rfl rfl ?_
  refine xR_getf 1 xcf5 1 (77 + t) (by decide) (xk_W ht) (xC_twn ht) (v := .ref (xa G (36 + (7 * t + 1)))) rfl fl_RX6_23 dW_remember_1 ?_
  refine xR_callVi 4 cv_T_many ml_RX6_64 ⟨Nat.le_of_ble_eq_true rfl, Nat.le_of_ble_eq_true rfl⟩ xcf3 rfl (36 + (7 * t + 1)) (xk_T (xtw_lt ht (by decide))) (xC_tab (xtw_lt ht (by decide))) [] rfl rfl (Nat.le_of_ble_eq_true rfl) dW_remember_4 (kT_many G (7 * t + 1) (xtw_lt ht (by decide)) z m) (fun r4 => ?_)
  refine xR_bp 7 (8 : Int32) dW_remember_7 (by decide) ?_
  refine xR_iclt 9 19 dW_remember_9 (by decide) ?_ ?_
  · exact kW_remember_b19 G t ht z m
  · refine xR_aln 12 0 dW_remember_12 rfl rfl ?_
    refine xR_getf 13 xcf5 1 (77 + t) (by decide) (xk_W ht) (xC_twn ht) (v := .ref (xa G (36 + (7 * t + 1)))) rfl fl_RX6_23 dW_remember_13 ?_
    refine xR_callVvc 16 cv_T_dropFirst ml_RX6_67 ⟨Nat.le_of_ble_eq_true rfl, Nat.le_of_ble_eq_true rfl⟩ xcf3 rfl (36 + (7 * t + 1)) (xk_T (xtw_lt ht (by decide))) (xC_tab (xtw_lt ht (by decide))) [] rfl rfl (Nat.le_of_ble_eq_true rfl) dW_remember_16 (kT_dropFirst G (7 * t + 1) (xtw_lt ht (by decide)) z m) (fun r16 => ?_)
    exact kW_remember_b19 G t ht z r16
theorem dW_hasInstrument_0 : decode (xb yyW_hasInstrument) 0 = .ok (.iload_n 1, 1) := by decide +kernel
theorem dW_hasInstrument_1 : decode (xb yyW_hasInstrument) 1 = .ok (.ifCond .lt 18, 3) := by decide +kernel
theorem dW_hasInstrument_4 : decode (xb yyW_hasInstrument) 4 = .ok (.iload_n 1, 1) := by decide +kernel
theorem dW_hasInstrument_5 : decode (xb yyW_hasInstrument) 5 = .ok (.aload_n 0, 1) := by decide +kernel
theorem dW_hasInstrument_6 : decode (xb yyW_hasInstrument) 6 = .ok (.getfield 30, 3) := by decide +kernel
theorem dW_hasInstrument_9 : decode (xb yyW_hasInstrument) 9 = .ok (.invokevirtual 64, 3) := by decide +kernel
theorem dW_hasInstrument_12 : decode (xb yyW_hasInstrument) 12 = .ok (.if_icmp .ge 7, 3) := by decide +kernel
theorem dW_hasInstrument_15 : decode (xb yyW_hasInstrument) 15 = .ok (.iconst 1, 1) := by decide +kernel
theorem dW_hasInstrument_16 : decode (xb yyW_hasInstrument) 16 = .ok (.goto 4, 3) := by decide +kernel
theorem dW_hasInstrument_19 : decode (xb yyW_hasInstrument) 19 = .ok (.iconst 0, 1) := by decide +kernel
theorem dW_hasInstrument_20 : decode (xb yyW_hasInstrument) 20 = .ok (.ireturn, 1) := by decide +kernel
def fW_hasInstrument (t : Nat) (m : xM) (v1 : Int32) : Option (Int32) := (if v1 < 0 then some (xnb (0 : Int32)) else (fT_many (7 * t + 3) m).bind fun r9 => (if r9 ≤ v1 then some (xnb (0 : Int32)) else some (xnb (1 : Int32))))
set_option maxRecDepth 100000 in
set_option maxHeartbeats 4000000 in
theorem kW_hasInstrument (G : xG) (t : Nat) (ht : t < 4) (z : xM) (m : xM) (v1 : Int32) : ∀ a, fW_hasInstrument t m v1 = some a → xCt G yyW_hasInstrument [.ref (xa G (77 + t)), .int v1] (m, z) (some (.int a)) (m, z) := by
  refine xR_ct (em := (emi (m, z))) rfl (Nat.le_of_ble_eq_true rfl) ?_
  show xR G yyW_hasInstrument _ 0 [(0, .ref (xa G (77 + t))), (1, .int v1)] [] _ _
  unfold fW_hasInstrument
  refine xR_iln 0 1 dW_hasInstrument_0 rfl rfl ?_
  refine xR_iflt 1 19 dW_hasInstrument_1 (by decide) ?_ ?_
  · refine xR_ic 19 (0 : Int32) dW_hasInstrument_19 (by decide) ?_
    exact xR_zret 20 rfl rfl dW_hasInstrument_20
  · refine xR_iln 4 1 dW_hasInstrument_4 rfl rfl ?_
    refine xR_aln 5 0 dW_hasInstrument_5 rfl rfl ?_
    refine xR_getf 6 xcf5 3 (77 + t) (by decide) (xk_W ht) (xC_twn ht) (v := .ref (xa G (36 + (7 * t + 3)))) rfl fl_RX6_30 dW_hasInstrument_6 ?_
    refine xR_callVi 9 cv_T_many ml_RX6_64 ⟨Nat.le_of_ble_eq_true rfl, Nat.le_of_ble_eq_true rfl⟩ xcf3 rfl (36 + (7 * t + 3)) (xk_T (xtw_lt ht (by decide))) (xC_tab (xtw_lt ht (by decide))) [] rfl rfl (Nat.le_of_ble_eq_true rfl) dW_hasInstrument_9 (kT_many G (7 * t + 3) (xtw_lt ht (by decide)) z m) (fun r9 => ?_)
    refine xR_icge 12 19 dW_hasInstrument_12 (by decide) ?_ ?_
    · refine xR_ic 19 (0 : Int32) dW_hasInstrument_19 (by decide) ?_
      exact xR_zret 20 rfl rfl dW_hasInstrument_20
    · refine xR_ic 15 (1 : Int32) dW_hasInstrument_15 (by decide) ?_
      refine xR_goto 16 20 dW_hasInstrument_16 (by decide) ?_
      exact xR_zret 20 rfl rfl dW_hasInstrument_20
theorem dW_stepBack_0 : decode (xb yyW_stepBack) 0 = .ok (.aload_n 0, 1) := by decide +kernel
theorem dW_stepBack_1 : decode (xb yyW_stepBack) 1 = .ok (.getfield 12, 3) := by decide +kernel
theorem dW_stepBack_4 : decode (xb yyW_stepBack) 4 = .ok (.aload_n 0, 1) := by decide +kernel
theorem dW_stepBack_5 : decode (xb yyW_stepBack) 5 = .ok (.getfield 23, 3) := by decide +kernel
theorem dW_stepBack_8 : decode (xb yyW_stepBack) 8 = .ok (.aload_n 0, 1) := by decide +kernel
theorem dW_stepBack_9 : decode (xb yyW_stepBack) 9 = .ok (.getfield 23, 3) := by decide +kernel
theorem dW_stepBack_12 : decode (xb yyW_stepBack) 12 = .ok (.invokevirtual 64, 3) := by decide +kernel
theorem dW_stepBack_15 : decode (xb yyW_stepBack) 15 = .ok (.iconst 1, 1) := by decide +kernel
theorem dW_stepBack_16 : decode (xb yyW_stepBack) 16 = .ok (.isub, 1) := by decide +kernel
theorem dW_stepBack_17 : decode (xb yyW_stepBack) 17 = .ok (.invokevirtual 74, 3) := by decide +kernel
theorem dW_stepBack_20 : decode (xb yyW_stepBack) 20 = .ok (.aload_n 0, 1) := by decide +kernel
theorem dW_stepBack_21 : decode (xb yyW_stepBack) 21 = .ok (.getfield 23, 3) := by decide +kernel
theorem dW_stepBack_24 : decode (xb yyW_stepBack) 24 = .ok (.invokevirtual 77, 3) := by decide +kernel
theorem dW_stepBack_27 : decode (xb yyW_stepBack) 27 = .ok (.return_, 1) := by decide +kernel
def fW_stepBack (t : Nat) (m : xM) : Option (xM) := (fT_many (7 * t + 1) m).bind fun r12 => (fB_goBackTo t (7 * t + 1) (r12 - (1 : Int32)) m).bind fun r17 => (fT_dropLast (7 * t + 1) r17).bind fun r24 => some r24
set_option maxRecDepth 100000 in
set_option maxHeartbeats 4000000 in
theorem kW_stepBack (G : xG) (t : Nat) (ht : t < 4) (z : xM) (m : xM) : ∀ a, fW_stepBack t m = some a → xCt G yyW_stepBack [.ref (xa G (77 + t))] (m, z) (none) (a, z) := by
  refine xR_ct (em := (emvc z)) rfl (Nat.le_of_ble_eq_true rfl) ?_
  show xR G yyW_stepBack _ 0 [(0, .ref (xa G (77 + t)))] [] _ _
  unfold fW_stepBack
  refine xR_aln 0 0 dW_stepBack_0 rfl rfl ?_
  refine xR_getf 1 xcf5 0 (77 + t) (by decide) (xk_W ht) (xC_twn ht) (v := .ref (xa G (72 + t))) rfl fl_RX6_12 dW_stepBack_1 ?_
  refine xR_aln 4 0 dW_stepBack_4 rfl rfl ?_
  refine xR_getf 5 xcf5 1 (77 + t) (by decide) (xk_W ht) (xC_twn ht) (v := .ref (xa G (36 + (7 * t + 1)))) rfl fl_RX6_23 dW_stepBack_5 ?_
  refine xR_aln 8 0 dW_stepBack_8 rfl rfl ?_
  refine xR_getf 9 xcf5 1 (77 + t) (by decide) (xk_W ht) (xC_twn ht) (v := .ref (xa G (36 + (7 * t + 1)))) rfl fl_RX6_23 dW_stepBack_9 ?_
  refine xR_callVi 12 cv_T_many ml_RX6_64 ⟨Nat.le_of_ble_eq_true rfl, Nat.le_of_ble_eq_true rfl⟩ xcf3 rfl (36 + (7 * t + 1)) (xk_T (xtw_lt ht (by decide))) (xC_tab (xtw_lt ht (by decide))) [] rfl rfl (Nat.le_of_ble_eq_true rfl) dW_stepBack_12 (kT_many G (7 * t + 1) (xtw_lt ht (by decide)) z m) (fun r12 => ?_)
  refine xR_ic 15 (1 : Int32) dW_stepBack_15 (by decide) ?_
  refine xR_isub 16 dW_stepBack_16 ?_
  refine xR_callVvc 17 cv_B_goBackTo ml_RX6_74 ⟨Nat.le_of_ble_eq_true rfl, Nat.le_of_ble_eq_true rfl⟩ xcf0 rfl (72 + t) (xk_B (Nat.lt_of_lt_of_le ht (by decide))) (xC_brd (Nat.lt_of_lt_of_le ht (by decide))) [.ref (xa G (36 + (7 * t + 1))), .int (r12 - (1 : Int32))] rfl rfl (Nat.le_of_ble_eq_true rfl) dW_stepBack_17 (kB_goBackTo G t (7 * t + 1) (Nat.lt_of_lt_of_le ht (by decide)) (xtw_lt ht (by decide)) z m (r12 - (1 : Int32))) (fun r17 => ?_)
  refine xR_aln 20 0 dW_stepBack_20 rfl rfl ?_
  refine xR_getf 21 xcf5 1 (77 + t) (by decide) (xk_W ht) (xC_twn ht) (v := .ref (xa G (36 + (7 * t + 1)))) rfl fl_RX6_23 dW_stepBack_21 ?_
  refine xR_callVvc 24 cv_T_dropLast ml_RX6_77 ⟨Nat.le_of_ble_eq_true rfl, Nat.le_of_ble_eq_true rfl⟩ xcf3 rfl (36 + (7 * t + 1)) (xk_T (xtw_lt ht (by decide))) (xC_tab (xtw_lt ht (by decide))) [] rfl rfl (Nat.le_of_ble_eq_true rfl) dW_stepBack_24 (kT_dropLast G (7 * t + 1) (xtw_lt ht (by decide)) z r17) (fun r24 => ?_)
  exact xR_vret 27 rfl rfl dW_stepBack_27
theorem dW_playOn_0 : decode (xb yyW_playOn) 0 = .ok (.iconst 0, 1) := by decide +kernel
theorem dW_playOn_1 : decode (xb yyW_playOn) 1 = .ok (.istore 5, 2) := by decide +kernel
theorem dW_playOn_3 : decode (xb yyW_playOn) 3 = .ok (.iconst 0, 1) := by decide +kernel
theorem dW_playOn_4 : decode (xb yyW_playOn) 4 = .ok (.istore 6, 2) := by decide +kernel
theorem dW_playOn_6 : decode (xb yyW_playOn) 6 = .ok (.iconst 0, 1) := by decide +kernel
theorem dW_playOn_7 : decode (xb yyW_playOn) 7 = .ok (.istore 7, 2) := by decide +kernel
theorem dW_playOn_9 : decode (xb yyW_playOn) 9 = .ok (.iconst 0, 1) := by decide +kernel
theorem dW_playOn_10 : decode (xb yyW_playOn) 10 = .ok (.istore 8, 2) := by decide +kernel
theorem dW_playOn_12 : decode (xb yyW_playOn) 12 = .ok (.iload 8, 2) := by decide +kernel
theorem dW_playOn_14 : decode (xb yyW_playOn) 14 = .ok (.aload_n 1, 1) := by decide +kernel
theorem dW_playOn_15 : decode (xb yyW_playOn) 15 = .ok (.invokevirtual 91, 3) := by decide +kernel
theorem dW_playOn_18 : decode (xb yyW_playOn) 18 = .ok (.if_icmp .ge 59, 3) := by decide +kernel
theorem dW_playOn_21 : decode (xb yyW_playOn) 21 = .ok (.aload_n 1, 1) := by decide +kernel
theorem dW_playOn_22 : decode (xb yyW_playOn) 22 = .ok (.iload 8, 2) := by decide +kernel
theorem dW_playOn_24 : decode (xb yyW_playOn) 24 = .ok (.iconst 5, 1) := by decide +kernel
theorem dW_playOn_25 : decode (xb yyW_playOn) 25 = .ok (.invokevirtual 92, 3) := by decide +kernel
theorem dW_playOn_28 : decode (xb yyW_playOn) 28 = .ok (.iload_n 2, 1) := by decide +kernel
theorem dW_playOn_29 : decode (xb yyW_playOn) 29 = .ok (.if_icmp .eq 13, 3) := by decide +kernel
theorem dW_playOn_32 : decode (xb yyW_playOn) 32 = .ok (.iload 4, 2) := by decide +kernel
theorem dW_playOn_34 : decode (xb yyW_playOn) 34 = .ok (.iload 8, 2) := by decide +kernel
theorem dW_playOn_36 : decode (xb yyW_playOn) 36 = .ok (.invokestatic 96, 3) := by decide +kernel
theorem dW_playOn_39 : decode (xb yyW_playOn) 39 = .ok (.ifCond .eq 32, 3) := by decide +kernel
theorem dW_playOn_42 : decode (xb yyW_playOn) 42 = .ok (.iload 5, 2) := by decide +kernel
theorem dW_playOn_44 : decode (xb yyW_playOn) 44 = .ok (.aload_n 1, 1) := by decide +kernel
theorem dW_playOn_45 : decode (xb yyW_playOn) 45 = .ok (.iload 8, 2) := by decide +kernel
theorem dW_playOn_47 : decode (xb yyW_playOn) 47 = .ok (.iload_n 3, 1) := by decide +kernel
theorem dW_playOn_48 : decode (xb yyW_playOn) 48 = .ok (.invokevirtual 100, 3) := by decide +kernel
theorem dW_playOn_51 : decode (xb yyW_playOn) 51 = .ok (.iadd, 1) := by decide +kernel
theorem dW_playOn_52 : decode (xb yyW_playOn) 52 = .ok (.istore 5, 2) := by decide +kernel
theorem dW_playOn_54 : decode (xb yyW_playOn) 54 = .ok (.iload 6, 2) := by decide +kernel
theorem dW_playOn_56 : decode (xb yyW_playOn) 56 = .ok (.iconst 1, 1) := by decide +kernel
theorem dW_playOn_57 : decode (xb yyW_playOn) 57 = .ok (.aload_n 1, 1) := by decide +kernel
theorem dW_playOn_58 : decode (xb yyW_playOn) 58 = .ok (.iload 8, 2) := by decide +kernel
theorem dW_playOn_60 : decode (xb yyW_playOn) 60 = .ok (.iconst 3, 1) := by decide +kernel
theorem dW_playOn_61 : decode (xb yyW_playOn) 61 = .ok (.invokevirtual 92, 3) := by decide +kernel
theorem dW_playOn_64 : decode (xb yyW_playOn) 64 = .ok (.ishl, 1) := by decide +kernel
theorem dW_playOn_65 : decode (xb yyW_playOn) 65 = .ok (.ior, 1) := by decide +kernel
theorem dW_playOn_66 : decode (xb yyW_playOn) 66 = .ok (.istore 6, 2) := by decide +kernel
theorem dW_playOn_68 : decode (xb yyW_playOn) 68 = .ok (.iinc 7 1, 3) := by decide +kernel
theorem dW_playOn_71 : decode (xb yyW_playOn) 71 = .ok (.iinc 8 1, 3) := by decide +kernel
theorem dW_playOn_74 : decode (xb yyW_playOn) 74 = .ok (.goto (-62), 3) := by decide +kernel
theorem dW_playOn_77 : decode (xb yyW_playOn) 77 = .ok (.iload 7, 2) := by decide +kernel
theorem dW_playOn_79 : decode (xb yyW_playOn) 79 = .ok (.iconst 4, 1) := by decide +kernel
theorem dW_playOn_80 : decode (xb yyW_playOn) 80 = .ok (.if_icmp .le 7, 3) := by decide +kernel
theorem dW_playOn_83 : decode (xb yyW_playOn) 83 = .ok (.iconst (-1), 1) := by decide +kernel
theorem dW_playOn_84 : decode (xb yyW_playOn) 84 = .ok (.goto 25, 3) := by decide +kernel
theorem dW_playOn_87 : decode (xb yyW_playOn) 87 = .ok (.aload_n 0, 1) := by decide +kernel
theorem dW_playOn_88 : decode (xb yyW_playOn) 88 = .ok (.getfield 30, 3) := by decide +kernel
theorem dW_playOn_91 : decode (xb yyW_playOn) 91 = .ok (.iload_n 2, 1) := by decide +kernel
theorem dW_playOn_92 : decode (xb yyW_playOn) 92 = .ok (.iconst 0, 1) := by decide +kernel
theorem dW_playOn_93 : decode (xb yyW_playOn) 93 = .ok (.invokevirtual 103, 3) := by decide +kernel
theorem dW_playOn_96 : decode (xb yyW_playOn) 96 = .ok (.iload_n 3, 1) := by decide +kernel
theorem dW_playOn_97 : decode (xb yyW_playOn) 97 = .ok (.iload 5, 2) := by decide +kernel
theorem dW_playOn_99 : decode (xb yyW_playOn) 99 = .ok (.iload 6, 2) := by decide +kernel
theorem dW_playOn_101 : decode (xb yyW_playOn) 101 = .ok (.invokestatic 106, 3) := by decide +kernel
theorem dW_playOn_104 : decode (xb yyW_playOn) 104 = .ok (.iload 7, 2) := by decide +kernel
theorem dW_playOn_106 : decode (xb yyW_playOn) 106 = .ok (.invokestatic 112, 3) := by decide +kernel
theorem dW_playOn_109 : decode (xb yyW_playOn) 109 = .ok (.ireturn, 1) := by decide +kernel
def fW_playOn_b71 (t : Nat) (t1 : Nat) (m : xM) (k12 : Int32 → Int32 → Int32 → Int32 → Int32 → Int32 → Int32 → Option (Int32)) (v2 : Int32) (v3 : Int32) (v4 : Int32) (v5 : Int32) (v6 : Int32) (v7 : Int32) (v8 : Int32) : Option (Int32) := k12 v2 v3 v4 v5 v6 v7 (v8 + 1)
def fW_playOn_b42 (t : Nat) (t1 : Nat) (m : xM) (k12 : Int32 → Int32 → Int32 → Int32 → Int32 → Int32 → Int32 → Option (Int32)) (v2 : Int32) (v3 : Int32) (v4 : Int32) (v5 : Int32) (v6 : Int32) (v7 : Int32) (v8 : Int32) : Option (Int32) := (fB_soundOf t1 m v8 v3).bind fun r48 => (fB_cell t1 m v8 (3 : Int32)).bind fun r61 => fW_playOn_b71 t t1 m k12 v2 v3 v4 (v5 + r48) (v6 ||| ((1 : Int32) <<< (r61 &&& 31))) (v7 + 1) v8
def fW_playOn_l12 (t : Nat) (t1 : Nat) (m : xM) : Nat → Int32 → Int32 → Int32 → Int32 → Int32 → Int32 → Int32 → Option (Int32)
  | 0, _, _, _, _, _, _, _ => none
  | n + 1, v2, v3, v4, v5, v6, v7, v8 => (fB_many t1 m).bind fun r15 => (if r15 ≤ v8 then (if v7 ≤ (4 : Int32) then (fT_get (7 * t + 3) m v2 (0 : Int32)).bind fun r93 => (fJ_bitCount v6).bind fun r101 => (fS_playBy r93 v3 v5 r101 v7).bind fun r106 => some r106 else some (-1 : Int32)) else (fB_cell t1 m v8 (5 : Int32)).bind fun r25 => (if r25 = v2 then fW_playOn_b42 t t1 m (fW_playOn_l12 t t1 m n) v2 v3 v4 v5 v6 v7 v8 else (fH_holdsBit v4 v8).bind fun r36 => (if r36 = 0 then fW_playOn_b71 t t1 m (fW_playOn_l12 t t1 m n) v2 v3 v4 v5 v6 v7 v8 else fW_playOn_b42 t t1 m (fW_playOn_l12 t t1 m n) v2 v3 v4 v5 v6 v7 v8)))
def fW_playOn (t : Nat) (t1 : Nat) (m : xM) (v2 : Int32) (v3 : Int32) (v4 : Int32) : Option (Int32) := fW_playOn_l12 t t1 m xfu v2 v3 v4 (0 : Int32) (0 : Int32) (0 : Int32) (0 : Int32)
set_option maxRecDepth 100000 in
set_option maxHeartbeats 4000000 in
theorem kW_playOn_b71 (G : xG) (t : Nat) (t1 : Nat) (ht : t < 4) (ht1 : t1 < 5) (z : xM) (m : xM) (k12 : Int32 → Int32 → Int32 → Int32 → Int32 → Int32 → Int32 → Option (Int32)) (hk12 : ∀ (v2 : Int32) (v3 : Int32) (v4 : Int32) (v5 : Int32) (v6 : Int32) (v7 : Int32) (v8 : Int32), xR G yyW_playOn (emi (m, z)) 12 [(0, .ref (xa G (77 + t))), (1, .ref (xa G (72 + t1))), (2, .int v2), (3, .int v3), (4, .int v4), (5, .int v5), (6, .int v6), (7, .int v7), (8, .int v8)] [] (m, z) (k12 v2 v3 v4 v5 v6 v7 v8)) (v2 : Int32) (v3 : Int32) (v4 : Int32) (v5 : Int32) (v6 : Int32) (v7 : Int32) (v8 : Int32) : xR G yyW_playOn (emi (m, z)) 71 [(0, .ref (xa G (77 + t))), (1, .ref (xa G (72 + t1))), (2, .int v2), (3, .int v3), (4, .int v4), (5, .int v5), (6, .int v6), (7, .int v7), (8, .int v8)] [] (m, z) (fW_playOn_b71 t t1 m k12 v2 v3 v4 v5 v6 v7 v8) := by
  unfold fW_playOn_b71
  refine xR_iinc 71 8 (v8 + 1) ([(8, .int (v8 + 1)), (0, .ref (xa G (77 + t))), (1, .ref (xa G (72 + t1))), (2, .int v2), (3, .int v3), (4, .int v4), (5, .int v5), (6, .int v6), (7, .int v7)]) dW_playOn_71 rfl rfl (by decide) rfl ?_
  refine xR_goto 74 12 dW_playOn_74 (by decide) ?_
  exact xR_sub [1, 2, 3, 4, 5, 6, 7, 8, 0] rfl (hk12 v2 v3 v4 v5 v6 v7 (v8 + 1))
set_option maxRecDepth 100000 in
set_option maxHeartbeats 4000000 in
theorem kW_playOn_b42 (G : xG) (t : Nat) (t1 : Nat) (ht : t < 4) (ht1 : t1 < 5) (z : xM) (m : xM) (k12 : Int32 → Int32 → Int32 → Int32 → Int32 → Int32 → Int32 → Option (Int32)) (hk12 : ∀ (v2 : Int32) (v3 : Int32) (v4 : Int32) (v5 : Int32) (v6 : Int32) (v7 : Int32) (v8 : Int32), xR G yyW_playOn (emi (m, z)) 12 [(0, .ref (xa G (77 + t))), (1, .ref (xa G (72 + t1))), (2, .int v2), (3, .int v3), (4, .int v4), (5, .int v5), (6, .int v6), (7, .int v7), (8, .int v8)] [] (m, z) (k12 v2 v3 v4 v5 v6 v7 v8)) (v2 : Int32) (v3 : Int32) (v4 : Int32) (v5 : Int32) (v6 : Int32) (v7 : Int32) (v8 : Int32) : xR G yyW_playOn (emi (m, z)) 42 [(0, .ref (xa G (77 + t))), (1, .ref (xa G (72 + t1))), (2, .int v2), (3, .int v3), (4, .int v4), (5, .int v5), (6, .int v6), (7, .int v7), (8, .int v8)] [] (m, z) (fW_playOn_b42 t t1 m k12 v2 v3 v4 v5 v6 v7 v8) := by
  unfold fW_playOn_b42
  refine xR_il 42 5 dW_playOn_42 rfl ?_
  refine xR_aln 44 1 dW_playOn_44 rfl rfl ?_
  refine xR_il 45 8 dW_playOn_45 rfl ?_
  refine xR_iln 47 3 dW_playOn_47 rfl rfl ?_
  refine xR_callVi 48 cv_B_soundOf ml_RX6_100 ⟨Nat.le_of_ble_eq_true rfl, Nat.le_of_ble_eq_true rfl⟩ xcf0 rfl (72 + t1) (xk_B ht1) (xC_brd ht1) [.int v8, .int v3] rfl rfl (Nat.le_of_ble_eq_true rfl) dW_playOn_48 (kB_soundOf G t1 ht1 z m v8 v3) (fun r48 => ?_)
  refine xR_iadd 51 dW_playOn_51 ?_
  refine xR_is 52 ([(5, .int (v5 + r48)), (0, .ref (xa G (77 + t))), (1, .ref (xa G (72 + t1))), (2, .int v2), (3, .int v3), (4, .int v4), (6, .int v6), (7, .int v7), (8, .int v8)]) dW_playOn_52 (by decide) rfl ?_
  refine xR_il 54 6 dW_playOn_54 rfl ?_
  refine xR_ic 56 (1 : Int32) dW_playOn_56 (by decide) ?_
  refine xR_aln 57 2 dW_playOn_57 rfl rfl ?_
  refine xR_il 58 8 dW_playOn_58 rfl ?_
  refine xR_ic 60 (3 : Int32) dW_playOn_60 (by decide) ?_
  refine xR_callVi 61 cv_B_cell ml_RX6_92 ⟨Nat.le_of_ble_eq_true rfl, Nat.le_of_ble_eq_true rfl⟩ xcf0 rfl (72 + t1) (xk_B ht1) (xC_brd ht1) [.int v8, .int (3 : Int32)] rfl rfl (Nat.le_of_ble_eq_true rfl) dW_playOn_61 (kB_cell G t1 ht1 z m v8 (3 : Int32)) (fun r61 => ?_)
  refine xR_ishl 64 dW_playOn_64 ?_
  refine xR_ior 65 dW_playOn_65 ?_
  refine xR_is 66 ([(6, .int (v6 ||| ((1 : Int32) <<< (r61 &&& 31)))), (5, .int (v5 + r48)), (0, .ref (xa G (77 + t))), (1, .ref (xa G (72 + t1))), (2, .int v2), (3, .int v3), (4, .int v4), (7, .int v7), (8, .int v8)]) dW_playOn_66 (by decide) rfl ?_
  refine xR_iinc 68 7 (v7 + 1) ([(7, .int (v7 + 1)), (6, .int (v6 ||| ((1 : Int32) <<< (r61 &&& 31)))), (5, .int (v5 + r48)), (0, .ref (xa G (77 + t))), (1, .ref (xa G (72 + t1))), (2, .int v2), (3, .int v3), (4, .int v4), (8, .int v8)]) dW_playOn_68 rfl rfl (by decide) rfl ?_
  exact xR_sub [3, 4, 5, 6, 7, 2, 1, 0, 8] rfl (kW_playOn_b71 G t t1 ht ht1 z m k12 hk12 v2 v3 v4 (v5 + r48) (v6 ||| ((1 : Int32) <<< (r61 &&& 31))) (v7 + 1) v8)
set_option maxRecDepth 100000 in
set_option maxHeartbeats 4000000 in
theorem kW_playOn_l12 (G : xG) (t : Nat) (t1 : Nat) (ht : t < 4) (ht1 : t1 < 5) (z : xM) (m : xM)   : ∀ (n : Nat) (v2 : Int32) (v3 : Int32) (v4 : Int32) (v5 : Int32) (v6 : Int32) (v7 : Int32) (v8 : Int32), xR G yyW_playOn (emi (m, z)) 12 [(0, .ref (xa G (77 + t))), (1, .ref (xa G (72 + t1))), (2, .int v2), (3, .int v3), (4, .int v4), (5, .int v5), (6, .int v6), (7, .int v7), (8, .int v8)] [] (m, z) (fW_playOn_l12 t t1 m n v2 v3 v4 v5 v6 v7 v8) := by
  intro n
  induction n with
  | zero =>
    intro v2 v3 v4 v5 v6 v7 v8
    rw [fW_playOn_l12]
    exact xR_none
  | succ n ih =>
    intro v2 v3 v4 v5 v6 v7 v8
    rw [fW_playOn_l12]
    refine xR_il 12 8 dW_playOn_12 rfl ?_
    refine xR_aln 14 1 dW_playOn_14 rfl rfl ?_
    refine xR_callVi 15 cv_B_many ml_RX6_91 ⟨Nat.le_of_ble_eq_true rfl, Nat.le_of_ble_eq_true rfl⟩ xcf0 rfl (72 + t1) (xk_B ht1) (xC_brd ht1) [] rfl rfl (Nat.le_of_ble_eq_true rfl) dW_playOn_15 (kB_many G t1 ht1 z m) (fun r15 => ?_)
    refine xR_icge 18 77 dW_playOn_18 (by decide) ?_ ?_
    · refine xR_il 77 7 dW_playOn_77 rfl ?_
      refine xR_ic 79 (4 : Int32) dW_playOn_79 (by decide) ?_
      refine xR_icle 80 87 dW_playOn_80 (by decide) ?_ ?_
      · refine xR_aln 87 0 dW_playOn_87 rfl rfl ?_
        refine xR_getf 88 xcf5 3 (77 + t) (by decide) (xk_W ht) (xC_twn ht) (v := .ref (xa G (36 + (7 * t + 3)))) rfl fl_RX6_30 dW_playOn_88 ?_
        refine xR_iln 91 2 dW_playOn_91 rfl rfl ?_
        refine xR_ic 92 (0 : Int32) dW_playOn_92 (by decide) ?_
        refine xR_callVi 93 cv_T_get ml_RX6_103 ⟨Nat.le_of_ble_eq_true rfl, Nat.le_of_ble_eq_true rfl⟩ xcf3 rfl (36 + (7 * t + 3)) (xk_T (xtw_lt ht (by decide))) (xC_tab (xtw_lt ht (by decide))) [.int v2, .int (0 : Int32)] rfl rfl (Nat.le_of_ble_eq_true rfl) dW_playOn_93 (kT_get G (7 * t + 3) (xtw_lt ht (by decide)) z m v2 (0 : Int32)) (fun r93 => ?_)
        refine xR_iln 96 3 dW_playOn_96 rfl rfl ?_
        refine xR_il 97 5 dW_playOn_97 rfl ?_
        refine xR_il 99 6 dW_playOn_99 rfl ?_
        refine xR_callSi 101 cs_J_bitCount ml_RX6_106 ⟨Nat.le_of_ble_eq_true rfl, Nat.le_of_ble_eq_true rfl⟩ [.int v6] rfl rfl (Nat.le_of_ble_eq_true rfl) dW_playOn_101 (kJ_bitCount G (m, z) v6) (fun r101 => ?_)
        refine xR_il 104 7 dW_playOn_104 rfl ?_
        refine xR_callSi 106 cs_S_playBy ml_RX6_112 ⟨Nat.le_of_ble_eq_true rfl, Nat.le_of_ble_eq_true rfl⟩ [.int r93, .int v3, .int v5, .int r101, .int v7] rfl rfl (Nat.le_of_ble_eq_true rfl) dW_playOn_106 (kS_playBy G (m, z) r93 v3 v5 r101 v7) (fun r106 => ?_)
        exact xR_iret 109 rfl rfl dW_playOn_109
      · refine xR_ic 83 (-1 : Int32) dW_playOn_83 (by decide) ?_
        refine xR_goto 84 109 dW_playOn_84 (by decide) ?_
        exact xR_iret 109 rfl rfl dW_playOn_109
    · refine xR_aln 21 1 dW_playOn_21 rfl rfl ?_
      refine xR_il 22 8 dW_playOn_22 rfl ?_
      refine xR_ic 24 (5 : Int32) dW_playOn_24 (by decide) ?_
      refine xR_callVi 25 cv_B_cell ml_RX6_92 ⟨Nat.le_of_ble_eq_true rfl, Nat.le_of_ble_eq_true rfl⟩ xcf0 rfl (72 + t1) (xk_B ht1) (xC_brd ht1) [.int v8, .int (5 : Int32)] rfl rfl (Nat.le_of_ble_eq_true rfl) dW_playOn_25 (kB_cell G t1 ht1 z m v8 (5 : Int32)) (fun r25 => ?_)
      refine xR_iln 28 2 dW_playOn_28 rfl rfl ?_
      refine xR_iceq 29 42 dW_playOn_29 (by decide) ?_ ?_
      · exact kW_playOn_b42 G t t1 ht ht1 z m (fW_playOn_l12 t t1 m n) ih v2 v3 v4 v5 v6 v7 v8
      · refine xR_il 32 4 dW_playOn_32 rfl ?_
        refine xR_il 34 8 dW_playOn_34 rfl ?_
        refine xR_callSNi (host := RX8) 36 cs_H_holdsBit (by decide +kernel) ⟨Nat.le_of_ble_eq_true rfl, Nat.le_of_ble_eq_true rfl⟩ [.int v4, .int v8] rfl rfl (Nat.le_of_ble_eq_true rfl) dW_playOn_36 (kH_holdsBit G (m, z) v4 v8) (fun r36 => ?_)
        refine xR_ifeq 39 71 dW_playOn_39 (by decide) ?_ ?_
        · exact kW_playOn_b71 G t t1 ht ht1 z m (fW_playOn_l12 t t1 m n) ih v2 v3 v4 v5 v6 v7 v8
        · exact kW_playOn_b42 G t t1 ht ht1 z m (fW_playOn_l12 t t1 m n) ih v2 v3 v4 v5 v6 v7 v8
set_option maxRecDepth 100000 in
set_option maxHeartbeats 4000000 in
theorem kW_playOn (G : xG) (t : Nat) (t1 : Nat) (ht : t < 4) (ht1 : t1 < 5) (z : xM) (m : xM) (v2 : Int32) (v3 : Int32) (v4 : Int32) : ∀ a, fW_playOn t t1 m v2 v3 v4 = some a → xCt G yyW_playOn [.ref (xa G (77 + t)), .ref (xa G (72 + t1)), .int v2, .int v3, .int v4] (m, z) (some (.int a)) (m, z) := by
  refine xR_ct (em := (emi (m, z))) rfl (Nat.le_of_ble_eq_true rfl) ?_
  show xR G yyW_playOn _ 0 [(0, .ref (xa G (77 + t))), (1, .ref (xa G (72 + t1))), (2, .int v2), (3, .int v3), (4, .int v4)] [] _ _
  unfold fW_playOn
  refine xR_ic 0 (0 : Int32) dW_playOn_0 (by decide) ?_
  refine xR_is 1 ([(5, .int (0 : Int32)), (0, .ref (xa G (77 + t))), (1, .ref (xa G (72 + t1))), (2, .int v2), (3, .int v3), (4, .int v4)]) dW_playOn_1 (by decide) rfl ?_
  refine xR_ic 3 (0 : Int32) dW_playOn_3 (by decide) ?_
  refine xR_is 4 ([(6, .int (0 : Int32)), (5, .int (0 : Int32)), (0, .ref (xa G (77 + t))), (1, .ref (xa G (72 + t1))), (2, .int v2), (3, .int v3), (4, .int v4)]) dW_playOn_4 (by decide) rfl ?_
  refine xR_ic 6 (0 : Int32) dW_playOn_6 (by decide) ?_
  refine xR_is 7 ([(7, .int (0 : Int32)), (6, .int (0 : Int32)), (5, .int (0 : Int32)), (0, .ref (xa G (77 + t))), (1, .ref (xa G (72 + t1))), (2, .int v2), (3, .int v3), (4, .int v4)]) dW_playOn_7 (by decide) rfl ?_
  refine xR_ic 9 (0 : Int32) dW_playOn_9 (by decide) ?_
  refine xR_is 10 ([(8, .int (0 : Int32)), (7, .int (0 : Int32)), (6, .int (0 : Int32)), (5, .int (0 : Int32)), (0, .ref (xa G (77 + t))), (1, .ref (xa G (72 + t1))), (2, .int v2), (3, .int v3), (4, .int v4)]) dW_playOn_10 (by decide) rfl ?_
  exact xR_sub [4, 5, 6, 7, 8, 3, 2, 1, 0] rfl (kW_playOn_l12 G t t1 ht ht1 z m xfu v2 v3 v4 (0 : Int32) (0 : Int32) (0 : Int32) (0 : Int32))
theorem dW_playOf_0 : decode (xb yyW_playOf) 0 = .ok (.aload_n 0, 1) := by decide +kernel
theorem dW_playOf_1 : decode (xb yyW_playOf) 1 = .ok (.aload_n 0, 1) := by decide +kernel
theorem dW_playOf_2 : decode (xb yyW_playOf) 2 = .ok (.getfield 12, 3) := by decide +kernel
theorem dW_playOf_5 : decode (xb yyW_playOf) 5 = .ok (.iload_n 1, 1) := by decide +kernel
theorem dW_playOf_6 : decode (xb yyW_playOf) 6 = .ok (.iload_n 2, 1) := by decide +kernel
theorem dW_playOf_7 : decode (xb yyW_playOf) 7 = .ok (.iconst 0, 1) := by decide +kernel
theorem dW_playOf_8 : decode (xb yyW_playOf) 8 = .ok (.invokevirtual 87, 3) := by decide +kernel
theorem dW_playOf_11 : decode (xb yyW_playOf) 11 = .ok (.ireturn, 1) := by decide +kernel
def fW_playOf (t : Nat) (m : xM) (v1 : Int32) (v2 : Int32) : Option (Int32) := (fW_playOn t t m v1 v2 (0 : Int32)).bind fun r8 => some r8
set_option maxRecDepth 100000 in
set_option maxHeartbeats 4000000 in
theorem kW_playOf (G : xG) (t : Nat) (ht : t < 4) (z : xM) (m : xM) (v1 : Int32) (v2 : Int32) : ∀ a, fW_playOf t m v1 v2 = some a → xCt G yyW_playOf [.ref (xa G (77 + t)), .int v1, .int v2] (m, z) (some (.int a)) (m, z) := by
  refine xR_ct (em := (emi (m, z))) rfl (Nat.le_of_ble_eq_true rfl) ?_
  show xR G yyW_playOf _ 0 [(0, .ref (xa G (77 + t))), (1, .int v1), (2, .int v2)] [] _ _
  unfold fW_playOf
  refine xR_aln 0 0 dW_playOf_0 rfl rfl ?_
  refine xR_aln 1 0 dW_playOf_1 rfl rfl ?_
  refine xR_getf 2 xcf5 0 (77 + t) (by decide) (xk_W ht) (xC_twn ht) (v := .ref (xa G (72 + t))) rfl fl_RX6_12 dW_playOf_2 ?_
  refine xR_iln 5 1 dW_playOf_5 rfl rfl ?_
  refine xR_iln 6 2 dW_playOf_6 rfl rfl ?_
  refine xR_ic 7 (0 : Int32) dW_playOf_7 (by decide) ?_
  refine xR_callVi 8 cv_W_playOn ml_RX6_87 ⟨Nat.le_of_ble_eq_true rfl, Nat.le_of_ble_eq_true rfl⟩ xcf5 rfl (77 + t) (xk_W ht) (xC_twn ht) [.ref (xa G (72 + t)), .int v1, .int v2, .int (0 : Int32)] rfl rfl (Nat.le_of_ble_eq_true rfl) dW_playOf_8 (kW_playOn G t t ht (Nat.lt_of_lt_of_le ht (by decide)) z m v1 v2 (0 : Int32)) (fun r8 => ?_)
  exact xR_iret 11 rfl rfl dW_playOf_11
theorem dW_likeOnes_0 : decode (xb yyW_likeOnes) 0 = .ok (.aload_n 0, 1) := by decide +kernel
theorem dW_likeOnes_1 : decode (xb yyW_likeOnes) 1 = .ok (.iload_n 1, 1) := by decide +kernel
theorem dW_likeOnes_2 : decode (xb yyW_likeOnes) 2 = .ok (.iload_n 2, 1) := by decide +kernel
theorem dW_likeOnes_3 : decode (xb yyW_likeOnes) 3 = .ok (.invokevirtual 118, 3) := by decide +kernel
theorem dW_likeOnes_6 : decode (xb yyW_likeOnes) 6 = .ok (.istore_n 3, 1) := by decide +kernel
theorem dW_likeOnes_7 : decode (xb yyW_likeOnes) 7 = .ok (.iconst 0, 1) := by decide +kernel
theorem dW_likeOnes_8 : decode (xb yyW_likeOnes) 8 = .ok (.istore 4, 2) := by decide +kernel
theorem dW_likeOnes_10 : decode (xb yyW_likeOnes) 10 = .ok (.iconst 0, 1) := by decide +kernel
theorem dW_likeOnes_11 : decode (xb yyW_likeOnes) 11 = .ok (.istore 5, 2) := by decide +kernel
theorem dW_likeOnes_13 : decode (xb yyW_likeOnes) 13 = .ok (.iload 5, 2) := by decide +kernel
theorem dW_likeOnes_15 : decode (xb yyW_likeOnes) 15 = .ok (.aload_n 0, 1) := by decide +kernel
theorem dW_likeOnes_16 : decode (xb yyW_likeOnes) 16 = .ok (.getfield 30, 3) := by decide +kernel
theorem dW_likeOnes_19 : decode (xb yyW_likeOnes) 19 = .ok (.invokevirtual 64, 3) := by decide +kernel
theorem dW_likeOnes_22 : decode (xb yyW_likeOnes) 22 = .ok (.if_icmp .ge 34, 3) := by decide +kernel
theorem dW_likeOnes_25 : decode (xb yyW_likeOnes) 25 = .ok (.aload_n 0, 1) := by decide +kernel
theorem dW_likeOnes_26 : decode (xb yyW_likeOnes) 26 = .ok (.iload 5, 2) := by decide +kernel
theorem dW_likeOnes_28 : decode (xb yyW_likeOnes) 28 = .ok (.iload_n 2, 1) := by decide +kernel
theorem dW_likeOnes_29 : decode (xb yyW_likeOnes) 29 = .ok (.invokevirtual 118, 3) := by decide +kernel
theorem dW_likeOnes_32 : decode (xb yyW_likeOnes) 32 = .ok (.iload_n 3, 1) := by decide +kernel
theorem dW_likeOnes_33 : decode (xb yyW_likeOnes) 33 = .ok (.isub, 1) := by decide +kernel
theorem dW_likeOnes_34 : decode (xb yyW_likeOnes) 34 = .ok (.invokestatic 121, 3) := by decide +kernel
theorem dW_likeOnes_37 : decode (xb yyW_likeOnes) 37 = .ok (.iconst 4, 1) := by decide +kernel
theorem dW_likeOnes_38 : decode (xb yyW_likeOnes) 38 = .ok (.if_icmp .gt 12, 3) := by decide +kernel
theorem dW_likeOnes_41 : decode (xb yyW_likeOnes) 41 = .ok (.iload 4, 2) := by decide +kernel
theorem dW_likeOnes_43 : decode (xb yyW_likeOnes) 43 = .ok (.iconst 1, 1) := by decide +kernel
theorem dW_likeOnes_44 : decode (xb yyW_likeOnes) 44 = .ok (.iload 5, 2) := by decide +kernel
theorem dW_likeOnes_46 : decode (xb yyW_likeOnes) 46 = .ok (.ishl, 1) := by decide +kernel
theorem dW_likeOnes_47 : decode (xb yyW_likeOnes) 47 = .ok (.ior, 1) := by decide +kernel
theorem dW_likeOnes_48 : decode (xb yyW_likeOnes) 48 = .ok (.istore 4, 2) := by decide +kernel
theorem dW_likeOnes_50 : decode (xb yyW_likeOnes) 50 = .ok (.iinc 5 1, 3) := by decide +kernel
theorem dW_likeOnes_53 : decode (xb yyW_likeOnes) 53 = .ok (.goto (-40), 3) := by decide +kernel
theorem dW_likeOnes_56 : decode (xb yyW_likeOnes) 56 = .ok (.iload 4, 2) := by decide +kernel
theorem dW_likeOnes_58 : decode (xb yyW_likeOnes) 58 = .ok (.ireturn, 1) := by decide +kernel
def fW_likeOnes_b50 (t : Nat) (m : xM) (k13 : Int32 → Int32 → Int32 → Int32 → Option (Int32)) (v2 : Int32) (v3 : Int32) (v4 : Int32) (v5 : Int32) : Option (Int32) := k13 v2 v3 v4 (v5 + 1)
def fW_likeOnes_l13 (t : Nat) (m : xM) : Nat → Int32 → Int32 → Int32 → Int32 → Option (Int32)
  | 0, _, _, _, _ => none
  | n + 1, v2, v3, v4, v5 => (fT_many (7 * t + 3) m).bind fun r19 => (if r19 ≤ v5 then some v4 else (fW_playOf t m v5 v2).bind fun r29 => (if (4 : Int32) < (xabs (r29 - v3)) then fW_likeOnes_b50 t m (fW_likeOnes_l13 t m n) v2 v3 v4 v5 else fW_likeOnes_b50 t m (fW_likeOnes_l13 t m n) v2 v3 (v4 ||| ((1 : Int32) <<< (v5 &&& 31))) v5))
def fW_likeOnes (t : Nat) (m : xM) (v1 : Int32) (v2 : Int32) : Option (Int32) := (fW_playOf t m v1 v2).bind fun r3 => fW_likeOnes_l13 t m xfu v2 r3 (0 : Int32) (0 : Int32)
set_option maxRecDepth 100000 in
set_option maxHeartbeats 4000000 in
theorem kW_likeOnes_b50 (G : xG) (t : Nat) (ht : t < 4) (z : xM) (m : xM) (k13 : Int32 → Int32 → Int32 → Int32 → Option (Int32)) (hk13 : ∀ (v2 : Int32) (v3 : Int32) (v4 : Int32) (v5 : Int32), xR G yyW_likeOnes (emi (m, z)) 13 [(0, .ref (xa G (77 + t))), (2, .int v2), (3, .int v3), (4, .int v4), (5, .int v5)] [] (m, z) (k13 v2 v3 v4 v5)) (v2 : Int32) (v3 : Int32) (v4 : Int32) (v5 : Int32) : xR G yyW_likeOnes (emi (m, z)) 50 [(0, .ref (xa G (77 + t))), (2, .int v2), (3, .int v3), (4, .int v4), (5, .int v5)] [] (m, z) (fW_likeOnes_b50 t m k13 v2 v3 v4 v5) := by
  unfold fW_likeOnes_b50
  refine xR_iinc 50 4 (v5 + 1) ([(5, .int (v5 + 1)), (0, .ref (xa G (77 + t))), (2, .int v2), (3, .int v3), (4, .int v4)]) dW_likeOnes_50 rfl rfl (by decide) rfl ?_
  refine xR_goto 53 13 dW_likeOnes_53 (by decide) ?_
  exact xR_sub [1, 2, 3, 4, 0] rfl (hk13 v2 v3 v4 (v5 + 1))
set_option maxRecDepth 100000 in
set_option maxHeartbeats 4000000 in
theorem kW_likeOnes_l13 (G : xG) (t : Nat) (ht : t < 4) (z : xM) (m : xM)   : ∀ (n : Nat) (v2 : Int32) (v3 : Int32) (v4 : Int32) (v5 : Int32), xR G yyW_likeOnes (emi (m, z)) 13 [(0, .ref (xa G (77 + t))), (2, .int v2), (3, .int v3), (4, .int v4), (5, .int v5)] [] (m, z) (fW_likeOnes_l13 t m n v2 v3 v4 v5) := by
  intro n
  induction n with
  | zero =>
    intro v2 v3 v4 v5
    rw [fW_likeOnes_l13]
    exact xR_none
  | succ n ih =>
    intro v2 v3 v4 v5
    rw [fW_likeOnes_l13]
    refine xR_il 13 4 dW_likeOnes_13 rfl ?_
    refine xR_aln 15 0 dW_likeOnes_15 rfl rfl ?_
    refine xR_getf 16 xcf5 3 (77 + t) (by decide) (xk_W ht) (xC_twn ht) (v := .ref (xa G (36 + (7 * t + 3)))) rfl fl_RX6_30 dW_likeOnes_16 ?_
    refine xR_callVi 19 cv_T_many ml_RX6_64 ⟨Nat.le_of_ble_eq_true rfl, Nat.le_of_ble_eq_true rfl⟩ xcf3 rfl (36 + (7 * t + 3)) (xk_T (xtw_lt ht (by decide))) (xC_tab (xtw_lt ht (by decide))) [] rfl rfl (Nat.le_of_ble_eq_true rfl) dW_likeOnes_19 (kT_many G (7 * t + 3) (xtw_lt ht (by decide)) z m) (fun r19 => ?_)
    refine xR_icge 22 56 dW_likeOnes_22 (by decide) ?_ ?_
    · refine xR_il 56 3 dW_likeOnes_56 rfl ?_
      exact xR_iret 58 rfl rfl dW_likeOnes_58
    · refine xR_aln 25 0 dW_likeOnes_25 rfl rfl ?_
      refine xR_il 26 4 dW_likeOnes_26 rfl ?_
      refine xR_iln 28 1 dW_likeOnes_28 rfl rfl ?_
      refine xR_callVi 29 cv_W_playOf ml_RX6_118 ⟨Nat.le_of_ble_eq_true rfl, Nat.le_of_ble_eq_true rfl⟩ xcf5 rfl (77 + t) (xk_W ht) (xC_twn ht) [.int v5, .int v2] rfl rfl (Nat.le_of_ble_eq_true rfl) dW_likeOnes_29 (kW_playOf G t ht z m v5 v2) (fun r29 => ?_)
      refine xR_iln 32 2 dW_likeOnes_32 rfl rfl ?_
      refine xR_isub 33 dW_likeOnes_33 ?_
      refine xR_mabs 34 ml_RX6_121 ⟨Nat.le_of_ble_eq_true rfl, Nat.le_of_ble_eq_true rfl⟩ dW_likeOnes_34 ?_
      refine xR_ic 37 (4 : Int32) dW_likeOnes_37 (by decide) ?_
      refine xR_icgt 38 50 dW_likeOnes_38 (by decide) ?_ ?_
      · exact kW_likeOnes_b50 G t ht z m (fW_likeOnes_l13 t m n) ih v2 v3 v4 v5
      · refine xR_il 41 3 dW_likeOnes_41 rfl ?_
        refine xR_ic 43 (1 : Int32) dW_likeOnes_43 (by decide) ?_
        refine xR_il 44 4 dW_likeOnes_44 rfl ?_
        refine xR_ishl 46 dW_likeOnes_46 ?_
        refine xR_ior 47 dW_likeOnes_47 ?_
        refine xR_is 48 ([(4, .int (v4 ||| ((1 : Int32) <<< (v5 &&& 31)))), (0, .ref (xa G (77 + t))), (2, .int v2), (3, .int v3), (5, .int v5)]) dW_likeOnes_48 (by decide) rfl ?_
        exact xR_sub [1, 2, 3, 0, 4] rfl (kW_likeOnes_b50 G t ht z m (fW_likeOnes_l13 t m n) ih v2 v3 (v4 ||| ((1 : Int32) <<< (v5 &&& 31))) v5)
set_option maxRecDepth 100000 in
set_option maxHeartbeats 4000000 in
theorem kW_likeOnes (G : xG) (t : Nat) (ht : t < 4) (z : xM) (m : xM) (v1 : Int32) (v2 : Int32) : ∀ a, fW_likeOnes t m v1 v2 = some a → xCt G yyW_likeOnes [.ref (xa G (77 + t)), .int v1, .int v2] (m, z) (some (.int a)) (m, z) := by
  refine xR_ct (em := (emi (m, z))) rfl (Nat.le_of_ble_eq_true rfl) ?_
  show xR G yyW_likeOnes _ 0 [(0, .ref (xa G (77 + t))), (1, .int v1), (2, .int v2)] [] _ _
  unfold fW_likeOnes
  refine xR_aln 0 0 dW_likeOnes_0 rfl rfl ?_
  refine xR_iln 1 1 dW_likeOnes_1 rfl rfl ?_
  refine xR_iln 2 2 dW_likeOnes_2 rfl rfl ?_
  refine xR_callVi 3 cv_W_playOf ml_RX6_118 ⟨Nat.le_of_ble_eq_true rfl, Nat.le_of_ble_eq_true rfl⟩ xcf5 rfl (77 + t) (xk_W ht) (xC_twn ht) [.int v1, .int v2] rfl rfl (Nat.le_of_ble_eq_true rfl) dW_likeOnes_3 (kW_playOf G t ht z m v1 v2) (fun r3 => ?_)
  refine xR_isn 6 ([(3, .int r3), (0, .ref (xa G (77 + t))), (1, .int v1), (2, .int v2)]) dW_likeOnes_6 rfl (by decide) rfl ?_
  refine xR_ic 7 (0 : Int32) dW_likeOnes_7 (by decide) ?_
  refine xR_is 8 ([(4, .int (0 : Int32)), (3, .int r3), (0, .ref (xa G (77 + t))), (1, .int v1), (2, .int v2)]) dW_likeOnes_8 (by decide) rfl ?_
  refine xR_ic 10 (0 : Int32) dW_likeOnes_10 (by decide) ?_
  refine xR_is 11 ([(5, .int (0 : Int32)), (4, .int (0 : Int32)), (3, .int r3), (0, .ref (xa G (77 + t))), (1, .int v1), (2, .int v2)]) dW_likeOnes_11 (by decide) rfl ?_
  exact xR_sub [3, 5, 2, 1, 0] rfl (kW_likeOnes_l13 G t ht z m xfu v2 r3 (0 : Int32) (0 : Int32))
theorem dW_soundsAsHeard_0 : decode (xb yyW_soundsAsHeard) 0 = .ok (.iconst 0, 1) := by decide +kernel
theorem dW_soundsAsHeard_1 : decode (xb yyW_soundsAsHeard) 1 = .ok (.istore_n 2, 1) := by decide +kernel
theorem dW_soundsAsHeard_2 : decode (xb yyW_soundsAsHeard) 2 = .ok (.iload_n 2, 1) := by decide +kernel
theorem dW_soundsAsHeard_3 : decode (xb yyW_soundsAsHeard) 3 = .ok (.aload_n 0, 1) := by decide +kernel
theorem dW_soundsAsHeard_4 : decode (xb yyW_soundsAsHeard) 4 = .ok (.getfield 33, 3) := by decide +kernel
theorem dW_soundsAsHeard_7 : decode (xb yyW_soundsAsHeard) 7 = .ok (.invokevirtual 64, 3) := by decide +kernel
theorem dW_soundsAsHeard_10 : decode (xb yyW_soundsAsHeard) 10 = .ok (.if_icmp .ge 40, 3) := by decide +kernel
theorem dW_soundsAsHeard_13 : decode (xb yyW_soundsAsHeard) 13 = .ok (.aload_n 0, 1) := by decide +kernel
theorem dW_soundsAsHeard_14 : decode (xb yyW_soundsAsHeard) 14 = .ok (.getfield 12, 3) := by decide +kernel
theorem dW_soundsAsHeard_17 : decode (xb yyW_soundsAsHeard) 17 = .ok (.iload_n 1, 1) := by decide +kernel
theorem dW_soundsAsHeard_18 : decode (xb yyW_soundsAsHeard) 18 = .ok (.aload_n 0, 1) := by decide +kernel
theorem dW_soundsAsHeard_19 : decode (xb yyW_soundsAsHeard) 19 = .ok (.getfield 33, 3) := by decide +kernel
theorem dW_soundsAsHeard_22 : decode (xb yyW_soundsAsHeard) 22 = .ok (.iload_n 2, 1) := by decide +kernel
theorem dW_soundsAsHeard_23 : decode (xb yyW_soundsAsHeard) 23 = .ok (.iconst 0, 1) := by decide +kernel
theorem dW_soundsAsHeard_24 : decode (xb yyW_soundsAsHeard) 24 = .ok (.invokevirtual 103, 3) := by decide +kernel
theorem dW_soundsAsHeard_27 : decode (xb yyW_soundsAsHeard) 27 = .ok (.invokevirtual 100, 3) := by decide +kernel
theorem dW_soundsAsHeard_30 : decode (xb yyW_soundsAsHeard) 30 = .ok (.aload_n 0, 1) := by decide +kernel
theorem dW_soundsAsHeard_31 : decode (xb yyW_soundsAsHeard) 31 = .ok (.getfield 33, 3) := by decide +kernel
theorem dW_soundsAsHeard_34 : decode (xb yyW_soundsAsHeard) 34 = .ok (.iload_n 2, 1) := by decide +kernel
theorem dW_soundsAsHeard_35 : decode (xb yyW_soundsAsHeard) 35 = .ok (.iconst 1, 1) := by decide +kernel
theorem dW_soundsAsHeard_36 : decode (xb yyW_soundsAsHeard) 36 = .ok (.invokevirtual 103, 3) := by decide +kernel
theorem dW_soundsAsHeard_39 : decode (xb yyW_soundsAsHeard) 39 = .ok (.if_icmp .eq 5, 3) := by decide +kernel
theorem dW_soundsAsHeard_42 : decode (xb yyW_soundsAsHeard) 42 = .ok (.iconst 0, 1) := by decide +kernel
theorem dW_soundsAsHeard_43 : decode (xb yyW_soundsAsHeard) 43 = .ok (.ireturn, 1) := by decide +kernel
theorem dW_soundsAsHeard_44 : decode (xb yyW_soundsAsHeard) 44 = .ok (.iinc 2 1, 3) := by decide +kernel
theorem dW_soundsAsHeard_47 : decode (xb yyW_soundsAsHeard) 47 = .ok (.goto (-45), 3) := by decide +kernel
theorem dW_soundsAsHeard_50 : decode (xb yyW_soundsAsHeard) 50 = .ok (.iconst 1, 1) := by decide +kernel
theorem dW_soundsAsHeard_51 : decode (xb yyW_soundsAsHeard) 51 = .ok (.ireturn, 1) := by decide +kernel
def fW_soundsAsHeard_l2 (t : Nat) (m : xM) : Nat → Int32 → Int32 → Option (Int32)
  | 0, _, _ => none
  | n + 1, v1, v2 => (fT_many (7 * t + 4) m).bind fun r7 => (if r7 ≤ v2 then some (xnb (1 : Int32)) else (fT_get (7 * t + 4) m v2 (0 : Int32)).bind fun r24 => (fB_soundOf t m v1 r24).bind fun r27 => (fT_get (7 * t + 4) m v2 (1 : Int32)).bind fun r36 => (if r27 = r36 then fW_soundsAsHeard_l2 t m n v1 (v2 + 1) else some (xnb (0 : Int32))))
def fW_soundsAsHeard (t : Nat) (m : xM) (v1 : Int32) : Option (Int32) := fW_soundsAsHeard_l2 t m xfu v1 (0 : Int32)
set_option maxRecDepth 100000 in
set_option maxHeartbeats 4000000 in
theorem kW_soundsAsHeard_l2 (G : xG) (t : Nat) (ht : t < 4) (z : xM) (m : xM)   : ∀ (n : Nat) (v1 : Int32) (v2 : Int32), xR G yyW_soundsAsHeard (emi (m, z)) 2 [(0, .ref (xa G (77 + t))), (1, .int v1), (2, .int v2)] [] (m, z) (fW_soundsAsHeard_l2 t m n v1 v2) := by
  intro n
  induction n with
  | zero =>
    intro v1 v2
    rw [fW_soundsAsHeard_l2]
    exact xR_none
  | succ n ih =>
    intro v1 v2
    rw [fW_soundsAsHeard_l2]
    refine xR_iln 2 2 dW_soundsAsHeard_2 rfl rfl ?_
    refine xR_aln 3 0 dW_soundsAsHeard_3 rfl rfl ?_
    refine xR_getf 4 xcf5 4 (77 + t) (by decide) (xk_W ht) (xC_twn ht) (v := .ref (xa G (36 + (7 * t + 4)))) rfl fl_RX6_33 dW_soundsAsHeard_4 ?_
    refine xR_callVi 7 cv_T_many ml_RX6_64 ⟨Nat.le_of_ble_eq_true rfl, Nat.le_of_ble_eq_true rfl⟩ xcf3 rfl (36 + (7 * t + 4)) (xk_T (xtw_lt ht (by decide))) (xC_tab (xtw_lt ht (by decide))) [] rfl rfl (Nat.le_of_ble_eq_true rfl) dW_soundsAsHeard_7 (kT_many G (7 * t + 4) (xtw_lt ht (by decide)) z m) (fun r7 => ?_)
    refine xR_icge 10 50 dW_soundsAsHeard_10 (by decide) ?_ ?_
    · refine xR_ic 50 (1 : Int32) dW_soundsAsHeard_50 (by decide) ?_
      exact xR_zret 51 rfl rfl dW_soundsAsHeard_51
    · refine xR_aln 13 0 dW_soundsAsHeard_13 rfl rfl ?_
      refine xR_getf 14 xcf5 0 (77 + t) (by decide) (xk_W ht) (xC_twn ht) (v := .ref (xa G (72 + t))) rfl fl_RX6_12 dW_soundsAsHeard_14 ?_
      refine xR_iln 17 1 dW_soundsAsHeard_17 rfl rfl ?_
      refine xR_aln 18 0 dW_soundsAsHeard_18 rfl rfl ?_
      refine xR_getf 19 xcf5 4 (77 + t) (by decide) (xk_W ht) (xC_twn ht) (v := .ref (xa G (36 + (7 * t + 4)))) rfl fl_RX6_33 dW_soundsAsHeard_19 ?_
      refine xR_iln 22 2 dW_soundsAsHeard_22 rfl rfl ?_
      refine xR_ic 23 (0 : Int32) dW_soundsAsHeard_23 (by decide) ?_
      refine xR_callVi 24 cv_T_get ml_RX6_103 ⟨Nat.le_of_ble_eq_true rfl, Nat.le_of_ble_eq_true rfl⟩ xcf3 rfl (36 + (7 * t + 4)) (xk_T (xtw_lt ht (by decide))) (xC_tab (xtw_lt ht (by decide))) [.int v2, .int (0 : Int32)] rfl rfl (Nat.le_of_ble_eq_true rfl) dW_soundsAsHeard_24 (kT_get G (7 * t + 4) (xtw_lt ht (by decide)) z m v2 (0 : Int32)) (fun r24 => ?_)
      refine xR_callVi 27 cv_B_soundOf ml_RX6_100 ⟨Nat.le_of_ble_eq_true rfl, Nat.le_of_ble_eq_true rfl⟩ xcf0 rfl (72 + t) (xk_B (Nat.lt_of_lt_of_le ht (by decide))) (xC_brd (Nat.lt_of_lt_of_le ht (by decide))) [.int v1, .int r24] rfl rfl (Nat.le_of_ble_eq_true rfl) dW_soundsAsHeard_27 (kB_soundOf G t (Nat.lt_of_lt_of_le ht (by decide)) z m v1 r24) (fun r27 => ?_)
      refine xR_aln 30 0 dW_soundsAsHeard_30 rfl rfl ?_
      refine xR_getf 31 xcf5 4 (77 + t) (by decide) (xk_W ht) (xC_twn ht) (v := .ref (xa G (36 + (7 * t + 4)))) rfl fl_RX6_33 dW_soundsAsHeard_31 ?_
      refine xR_iln 34 2 dW_soundsAsHeard_34 rfl rfl ?_
      refine xR_ic 35 (1 : Int32) dW_soundsAsHeard_35 (by decide) ?_
      refine xR_callVi 36 cv_T_get ml_RX6_103 ⟨Nat.le_of_ble_eq_true rfl, Nat.le_of_ble_eq_true rfl⟩ xcf3 rfl (36 + (7 * t + 4)) (xk_T (xtw_lt ht (by decide))) (xC_tab (xtw_lt ht (by decide))) [.int v2, .int (1 : Int32)] rfl rfl (Nat.le_of_ble_eq_true rfl) dW_soundsAsHeard_36 (kT_get G (7 * t + 4) (xtw_lt ht (by decide)) z m v2 (1 : Int32)) (fun r36 => ?_)
      refine xR_iceq 39 44 dW_soundsAsHeard_39 (by decide) ?_ ?_
      · refine xR_iinc 44 2 (v2 + 1) ([(2, .int (v2 + 1)), (0, .ref (xa G (77 + t))), (1, .int v1)]) dW_soundsAsHeard_44 rfl rfl (by decide) rfl ?_
        refine xR_goto 47 2 dW_soundsAsHeard_47 (by decide) ?_
        exact xR_sub [1, 2, 0] rfl (ih v1 (v2 + 1))
      · refine xR_ic 42 (0 : Int32) dW_soundsAsHeard_42 (by decide) ?_
        exact xR_zret 43 rfl rfl dW_soundsAsHeard_43
set_option maxRecDepth 100000 in
set_option maxHeartbeats 4000000 in
theorem kW_soundsAsHeard (G : xG) (t : Nat) (ht : t < 4) (z : xM) (m : xM) (v1 : Int32) : ∀ a, fW_soundsAsHeard t m v1 = some a → xCt G yyW_soundsAsHeard [.ref (xa G (77 + t)), .int v1] (m, z) (some (.int a)) (m, z) := by
  refine xR_ct (em := (emi (m, z))) rfl (Nat.le_of_ble_eq_true rfl) ?_
  show xR G yyW_soundsAsHeard _ 0 [(0, .ref (xa G (77 + t))), (1, .int v1)] [] _ _
  unfold fW_soundsAsHeard
  refine xR_ic 0 (0 : Int32) dW_soundsAsHeard_0 (by decide) ?_
  refine xR_isn 1 ([(2, .int (0 : Int32)), (0, .ref (xa G (77 + t))), (1, .int v1)]) dW_soundsAsHeard_1 rfl (by decide) rfl ?_
  exact xR_sub [1, 2, 0] rfl (kW_soundsAsHeard_l2 G t ht z m xfu v1 (0 : Int32))
theorem dW_heardBoards_0 : decode (xb yyW_heardBoards) 0 = .ok (.iconst 0, 1) := by decide +kernel
theorem dW_heardBoards_1 : decode (xb yyW_heardBoards) 1 = .ok (.istore_n 1, 1) := by decide +kernel
theorem dW_heardBoards_2 : decode (xb yyW_heardBoards) 2 = .ok (.iconst 0, 1) := by decide +kernel
theorem dW_heardBoards_3 : decode (xb yyW_heardBoards) 3 = .ok (.istore_n 2, 1) := by decide +kernel
theorem dW_heardBoards_4 : decode (xb yyW_heardBoards) 4 = .ok (.iload_n 2, 1) := by decide +kernel
theorem dW_heardBoards_5 : decode (xb yyW_heardBoards) 5 = .ok (.aload_n 0, 1) := by decide +kernel
theorem dW_heardBoards_6 : decode (xb yyW_heardBoards) 6 = .ok (.getfield 12, 3) := by decide +kernel
theorem dW_heardBoards_9 : decode (xb yyW_heardBoards) 9 = .ok (.invokevirtual 91, 3) := by decide +kernel
theorem dW_heardBoards_12 : decode (xb yyW_heardBoards) 12 = .ok (.if_icmp .ge 23, 3) := by decide +kernel
theorem dW_heardBoards_15 : decode (xb yyW_heardBoards) 15 = .ok (.aload_n 0, 1) := by decide +kernel
theorem dW_heardBoards_16 : decode (xb yyW_heardBoards) 16 = .ok (.iload_n 2, 1) := by decide +kernel
theorem dW_heardBoards_17 : decode (xb yyW_heardBoards) 17 = .ok (.invokevirtual 126, 3) := by decide +kernel
theorem dW_heardBoards_20 : decode (xb yyW_heardBoards) 20 = .ok (.ifCond .eq 9, 3) := by decide +kernel
theorem dW_heardBoards_23 : decode (xb yyW_heardBoards) 23 = .ok (.iload_n 1, 1) := by decide +kernel
theorem dW_heardBoards_24 : decode (xb yyW_heardBoards) 24 = .ok (.iconst 1, 1) := by decide +kernel
theorem dW_heardBoards_25 : decode (xb yyW_heardBoards) 25 = .ok (.iload_n 2, 1) := by decide +kernel
theorem dW_heardBoards_26 : decode (xb yyW_heardBoards) 26 = .ok (.ishl, 1) := by decide +kernel
theorem dW_heardBoards_27 : decode (xb yyW_heardBoards) 27 = .ok (.ior, 1) := by decide +kernel
theorem dW_heardBoards_28 : decode (xb yyW_heardBoards) 28 = .ok (.istore_n 1, 1) := by decide +kernel
theorem dW_heardBoards_29 : decode (xb yyW_heardBoards) 29 = .ok (.iinc 2 1, 3) := by decide +kernel
theorem dW_heardBoards_32 : decode (xb yyW_heardBoards) 32 = .ok (.goto (-28), 3) := by decide +kernel
theorem dW_heardBoards_35 : decode (xb yyW_heardBoards) 35 = .ok (.iload_n 1, 1) := by decide +kernel
theorem dW_heardBoards_36 : decode (xb yyW_heardBoards) 36 = .ok (.ireturn, 1) := by decide +kernel
def fW_heardBoards_b29 (t : Nat) (m : xM) (k4 : Int32 → Int32 → Option (Int32)) (v1 : Int32) (v2 : Int32) : Option (Int32) := k4 v1 (v2 + 1)
def fW_heardBoards_l4 (t : Nat) (m : xM) : Nat → Int32 → Int32 → Option (Int32)
  | 0, _, _ => none
  | n + 1, v1, v2 => (fB_many t m).bind fun r9 => (if r9 ≤ v2 then some v1 else (fW_soundsAsHeard t m v2).bind fun r17 => (if r17 = 0 then fW_heardBoards_b29 t m (fW_heardBoards_l4 t m n) v1 v2 else fW_heardBoards_b29 t m (fW_heardBoards_l4 t m n) (v1 ||| ((1 : Int32) <<< (v2 &&& 31))) v2))
def fW_heardBoards (t : Nat) (m : xM) : Option (Int32) := fW_heardBoards_l4 t m xfu (0 : Int32) (0 : Int32)
set_option maxRecDepth 100000 in
set_option maxHeartbeats 4000000 in
theorem kW_heardBoards_b29 (G : xG) (t : Nat) (ht : t < 4) (z : xM) (m : xM) (k4 : Int32 → Int32 → Option (Int32)) (hk4 : ∀ (v1 : Int32) (v2 : Int32), xR G yyW_heardBoards (emi (m, z)) 4 [(0, .ref (xa G (77 + t))), (1, .int v1), (2, .int v2)] [] (m, z) (k4 v1 v2)) (v1 : Int32) (v2 : Int32) : xR G yyW_heardBoards (emi (m, z)) 29 [(0, .ref (xa G (77 + t))), (1, .int v1), (2, .int v2)] [] (m, z) (fW_heardBoards_b29 t m k4 v1 v2) := by
  unfold fW_heardBoards_b29
  refine xR_iinc 29 2 (v2 + 1) ([(2, .int (v2 + 1)), (0, .ref (xa G (77 + t))), (1, .int v1)]) dW_heardBoards_29 rfl rfl (by decide) rfl ?_
  refine xR_goto 32 4 dW_heardBoards_32 (by decide) ?_
  exact xR_sub [1, 2, 0] rfl (hk4 v1 (v2 + 1))
set_option maxRecDepth 100000 in
set_option maxHeartbeats 4000000 in
theorem kW_heardBoards_l4 (G : xG) (t : Nat) (ht : t < 4) (z : xM) (m : xM)   : ∀ (n : Nat) (v1 : Int32) (v2 : Int32), xR G yyW_heardBoards (emi (m, z)) 4 [(0, .ref (xa G (77 + t))), (1, .int v1), (2, .int v2)] [] (m, z) (fW_heardBoards_l4 t m n v1 v2) := by
  intro n
  induction n with
  | zero =>
    intro v1 v2
    rw [fW_heardBoards_l4]
    exact xR_none
  | succ n ih =>
    intro v1 v2
    rw [fW_heardBoards_l4]
    refine xR_iln 4 2 dW_heardBoards_4 rfl rfl ?_
    refine xR_aln 5 0 dW_heardBoards_5 rfl rfl ?_
    refine xR_getf 6 xcf5 0 (77 + t) (by decide) (xk_W ht) (xC_twn ht) (v := .ref (xa G (72 + t))) rfl fl_RX6_12 dW_heardBoards_6 ?_
    refine xR_callVi 9 cv_B_many ml_RX6_91 ⟨Nat.le_of_ble_eq_true rfl, Nat.le_of_ble_eq_true rfl⟩ xcf0 rfl (72 + t) (xk_B (Nat.lt_of_lt_of_le ht (by decide))) (xC_brd (Nat.lt_of_lt_of_le ht (by decide))) [] rfl rfl (Nat.le_of_ble_eq_true rfl) dW_heardBoards_9 (kB_many G t (Nat.lt_of_lt_of_le ht (by decide)) z m) (fun r9 => ?_)
    refine xR_icge 12 35 dW_heardBoards_12 (by decide) ?_ ?_
    · refine xR_iln 35 1 dW_heardBoards_35 rfl rfl ?_
      exact xR_iret 36 rfl rfl dW_heardBoards_36
    · refine xR_aln 15 0 dW_heardBoards_15 rfl rfl ?_
      refine xR_iln 16 2 dW_heardBoards_16 rfl rfl ?_
      refine xR_callVi 17 cv_W_soundsAsHeard ml_RX6_126 ⟨Nat.le_of_ble_eq_true rfl, Nat.le_of_ble_eq_true rfl⟩ xcf5 rfl (77 + t) (xk_W ht) (xC_twn ht) [.int v2] rfl rfl (Nat.le_of_ble_eq_true rfl) dW_heardBoards_17 (kW_soundsAsHeard G t ht z m v2) (fun r17 => ?_)
      refine xR_ifeq 20 29 dW_heardBoards_20 (by decide) ?_ ?_
      · exact kW_heardBoards_b29 G t ht z m (fW_heardBoards_l4 t m n) ih v1 v2
      · refine xR_iln 23 1 dW_heardBoards_23 rfl rfl ?_
        refine xR_ic 24 (1 : Int32) dW_heardBoards_24 (by decide) ?_
        refine xR_iln 25 2 dW_heardBoards_25 rfl rfl ?_
        refine xR_ishl 26 dW_heardBoards_26 ?_
        refine xR_ior 27 dW_heardBoards_27 ?_
        refine xR_isn 28 ([(1, .int (v1 ||| ((1 : Int32) <<< (v2 &&& 31)))), (0, .ref (xa G (77 + t))), (2, .int v2)]) dW_heardBoards_28 rfl (by decide) rfl ?_
        exact xR_sub [1, 0, 2] rfl (kW_heardBoards_b29 G t ht z m (fW_heardBoards_l4 t m n) ih (v1 ||| ((1 : Int32) <<< (v2 &&& 31))) v2)
set_option maxRecDepth 100000 in
set_option maxHeartbeats 4000000 in
theorem kW_heardBoards (G : xG) (t : Nat) (ht : t < 4) (z : xM) (m : xM) : ∀ a, fW_heardBoards t m  = some a → xCt G yyW_heardBoards [.ref (xa G (77 + t))] (m, z) (some (.int a)) (m, z) := by
  refine xR_ct (em := (emi (m, z))) rfl (Nat.le_of_ble_eq_true rfl) ?_
  show xR G yyW_heardBoards _ 0 [(0, .ref (xa G (77 + t)))] [] _ _
  unfold fW_heardBoards
  refine xR_ic 0 (0 : Int32) dW_heardBoards_0 (by decide) ?_
  refine xR_isn 1 ([(1, .int (0 : Int32)), (0, .ref (xa G (77 + t)))]) dW_heardBoards_1 rfl (by decide) rfl ?_
  refine xR_ic 2 (0 : Int32) dW_heardBoards_2 (by decide) ?_
  refine xR_isn 3 ([(2, .int (0 : Int32)), (1, .int (0 : Int32)), (0, .ref (xa G (77 + t)))]) dW_heardBoards_3 rfl (by decide) rfl ?_
  exact xR_sub [2, 1, 0] rfl (kW_heardBoards_l4 G t ht z m xfu (0 : Int32) (0 : Int32))
theorem dW_soundsAsNoted_0 : decode (xb yyW_soundsAsNoted) 0 = .ok (.iconst 0, 1) := by decide +kernel
theorem dW_soundsAsNoted_1 : decode (xb yyW_soundsAsNoted) 1 = .ok (.istore_n 3, 1) := by decide +kernel
theorem dW_soundsAsNoted_2 : decode (xb yyW_soundsAsNoted) 2 = .ok (.iload_n 3, 1) := by decide +kernel
theorem dW_soundsAsNoted_3 : decode (xb yyW_soundsAsNoted) 3 = .ok (.aload_n 0, 1) := by decide +kernel
theorem dW_soundsAsNoted_4 : decode (xb yyW_soundsAsNoted) 4 = .ok (.getfield 36, 3) := by decide +kernel
theorem dW_soundsAsNoted_7 : decode (xb yyW_soundsAsNoted) 7 = .ok (.invokevirtual 64, 3) := by decide +kernel
theorem dW_soundsAsNoted_10 : decode (xb yyW_soundsAsNoted) 10 = .ok (.if_icmp .ge 71, 3) := by decide +kernel
theorem dW_soundsAsNoted_13 : decode (xb yyW_soundsAsNoted) 13 = .ok (.iload_n 1, 1) := by decide +kernel
theorem dW_soundsAsNoted_14 : decode (xb yyW_soundsAsNoted) 14 = .ok (.aload_n 0, 1) := by decide +kernel
theorem dW_soundsAsNoted_15 : decode (xb yyW_soundsAsNoted) 15 = .ok (.getfield 36, 3) := by decide +kernel
theorem dW_soundsAsNoted_18 : decode (xb yyW_soundsAsNoted) 18 = .ok (.iload_n 3, 1) := by decide +kernel
theorem dW_soundsAsNoted_19 : decode (xb yyW_soundsAsNoted) 19 = .ok (.iconst 3, 1) := by decide +kernel
theorem dW_soundsAsNoted_20 : decode (xb yyW_soundsAsNoted) 20 = .ok (.invokevirtual 103, 3) := by decide +kernel
theorem dW_soundsAsNoted_23 : decode (xb yyW_soundsAsNoted) 23 = .ok (.aload_n 0, 1) := by decide +kernel
theorem dW_soundsAsNoted_24 : decode (xb yyW_soundsAsNoted) 24 = .ok (.getfield 36, 3) := by decide +kernel
theorem dW_soundsAsNoted_27 : decode (xb yyW_soundsAsNoted) 27 = .ok (.iload_n 3, 1) := by decide +kernel
theorem dW_soundsAsNoted_28 : decode (xb yyW_soundsAsNoted) 28 = .ok (.iconst 1, 1) := by decide +kernel
theorem dW_soundsAsNoted_29 : decode (xb yyW_soundsAsNoted) 29 = .ok (.invokevirtual 103, 3) := by decide +kernel
theorem dW_soundsAsNoted_32 : decode (xb yyW_soundsAsNoted) 32 = .ok (.aload_n 0, 1) := by decide +kernel
theorem dW_soundsAsNoted_33 : decode (xb yyW_soundsAsNoted) 33 = .ok (.getfield 36, 3) := by decide +kernel
theorem dW_soundsAsNoted_36 : decode (xb yyW_soundsAsNoted) 36 = .ok (.iload_n 3, 1) := by decide +kernel
theorem dW_soundsAsNoted_37 : decode (xb yyW_soundsAsNoted) 37 = .ok (.iconst 2, 1) := by decide +kernel
theorem dW_soundsAsNoted_38 : decode (xb yyW_soundsAsNoted) 38 = .ok (.invokevirtual 103, 3) := by decide +kernel
theorem dW_soundsAsNoted_41 : decode (xb yyW_soundsAsNoted) 41 = .ok (.invokestatic 133, 3) := by decide +kernel
theorem dW_soundsAsNoted_44 : decode (xb yyW_soundsAsNoted) 44 = .ok (.istore 4, 2) := by decide +kernel
theorem dW_soundsAsNoted_46 : decode (xb yyW_soundsAsNoted) 46 = .ok (.aload_n 0, 1) := by decide +kernel
theorem dW_soundsAsNoted_47 : decode (xb yyW_soundsAsNoted) 47 = .ok (.getfield 36, 3) := by decide +kernel
theorem dW_soundsAsNoted_50 : decode (xb yyW_soundsAsNoted) 50 = .ok (.iload_n 3, 1) := by decide +kernel
theorem dW_soundsAsNoted_51 : decode (xb yyW_soundsAsNoted) 51 = .ok (.iconst 0, 1) := by decide +kernel
theorem dW_soundsAsNoted_52 : decode (xb yyW_soundsAsNoted) 52 = .ok (.invokevirtual 103, 3) := by decide +kernel
theorem dW_soundsAsNoted_55 : decode (xb yyW_soundsAsNoted) 55 = .ok (.iload_n 2, 1) := by decide +kernel
theorem dW_soundsAsNoted_56 : decode (xb yyW_soundsAsNoted) 56 = .ok (.if_icmp .ne 19, 3) := by decide +kernel
theorem dW_soundsAsNoted_59 : decode (xb yyW_soundsAsNoted) 59 = .ok (.iload 4, 2) := by decide +kernel
theorem dW_soundsAsNoted_61 : decode (xb yyW_soundsAsNoted) 61 = .ok (.aload_n 0, 1) := by decide +kernel
theorem dW_soundsAsNoted_62 : decode (xb yyW_soundsAsNoted) 62 = .ok (.getfield 36, 3) := by decide +kernel
theorem dW_soundsAsNoted_65 : decode (xb yyW_soundsAsNoted) 65 = .ok (.iload_n 3, 1) := by decide +kernel
theorem dW_soundsAsNoted_66 : decode (xb yyW_soundsAsNoted) 66 = .ok (.iconst 4, 1) := by decide +kernel
theorem dW_soundsAsNoted_67 : decode (xb yyW_soundsAsNoted) 67 = .ok (.invokevirtual 103, 3) := by decide +kernel
theorem dW_soundsAsNoted_70 : decode (xb yyW_soundsAsNoted) 70 = .ok (.if_icmp .eq 5, 3) := by decide +kernel
theorem dW_soundsAsNoted_73 : decode (xb yyW_soundsAsNoted) 73 = .ok (.iconst 0, 1) := by decide +kernel
theorem dW_soundsAsNoted_74 : decode (xb yyW_soundsAsNoted) 74 = .ok (.ireturn, 1) := by decide +kernel
theorem dW_soundsAsNoted_75 : decode (xb yyW_soundsAsNoted) 75 = .ok (.iinc 3 1, 3) := by decide +kernel
theorem dW_soundsAsNoted_78 : decode (xb yyW_soundsAsNoted) 78 = .ok (.goto (-76), 3) := by decide +kernel
theorem dW_soundsAsNoted_81 : decode (xb yyW_soundsAsNoted) 81 = .ok (.iconst 1, 1) := by decide +kernel
theorem dW_soundsAsNoted_82 : decode (xb yyW_soundsAsNoted) 82 = .ok (.ireturn, 1) := by decide +kernel
def fW_soundsAsNoted_b75 (t : Nat) (m : xM) (k2 : Int32 → Int32 → Int32 → Option (Int32)) (v1 : Int32) (v2 : Int32) (v3 : Int32) : Option (Int32) := k2 v1 v2 (v3 + 1)
def fW_soundsAsNoted_l2 (t : Nat) (m : xM) : Nat → Int32 → Int32 → Int32 → Option (Int32)
  | 0, _, _, _ => none
  | n + 1, v1, v2, v3 => (fT_many (7 * t + 5) m).bind fun r7 => (if r7 ≤ v3 then some (xnb (1 : Int32)) else (fT_get (7 * t + 5) m v3 (3 : Int32)).bind fun r20 => (fT_get (7 * t + 5) m v3 (1 : Int32)).bind fun r29 => (fT_get (7 * t + 5) m v3 (2 : Int32)).bind fun r38 => (fD_soundBy v1 r20 r29 r38).bind fun r41 => (fT_get (7 * t + 5) m v3 (0 : Int32)).bind fun r52 => (if r52 = v2 then (fT_get (7 * t + 5) m v3 (4 : Int32)).bind fun r67 => (if r41 = r67 then fW_soundsAsNoted_b75 t m (fW_soundsAsNoted_l2 t m n) v1 v2 v3 else some (xnb (0 : Int32))) else fW_soundsAsNoted_b75 t m (fW_soundsAsNoted_l2 t m n) v1 v2 v3))
def fW_soundsAsNoted (t : Nat) (m : xM) (v1 : Int32) (v2 : Int32) : Option (Int32) := fW_soundsAsNoted_l2 t m xfu v1 v2 (0 : Int32)
set_option maxRecDepth 100000 in
set_option maxHeartbeats 4000000 in
theorem kW_soundsAsNoted_b75 (G : xG) (t : Nat) (ht : t < 4) (z : xM) (m : xM) (k2 : Int32 → Int32 → Int32 → Option (Int32)) (hk2 : ∀ (v1 : Int32) (v2 : Int32) (v3 : Int32), xR G yyW_soundsAsNoted (emi (m, z)) 2 [(0, .ref (xa G (77 + t))), (1, .int v1), (2, .int v2), (3, .int v3)] [] (m, z) (k2 v1 v2 v3)) (v1 : Int32) (v2 : Int32) (v3 : Int32) : xR G yyW_soundsAsNoted (emi (m, z)) 75 [(0, .ref (xa G (77 + t))), (1, .int v1), (2, .int v2), (3, .int v3)] [] (m, z) (fW_soundsAsNoted_b75 t m k2 v1 v2 v3) := by
  unfold fW_soundsAsNoted_b75
  refine xR_iinc 75 3 (v3 + 1) ([(3, .int (v3 + 1)), (0, .ref (xa G (77 + t))), (1, .int v1), (2, .int v2)]) dW_soundsAsNoted_75 rfl rfl (by decide) rfl ?_
  refine xR_goto 78 2 dW_soundsAsNoted_78 (by decide) ?_
  exact xR_sub [1, 2, 3, 0] rfl (hk2 v1 v2 (v3 + 1))
set_option maxRecDepth 100000 in
set_option maxHeartbeats 4000000 in
theorem kW_soundsAsNoted_l2 (G : xG) (t : Nat) (ht : t < 4) (z : xM) (m : xM)   : ∀ (n : Nat) (v1 : Int32) (v2 : Int32) (v3 : Int32), xR G yyW_soundsAsNoted (emi (m, z)) 2 [(0, .ref (xa G (77 + t))), (1, .int v1), (2, .int v2), (3, .int v3)] [] (m, z) (fW_soundsAsNoted_l2 t m n v1 v2 v3) := by
  intro n
  induction n with
  | zero =>
    intro v1 v2 v3
    rw [fW_soundsAsNoted_l2]
    exact xR_none
  | succ n ih =>
    intro v1 v2 v3
    rw [fW_soundsAsNoted_l2]
    refine xR_iln 2 3 dW_soundsAsNoted_2 rfl rfl ?_
    refine xR_aln 3 0 dW_soundsAsNoted_3 rfl rfl ?_
    refine xR_getf 4 xcf5 5 (77 + t) (by decide) (xk_W ht) (xC_twn ht) (v := .ref (xa G (36 + (7 * t + 5)))) rfl fl_RX6_36 dW_soundsAsNoted_4 ?_
    refine xR_callVi 7 cv_T_many ml_RX6_64 ⟨Nat.le_of_ble_eq_true rfl, Nat.le_of_ble_eq_true rfl⟩ xcf3 rfl (36 + (7 * t + 5)) (xk_T (xtw_lt ht (by decide))) (xC_tab (xtw_lt ht (by decide))) [] rfl rfl (Nat.le_of_ble_eq_true rfl) dW_soundsAsNoted_7 (kT_many G (7 * t + 5) (xtw_lt ht (by decide)) z m) (fun r7 => ?_)
    refine xR_icge 10 81 dW_soundsAsNoted_10 (by decide) ?_ ?_
    · refine xR_ic 81 (1 : Int32) dW_soundsAsNoted_81 (by decide) ?_
      exact xR_zret 82 rfl rfl dW_soundsAsNoted_82
    · refine xR_iln 13 1 dW_soundsAsNoted_13 rfl rfl ?_
      refine xR_aln 14 0 dW_soundsAsNoted_14 rfl rfl ?_
      refine xR_getf 15 xcf5 5 (77 + t) (by decide) (xk_W ht) (xC_twn ht) (v := .ref (xa G (36 + (7 * t + 5)))) rfl fl_RX6_36 dW_soundsAsNoted_15 ?_
      refine xR_iln 18 3 dW_soundsAsNoted_18 rfl rfl ?_
      refine xR_ic 19 (3 : Int32) dW_soundsAsNoted_19 (by decide) ?_
      refine xR_callVi 20 cv_T_get ml_RX6_103 ⟨Nat.le_of_ble_eq_true rfl, Nat.le_of_ble_eq_true rfl⟩ xcf3 rfl (36 + (7 * t + 5)) (xk_T (xtw_lt ht (by decide))) (xC_tab (xtw_lt ht (by decide))) [.int v3, .int (3 : Int32)] rfl rfl (Nat.le_of_ble_eq_true rfl) dW_soundsAsNoted_20 (kT_get G (7 * t + 5) (xtw_lt ht (by decide)) z m v3 (3 : Int32)) (fun r20 => ?_)
      refine xR_aln 23 0 dW_soundsAsNoted_23 rfl rfl ?_
      refine xR_getf 24 xcf5 5 (77 + t) (by decide) (xk_W ht) (xC_twn ht) (v := .ref (xa G (36 + (7 * t + 5)))) rfl fl_RX6_36 dW_soundsAsNoted_24 ?_
      refine xR_iln 27 3 dW_soundsAsNoted_27 rfl rfl ?_
      refine xR_ic 28 (1 : Int32) dW_soundsAsNoted_28 (by decide) ?_
      refine xR_callVi 29 cv_T_get ml_RX6_103 ⟨Nat.le_of_ble_eq_true rfl, Nat.le_of_ble_eq_true rfl⟩ xcf3 rfl (36 + (7 * t + 5)) (xk_T (xtw_lt ht (by decide))) (xC_tab (xtw_lt ht (by decide))) [.int v3, .int (1 : Int32)] rfl rfl (Nat.le_of_ble_eq_true rfl) dW_soundsAsNoted_29 (kT_get G (7 * t + 5) (xtw_lt ht (by decide)) z m v3 (1 : Int32)) (fun r29 => ?_)
      refine xR_aln 32 0 dW_soundsAsNoted_32 rfl rfl ?_
      refine xR_getf 33 xcf5 5 (77 + t) (by decide) (xk_W ht) (xC_twn ht) (v := .ref (xa G (36 + (7 * t + 5)))) rfl fl_RX6_36 dW_soundsAsNoted_33 ?_
      refine xR_iln 36 3 dW_soundsAsNoted_36 rfl rfl ?_
      refine xR_ic 37 (2 : Int32) dW_soundsAsNoted_37 (by decide) ?_
      refine xR_callVi 38 cv_T_get ml_RX6_103 ⟨Nat.le_of_ble_eq_true rfl, Nat.le_of_ble_eq_true rfl⟩ xcf3 rfl (36 + (7 * t + 5)) (xk_T (xtw_lt ht (by decide))) (xC_tab (xtw_lt ht (by decide))) [.int v3, .int (2 : Int32)] rfl rfl (Nat.le_of_ble_eq_true rfl) dW_soundsAsNoted_38 (kT_get G (7 * t + 5) (xtw_lt ht (by decide)) z m v3 (2 : Int32)) (fun r38 => ?_)
      refine xR_callSi 41 cs_D_soundBy ml_RX6_133 ⟨Nat.le_of_ble_eq_true rfl, Nat.le_of_ble_eq_true rfl⟩ [.int v1, .int r20, .int r29, .int r38] rfl rfl (Nat.le_of_ble_eq_true rfl) dW_soundsAsNoted_41 (kD_soundBy G (m, z) v1 r20 r29 r38) (fun r41 => ?_)
      refine xR_is 44 ([(4, .int r41), (0, .ref (xa G (77 + t))), (1, .int v1), (2, .int v2), (3, .int v3)]) dW_soundsAsNoted_44 (by decide) rfl ?_
      refine xR_aln 46 1 dW_soundsAsNoted_46 rfl rfl ?_
      refine xR_getf 47 xcf5 5 (77 + t) (by decide) (xk_W ht) (xC_twn ht) (v := .ref (xa G (36 + (7 * t + 5)))) rfl fl_RX6_36 dW_soundsAsNoted_47 ?_
      refine xR_iln 50 4 dW_soundsAsNoted_50 rfl rfl ?_
      refine xR_ic 51 (0 : Int32) dW_soundsAsNoted_51 (by decide) ?_
      refine xR_callVi 52 cv_T_get ml_RX6_103 ⟨Nat.le_of_ble_eq_true rfl, Nat.le_of_ble_eq_true rfl⟩ xcf3 rfl (36 + (7 * t + 5)) (xk_T (xtw_lt ht (by decide))) (xC_tab (xtw_lt ht (by decide))) [.int v3, .int (0 : Int32)] rfl rfl (Nat.le_of_ble_eq_true rfl) dW_soundsAsNoted_52 (kT_get G (7 * t + 5) (xtw_lt ht (by decide)) z m v3 (0 : Int32)) (fun r52 => ?_)
      refine xR_iln 55 3 dW_soundsAsNoted_55 rfl rfl ?_
      refine xR_icne 56 75 dW_soundsAsNoted_56 (by decide) ?_ ?_
      · exact xR_sub [1, 2, 3, 4] rfl (kW_soundsAsNoted_b75 G t ht z m (fW_soundsAsNoted_l2 t m n) ih v1 v2 v3)
      · refine xR_il 59 0 dW_soundsAsNoted_59 rfl ?_
        refine xR_aln 61 1 dW_soundsAsNoted_61 rfl rfl ?_
        refine xR_getf 62 xcf5 5 (77 + t) (by decide) (xk_W ht) (xC_twn ht) (v := .ref (xa G (36 + (7 * t + 5)))) rfl fl_RX6_36 dW_soundsAsNoted_62 ?_
        refine xR_iln 65 4 dW_soundsAsNoted_65 rfl rfl ?_
        refine xR_ic 66 (4 : Int32) dW_soundsAsNoted_66 (by decide) ?_
        refine xR_callVi 67 cv_T_get ml_RX6_103 ⟨Nat.le_of_ble_eq_true rfl, Nat.le_of_ble_eq_true rfl⟩ xcf3 rfl (36 + (7 * t + 5)) (xk_T (xtw_lt ht (by decide))) (xC_tab (xtw_lt ht (by decide))) [.int v3, .int (4 : Int32)] rfl rfl (Nat.le_of_ble_eq_true rfl) dW_soundsAsNoted_67 (kT_get G (7 * t + 5) (xtw_lt ht (by decide)) z m v3 (4 : Int32)) (fun r67 => ?_)
        refine xR_iceq 70 75 dW_soundsAsNoted_70 (by decide) ?_ ?_
        · exact xR_sub [1, 2, 3, 4] rfl (kW_soundsAsNoted_b75 G t ht z m (fW_soundsAsNoted_l2 t m n) ih v1 v2 v3)
        · refine xR_ic 73 (0 : Int32) dW_soundsAsNoted_73 (by decide) ?_
          exact xR_zret 74 rfl rfl dW_soundsAsNoted_74
set_option maxRecDepth 100000 in
set_option maxHeartbeats 4000000 in
theorem kW_soundsAsNoted (G : xG) (t : Nat) (ht : t < 4) (z : xM) (m : xM) (v1 : Int32) (v2 : Int32) : ∀ a, fW_soundsAsNoted t m v1 v2 = some a → xCt G yyW_soundsAsNoted [.ref (xa G (77 + t)), .int v1, .int v2] (m, z) (some (.int a)) (m, z) := by
  refine xR_ct (em := (emi (m, z))) rfl (Nat.le_of_ble_eq_true rfl) ?_
  show xR G yyW_soundsAsNoted _ 0 [(0, .ref (xa G (77 + t))), (1, .int v1), (2, .int v2)] [] _ _
  unfold fW_soundsAsNoted
  refine xR_ic 0 (0 : Int32) dW_soundsAsNoted_0 (by decide) ?_
  refine xR_isn 1 ([(3, .int (0 : Int32)), (0, .ref (xa G (77 + t))), (1, .int v1), (2, .int v2)]) dW_soundsAsNoted_1 rfl (by decide) rfl ?_
  exact xR_sub [1, 2, 3, 0] rfl (kW_soundsAsNoted_l2 G t ht z m xfu v1 v2 (0 : Int32))
theorem dW_notedKinds_0 : decode (xb yyW_notedKinds) 0 = .ok (.iconst 0, 1) := by decide +kernel
theorem dW_notedKinds_1 : decode (xb yyW_notedKinds) 1 = .ok (.istore_n 2, 1) := by decide +kernel
theorem dW_notedKinds_2 : decode (xb yyW_notedKinds) 2 = .ok (.iconst 0, 1) := by decide +kernel
theorem dW_notedKinds_3 : decode (xb yyW_notedKinds) 3 = .ok (.istore_n 3, 1) := by decide +kernel
theorem dW_notedKinds_4 : decode (xb yyW_notedKinds) 4 = .ok (.iload_n 3, 1) := by decide +kernel
theorem dW_notedKinds_5 : decode (xb yyW_notedKinds) 5 = .ok (.bipush 6, 2) := by decide +kernel
theorem dW_notedKinds_7 : decode (xb yyW_notedKinds) 7 = .ok (.if_icmp .ge 24, 3) := by decide +kernel
theorem dW_notedKinds_10 : decode (xb yyW_notedKinds) 10 = .ok (.aload_n 0, 1) := by decide +kernel
theorem dW_notedKinds_11 : decode (xb yyW_notedKinds) 11 = .ok (.iload_n 3, 1) := by decide +kernel
theorem dW_notedKinds_12 : decode (xb yyW_notedKinds) 12 = .ok (.iload_n 1, 1) := by decide +kernel
theorem dW_notedKinds_13 : decode (xb yyW_notedKinds) 13 = .ok (.invokevirtual 130, 3) := by decide +kernel
theorem dW_notedKinds_16 : decode (xb yyW_notedKinds) 16 = .ok (.ifCond .eq 9, 3) := by decide +kernel
theorem dW_notedKinds_19 : decode (xb yyW_notedKinds) 19 = .ok (.iload_n 2, 1) := by decide +kernel
theorem dW_notedKinds_20 : decode (xb yyW_notedKinds) 20 = .ok (.iconst 1, 1) := by decide +kernel
theorem dW_notedKinds_21 : decode (xb yyW_notedKinds) 21 = .ok (.iload_n 3, 1) := by decide +kernel
theorem dW_notedKinds_22 : decode (xb yyW_notedKinds) 22 = .ok (.ishl, 1) := by decide +kernel
theorem dW_notedKinds_23 : decode (xb yyW_notedKinds) 23 = .ok (.ior, 1) := by decide +kernel
theorem dW_notedKinds_24 : decode (xb yyW_notedKinds) 24 = .ok (.istore_n 2, 1) := by decide +kernel
theorem dW_notedKinds_25 : decode (xb yyW_notedKinds) 25 = .ok (.iinc 3 1, 3) := by decide +kernel
theorem dW_notedKinds_28 : decode (xb yyW_notedKinds) 28 = .ok (.goto (-24), 3) := by decide +kernel
theorem dW_notedKinds_31 : decode (xb yyW_notedKinds) 31 = .ok (.iload_n 2, 1) := by decide +kernel
theorem dW_notedKinds_32 : decode (xb yyW_notedKinds) 32 = .ok (.ireturn, 1) := by decide +kernel
def fW_notedKinds_b25 (t : Nat) (m : xM) (k4 : Int32 → Int32 → Int32 → Option (Int32)) (v1 : Int32) (v2 : Int32) (v3 : Int32) : Option (Int32) := k4 v1 v2 (v3 + 1)
def fW_notedKinds_l4 (t : Nat) (m : xM) : Nat → Int32 → Int32 → Int32 → Option (Int32)
  | 0, _, _, _ => none
  | n + 1, v1, v2, v3 => (if (6 : Int32) ≤ v3 then some v2 else (fW_soundsAsNoted t m v3 v1).bind fun r13 => (if r13 = 0 then fW_notedKinds_b25 t m (fW_notedKinds_l4 t m n) v1 v2 v3 else fW_notedKinds_b25 t m (fW_notedKinds_l4 t m n) v1 (v2 ||| ((1 : Int32) <<< (v3 &&& 31))) v3))
def fW_notedKinds (t : Nat) (m : xM) (v1 : Int32) : Option (Int32) := fW_notedKinds_l4 t m xfu v1 (0 : Int32) (0 : Int32)
set_option maxRecDepth 100000 in
set_option maxHeartbeats 4000000 in
theorem kW_notedKinds_b25 (G : xG) (t : Nat) (ht : t < 4) (z : xM) (m : xM) (k4 : Int32 → Int32 → Int32 → Option (Int32)) (hk4 : ∀ (v1 : Int32) (v2 : Int32) (v3 : Int32), xR G yyW_notedKinds (emi (m, z)) 4 [(0, .ref (xa G (77 + t))), (1, .int v1), (2, .int v2), (3, .int v3)] [] (m, z) (k4 v1 v2 v3)) (v1 : Int32) (v2 : Int32) (v3 : Int32) : xR G yyW_notedKinds (emi (m, z)) 25 [(0, .ref (xa G (77 + t))), (1, .int v1), (2, .int v2), (3, .int v3)] [] (m, z) (fW_notedKinds_b25 t m k4 v1 v2 v3) := by
  unfold fW_notedKinds_b25
  refine xR_iinc 25 3 (v3 + 1) ([(3, .int (v3 + 1)), (0, .ref (xa G (77 + t))), (1, .int v1), (2, .int v2)]) dW_notedKinds_25 rfl rfl (by decide) rfl ?_
  refine xR_goto 28 4 dW_notedKinds_28 (by decide) ?_
  exact xR_sub [1, 2, 3, 0] rfl (hk4 v1 v2 (v3 + 1))
set_option maxRecDepth 100000 in
set_option maxHeartbeats 4000000 in
theorem kW_notedKinds_l4 (G : xG) (t : Nat) (ht : t < 4) (z : xM) (m : xM)   : ∀ (n : Nat) (v1 : Int32) (v2 : Int32) (v3 : Int32), xR G yyW_notedKinds (emi (m, z)) 4 [(0, .ref (xa G (77 + t))), (1, .int v1), (2, .int v2), (3, .int v3)] [] (m, z) (fW_notedKinds_l4 t m n v1 v2 v3) := by
  intro n
  induction n with
  | zero =>
    intro v1 v2 v3
    rw [fW_notedKinds_l4]
    exact xR_none
  | succ n ih =>
    intro v1 v2 v3
    rw [fW_notedKinds_l4]
    refine xR_iln 4 3 dW_notedKinds_4 rfl rfl ?_
    refine xR_bp 5 (6 : Int32) dW_notedKinds_5 (by decide) ?_
    refine xR_icge 7 31 dW_notedKinds_7 (by decide) ?_ ?_
    · refine xR_iln 31 2 dW_notedKinds_31 rfl rfl ?_
      exact xR_iret 32 rfl rfl dW_notedKinds_32
    · refine xR_aln 10 0 dW_notedKinds_10 rfl rfl ?_
      refine xR_iln 11 3 dW_notedKinds_11 rfl rfl ?_
      refine xR_iln 12 1 dW_notedKinds_12 rfl rfl ?_
      refine xR_callVi 13 cv_W_soundsAsNoted ml_RX6_130 ⟨Nat.le_of_ble_eq_true rfl, Nat.le_of_ble_eq_true rfl⟩ xcf5 rfl (77 + t) (xk_W ht) (xC_twn ht) [.int v3, .int v1] rfl rfl (Nat.le_of_ble_eq_true rfl) dW_notedKinds_13 (kW_soundsAsNoted G t ht z m v3 v1) (fun r13 => ?_)
      refine xR_ifeq 16 25 dW_notedKinds_16 (by decide) ?_ ?_
      · exact kW_notedKinds_b25 G t ht z m (fW_notedKinds_l4 t m n) ih v1 v2 v3
      · refine xR_iln 19 2 dW_notedKinds_19 rfl rfl ?_
        refine xR_ic 20 (1 : Int32) dW_notedKinds_20 (by decide) ?_
        refine xR_iln 21 3 dW_notedKinds_21 rfl rfl ?_
        refine xR_ishl 22 dW_notedKinds_22 ?_
        refine xR_ior 23 dW_notedKinds_23 ?_
        refine xR_isn 24 ([(2, .int (v2 ||| ((1 : Int32) <<< (v3 &&& 31)))), (0, .ref (xa G (77 + t))), (1, .int v1), (3, .int v3)]) dW_notedKinds_24 rfl (by decide) rfl ?_
        exact xR_sub [1, 2, 0, 3] rfl (kW_notedKinds_b25 G t ht z m (fW_notedKinds_l4 t m n) ih v1 (v2 ||| ((1 : Int32) <<< (v3 &&& 31))) v3)
set_option maxRecDepth 100000 in
set_option maxHeartbeats 4000000 in
theorem kW_notedKinds (G : xG) (t : Nat) (ht : t < 4) (z : xM) (m : xM) (v1 : Int32) : ∀ a, fW_notedKinds t m v1 = some a → xCt G yyW_notedKinds [.ref (xa G (77 + t)), .int v1] (m, z) (some (.int a)) (m, z) := by
  refine xR_ct (em := (emi (m, z))) rfl (Nat.le_of_ble_eq_true rfl) ?_
  show xR G yyW_notedKinds _ 0 [(0, .ref (xa G (77 + t))), (1, .int v1)] [] _ _
  unfold fW_notedKinds
  refine xR_ic 0 (0 : Int32) dW_notedKinds_0 (by decide) ?_
  refine xR_isn 1 ([(2, .int (0 : Int32)), (0, .ref (xa G (77 + t))), (1, .int v1)]) dW_notedKinds_1 rfl (by decide) rfl ?_
  refine xR_ic 2 (0 : Int32) dW_notedKinds_2 (by decide) ?_
  refine xR_isn 3 ([(3, .int (0 : Int32)), (2, .int (0 : Int32)), (0, .ref (xa G (77 + t))), (1, .int v1)]) dW_notedKinds_3 rfl (by decide) rfl ?_
  exact xR_sub [2, 3, 1, 0] rfl (kW_notedKinds_l4 G t ht z m xfu v1 (0 : Int32) (0 : Int32))
theorem dW_playsAsMarked_0 : decode (xb yyW_playsAsMarked) 0 = .ok (.iconst 0, 1) := by decide +kernel
theorem dW_playsAsMarked_1 : decode (xb yyW_playsAsMarked) 1 = .ok (.istore_n 3, 1) := by decide +kernel
theorem dW_playsAsMarked_2 : decode (xb yyW_playsAsMarked) 2 = .ok (.iload_n 3, 1) := by decide +kernel
theorem dW_playsAsMarked_3 : decode (xb yyW_playsAsMarked) 3 = .ok (.aload_n 0, 1) := by decide +kernel
theorem dW_playsAsMarked_4 : decode (xb yyW_playsAsMarked) 4 = .ok (.getfield 39, 3) := by decide +kernel
theorem dW_playsAsMarked_7 : decode (xb yyW_playsAsMarked) 7 = .ok (.invokevirtual 64, 3) := by decide +kernel
theorem dW_playsAsMarked_10 : decode (xb yyW_playsAsMarked) 10 = .ok (.if_icmp .ge 84, 3) := by decide +kernel
theorem dW_playsAsMarked_13 : decode (xb yyW_playsAsMarked) 13 = .ok (.aload_n 0, 1) := by decide +kernel
theorem dW_playsAsMarked_14 : decode (xb yyW_playsAsMarked) 14 = .ok (.getfield 39, 3) := by decide +kernel
theorem dW_playsAsMarked_17 : decode (xb yyW_playsAsMarked) 17 = .ok (.iload_n 3, 1) := by decide +kernel
theorem dW_playsAsMarked_18 : decode (xb yyW_playsAsMarked) 18 = .ok (.iconst 4, 1) := by decide +kernel
theorem dW_playsAsMarked_19 : decode (xb yyW_playsAsMarked) 19 = .ok (.invokevirtual 103, 3) := by decide +kernel
theorem dW_playsAsMarked_22 : decode (xb yyW_playsAsMarked) 22 = .ok (.istore 4, 2) := by decide +kernel
theorem dW_playsAsMarked_24 : decode (xb yyW_playsAsMarked) 24 = .ok (.iload_n 1, 1) := by decide +kernel
theorem dW_playsAsMarked_25 : decode (xb yyW_playsAsMarked) 25 = .ok (.iload 4, 2) := by decide +kernel
theorem dW_playsAsMarked_27 : decode (xb yyW_playsAsMarked) 27 = .ok (.aload_n 0, 1) := by decide +kernel
theorem dW_playsAsMarked_28 : decode (xb yyW_playsAsMarked) 28 = .ok (.getfield 39, 3) := by decide +kernel
theorem dW_playsAsMarked_31 : decode (xb yyW_playsAsMarked) 31 = .ok (.iload_n 3, 1) := by decide +kernel
theorem dW_playsAsMarked_32 : decode (xb yyW_playsAsMarked) 32 = .ok (.iconst 1, 1) := by decide +kernel
theorem dW_playsAsMarked_33 : decode (xb yyW_playsAsMarked) 33 = .ok (.invokevirtual 103, 3) := by decide +kernel
theorem dW_playsAsMarked_36 : decode (xb yyW_playsAsMarked) 36 = .ok (.aload_n 0, 1) := by decide +kernel
theorem dW_playsAsMarked_37 : decode (xb yyW_playsAsMarked) 37 = .ok (.getfield 39, 3) := by decide +kernel
theorem dW_playsAsMarked_40 : decode (xb yyW_playsAsMarked) 40 = .ok (.iload_n 3, 1) := by decide +kernel
theorem dW_playsAsMarked_41 : decode (xb yyW_playsAsMarked) 41 = .ok (.iconst 2, 1) := by decide +kernel
theorem dW_playsAsMarked_42 : decode (xb yyW_playsAsMarked) 42 = .ok (.invokevirtual 103, 3) := by decide +kernel
theorem dW_playsAsMarked_45 : decode (xb yyW_playsAsMarked) 45 = .ok (.aload_n 0, 1) := by decide +kernel
theorem dW_playsAsMarked_46 : decode (xb yyW_playsAsMarked) 46 = .ok (.getfield 39, 3) := by decide +kernel
theorem dW_playsAsMarked_49 : decode (xb yyW_playsAsMarked) 49 = .ok (.iload_n 3, 1) := by decide +kernel
theorem dW_playsAsMarked_50 : decode (xb yyW_playsAsMarked) 50 = .ok (.iconst 3, 1) := by decide +kernel
theorem dW_playsAsMarked_51 : decode (xb yyW_playsAsMarked) 51 = .ok (.invokevirtual 103, 3) := by decide +kernel
theorem dW_playsAsMarked_54 : decode (xb yyW_playsAsMarked) 54 = .ok (.invokestatic 112, 3) := by decide +kernel
theorem dW_playsAsMarked_57 : decode (xb yyW_playsAsMarked) 57 = .ok (.istore 5, 2) := by decide +kernel
theorem dW_playsAsMarked_59 : decode (xb yyW_playsAsMarked) 59 = .ok (.aload_n 0, 1) := by decide +kernel
theorem dW_playsAsMarked_60 : decode (xb yyW_playsAsMarked) 60 = .ok (.getfield 39, 3) := by decide +kernel
theorem dW_playsAsMarked_63 : decode (xb yyW_playsAsMarked) 63 = .ok (.iload_n 3, 1) := by decide +kernel
theorem dW_playsAsMarked_64 : decode (xb yyW_playsAsMarked) 64 = .ok (.iconst 0, 1) := by decide +kernel
theorem dW_playsAsMarked_65 : decode (xb yyW_playsAsMarked) 65 = .ok (.invokevirtual 103, 3) := by decide +kernel
theorem dW_playsAsMarked_68 : decode (xb yyW_playsAsMarked) 68 = .ok (.iload_n 2, 1) := by decide +kernel
theorem dW_playsAsMarked_69 : decode (xb yyW_playsAsMarked) 69 = .ok (.if_icmp .ne 19, 3) := by decide +kernel
theorem dW_playsAsMarked_72 : decode (xb yyW_playsAsMarked) 72 = .ok (.iload 5, 2) := by decide +kernel
theorem dW_playsAsMarked_74 : decode (xb yyW_playsAsMarked) 74 = .ok (.aload_n 0, 1) := by decide +kernel
theorem dW_playsAsMarked_75 : decode (xb yyW_playsAsMarked) 75 = .ok (.getfield 39, 3) := by decide +kernel
theorem dW_playsAsMarked_78 : decode (xb yyW_playsAsMarked) 78 = .ok (.iload_n 3, 1) := by decide +kernel
theorem dW_playsAsMarked_79 : decode (xb yyW_playsAsMarked) 79 = .ok (.iconst 5, 1) := by decide +kernel
theorem dW_playsAsMarked_80 : decode (xb yyW_playsAsMarked) 80 = .ok (.invokevirtual 103, 3) := by decide +kernel
theorem dW_playsAsMarked_83 : decode (xb yyW_playsAsMarked) 83 = .ok (.if_icmp .eq 5, 3) := by decide +kernel
theorem dW_playsAsMarked_86 : decode (xb yyW_playsAsMarked) 86 = .ok (.iconst 0, 1) := by decide +kernel
theorem dW_playsAsMarked_87 : decode (xb yyW_playsAsMarked) 87 = .ok (.ireturn, 1) := by decide +kernel
theorem dW_playsAsMarked_88 : decode (xb yyW_playsAsMarked) 88 = .ok (.iinc 3 1, 3) := by decide +kernel
theorem dW_playsAsMarked_91 : decode (xb yyW_playsAsMarked) 91 = .ok (.goto (-89), 3) := by decide +kernel
theorem dW_playsAsMarked_94 : decode (xb yyW_playsAsMarked) 94 = .ok (.iconst 1, 1) := by decide +kernel
theorem dW_playsAsMarked_95 : decode (xb yyW_playsAsMarked) 95 = .ok (.ireturn, 1) := by decide +kernel
def fW_playsAsMarked_b88 (t : Nat) (m : xM) (k2 : Int32 → Int32 → Int32 → Option (Int32)) (v1 : Int32) (v2 : Int32) (v3 : Int32) : Option (Int32) := k2 v1 v2 (v3 + 1)
def fW_playsAsMarked_l2 (t : Nat) (m : xM) : Nat → Int32 → Int32 → Int32 → Option (Int32)
  | 0, _, _, _ => none
  | n + 1, v1, v2, v3 => (fT_many (7 * t + 6) m).bind fun r7 => (if r7 ≤ v3 then some (xnb (1 : Int32)) else (fT_get (7 * t + 6) m v3 (4 : Int32)).bind fun r19 => (fT_get (7 * t + 6) m v3 (1 : Int32)).bind fun r33 => (fT_get (7 * t + 6) m v3 (2 : Int32)).bind fun r42 => (fT_get (7 * t + 6) m v3 (3 : Int32)).bind fun r51 => (fS_playBy v1 r19 r33 r42 r51).bind fun r54 => (fT_get (7 * t + 6) m v3 (0 : Int32)).bind fun r65 => (if r65 = v2 then (fT_get (7 * t + 6) m v3 (5 : Int32)).bind fun r80 => (if r54 = r80 then fW_playsAsMarked_b88 t m (fW_playsAsMarked_l2 t m n) v1 v2 v3 else some (xnb (0 : Int32))) else fW_playsAsMarked_b88 t m (fW_playsAsMarked_l2 t m n) v1 v2 v3))
def fW_playsAsMarked (t : Nat) (m : xM) (v1 : Int32) (v2 : Int32) : Option (Int32) := fW_playsAsMarked_l2 t m xfu v1 v2 (0 : Int32)
set_option maxRecDepth 100000 in
set_option maxHeartbeats 4000000 in
theorem kW_playsAsMarked_b88 (G : xG) (t : Nat) (ht : t < 4) (z : xM) (m : xM) (k2 : Int32 → Int32 → Int32 → Option (Int32)) (hk2 : ∀ (v1 : Int32) (v2 : Int32) (v3 : Int32), xR G yyW_playsAsMarked (emi (m, z)) 2 [(0, .ref (xa G (77 + t))), (1, .int v1), (2, .int v2), (3, .int v3)] [] (m, z) (k2 v1 v2 v3)) (v1 : Int32) (v2 : Int32) (v3 : Int32) : xR G yyW_playsAsMarked (emi (m, z)) 88 [(0, .ref (xa G (77 + t))), (1, .int v1), (2, .int v2), (3, .int v3)] [] (m, z) (fW_playsAsMarked_b88 t m k2 v1 v2 v3) := by
  unfold fW_playsAsMarked_b88
  refine xR_iinc 88 3 (v3 + 1) ([(3, .int (v3 + 1)), (0, .ref (xa G (77 + t))), (1, .int v1), (2, .int v2)]) dW_playsAsMarked_88 rfl rfl (by decide) rfl ?_
  refine xR_goto 91 2 dW_playsAsMarked_91 (by decide) ?_
  exact xR_sub [1, 2, 3, 0] rfl (hk2 v1 v2 (v3 + 1))
set_option maxRecDepth 100000 in
set_option maxHeartbeats 4000000 in
theorem kW_playsAsMarked_l2 (G : xG) (t : Nat) (ht : t < 4) (z : xM) (m : xM)   : ∀ (n : Nat) (v1 : Int32) (v2 : Int32) (v3 : Int32), xR G yyW_playsAsMarked (emi (m, z)) 2 [(0, .ref (xa G (77 + t))), (1, .int v1), (2, .int v2), (3, .int v3)] [] (m, z) (fW_playsAsMarked_l2 t m n v1 v2 v3) := by
  intro n
  induction n with
  | zero =>
    intro v1 v2 v3
    rw [fW_playsAsMarked_l2]
    exact xR_none
  | succ n ih =>
    intro v1 v2 v3
    rw [fW_playsAsMarked_l2]
    refine xR_iln 2 3 dW_playsAsMarked_2 rfl rfl ?_
    refine xR_aln 3 0 dW_playsAsMarked_3 rfl rfl ?_
    refine xR_getf 4 xcf5 6 (77 + t) (by decide) (xk_W ht) (xC_twn ht) (v := .ref (xa G (36 + (7 * t + 6)))) rfl fl_RX6_39 dW_playsAsMarked_4 ?_
    refine xR_callVi 7 cv_T_many ml_RX6_64 ⟨Nat.le_of_ble_eq_true rfl, Nat.le_of_ble_eq_true rfl⟩ xcf3 rfl (36 + (7 * t + 6)) (xk_T (xtw_lt ht (by decide))) (xC_tab (xtw_lt ht (by decide))) [] rfl rfl (Nat.le_of_ble_eq_true rfl) dW_playsAsMarked_7 (kT_many G (7 * t + 6) (xtw_lt ht (by decide)) z m) (fun r7 => ?_)
    refine xR_icge 10 94 dW_playsAsMarked_10 (by decide) ?_ ?_
    · refine xR_ic 94 (1 : Int32) dW_playsAsMarked_94 (by decide) ?_
      exact xR_zret 95 rfl rfl dW_playsAsMarked_95
    · refine xR_aln 13 0 dW_playsAsMarked_13 rfl rfl ?_
      refine xR_getf 14 xcf5 6 (77 + t) (by decide) (xk_W ht) (xC_twn ht) (v := .ref (xa G (36 + (7 * t + 6)))) rfl fl_RX6_39 dW_playsAsMarked_14 ?_
      refine xR_iln 17 3 dW_playsAsMarked_17 rfl rfl ?_
      refine xR_ic 18 (4 : Int32) dW_playsAsMarked_18 (by decide) ?_
      refine xR_callVi 19 cv_T_get ml_RX6_103 ⟨Nat.le_of_ble_eq_true rfl, Nat.le_of_ble_eq_true rfl⟩ xcf3 rfl (36 + (7 * t + 6)) (xk_T (xtw_lt ht (by decide))) (xC_tab (xtw_lt ht (by decide))) [.int v3, .int (4 : Int32)] rfl rfl (Nat.le_of_ble_eq_true rfl) dW_playsAsMarked_19 (kT_get G (7 * t + 6) (xtw_lt ht (by decide)) z m v3 (4 : Int32)) (fun r19 => ?_)
      refine xR_is 22 ([(4, .int r19), (0, .ref (xa G (77 + t))), (1, .int v1), (2, .int v2), (3, .int v3)]) dW_playsAsMarked_22 (by decide) rfl ?_
      refine xR_iln 24 2 dW_playsAsMarked_24 rfl rfl ?_
      refine xR_il 25 0 dW_playsAsMarked_25 rfl ?_
      refine xR_aln 27 1 dW_playsAsMarked_27 rfl rfl ?_
      refine xR_getf 28 xcf5 6 (77 + t) (by decide) (xk_W ht) (xC_twn ht) (v := .ref (xa G (36 + (7 * t + 6)))) rfl fl_RX6_39 dW_playsAsMarked_28 ?_
      refine xR_iln 31 4 dW_playsAsMarked_31 rfl rfl ?_
      refine xR_ic 32 (1 : Int32) dW_playsAsMarked_32 (by decide) ?_
      refine xR_callVi 33 cv_T_get ml_RX6_103 ⟨Nat.le_of_ble_eq_true rfl, Nat.le_of_ble_eq_true rfl⟩ xcf3 rfl (36 + (7 * t + 6)) (xk_T (xtw_lt ht (by decide))) (xC_tab (xtw_lt ht (by decide))) [.int v3, .int (1 : Int32)] rfl rfl (Nat.le_of_ble_eq_true rfl) dW_playsAsMarked_33 (kT_get G (7 * t + 6) (xtw_lt ht (by decide)) z m v3 (1 : Int32)) (fun r33 => ?_)
      refine xR_aln 36 1 dW_playsAsMarked_36 rfl rfl ?_
      refine xR_getf 37 xcf5 6 (77 + t) (by decide) (xk_W ht) (xC_twn ht) (v := .ref (xa G (36 + (7 * t + 6)))) rfl fl_RX6_39 dW_playsAsMarked_37 ?_
      refine xR_iln 40 4 dW_playsAsMarked_40 rfl rfl ?_
      refine xR_ic 41 (2 : Int32) dW_playsAsMarked_41 (by decide) ?_
      refine xR_callVi 42 cv_T_get ml_RX6_103 ⟨Nat.le_of_ble_eq_true rfl, Nat.le_of_ble_eq_true rfl⟩ xcf3 rfl (36 + (7 * t + 6)) (xk_T (xtw_lt ht (by decide))) (xC_tab (xtw_lt ht (by decide))) [.int v3, .int (2 : Int32)] rfl rfl (Nat.le_of_ble_eq_true rfl) dW_playsAsMarked_42 (kT_get G (7 * t + 6) (xtw_lt ht (by decide)) z m v3 (2 : Int32)) (fun r42 => ?_)
      refine xR_aln 45 1 dW_playsAsMarked_45 rfl rfl ?_
      refine xR_getf 46 xcf5 6 (77 + t) (by decide) (xk_W ht) (xC_twn ht) (v := .ref (xa G (36 + (7 * t + 6)))) rfl fl_RX6_39 dW_playsAsMarked_46 ?_
      refine xR_iln 49 4 dW_playsAsMarked_49 rfl rfl ?_
      refine xR_ic 50 (3 : Int32) dW_playsAsMarked_50 (by decide) ?_
      refine xR_callVi 51 cv_T_get ml_RX6_103 ⟨Nat.le_of_ble_eq_true rfl, Nat.le_of_ble_eq_true rfl⟩ xcf3 rfl (36 + (7 * t + 6)) (xk_T (xtw_lt ht (by decide))) (xC_tab (xtw_lt ht (by decide))) [.int v3, .int (3 : Int32)] rfl rfl (Nat.le_of_ble_eq_true rfl) dW_playsAsMarked_51 (kT_get G (7 * t + 6) (xtw_lt ht (by decide)) z m v3 (3 : Int32)) (fun r51 => ?_)
      refine xR_callSi 54 cs_S_playBy ml_RX6_112 ⟨Nat.le_of_ble_eq_true rfl, Nat.le_of_ble_eq_true rfl⟩ [.int v1, .int r19, .int r33, .int r42, .int r51] rfl rfl (Nat.le_of_ble_eq_true rfl) dW_playsAsMarked_54 (kS_playBy G (m, z) v1 r19 r33 r42 r51) (fun r54 => ?_)
      refine xR_is 57 ([(5, .int r54), (4, .int r19), (0, .ref (xa G (77 + t))), (1, .int v1), (2, .int v2), (3, .int v3)]) dW_playsAsMarked_57 (by decide) rfl ?_
      refine xR_aln 59 2 dW_playsAsMarked_59 rfl rfl ?_
      refine xR_getf 60 xcf5 6 (77 + t) (by decide) (xk_W ht) (xC_twn ht) (v := .ref (xa G (36 + (7 * t + 6)))) rfl fl_RX6_39 dW_playsAsMarked_60 ?_
      refine xR_iln 63 5 dW_playsAsMarked_63 rfl rfl ?_
      refine xR_ic 64 (0 : Int32) dW_playsAsMarked_64 (by decide) ?_
      refine xR_callVi 65 cv_T_get ml_RX6_103 ⟨Nat.le_of_ble_eq_true rfl, Nat.le_of_ble_eq_true rfl⟩ xcf3 rfl (36 + (7 * t + 6)) (xk_T (xtw_lt ht (by decide))) (xC_tab (xtw_lt ht (by decide))) [.int v3, .int (0 : Int32)] rfl rfl (Nat.le_of_ble_eq_true rfl) dW_playsAsMarked_65 (kT_get G (7 * t + 6) (xtw_lt ht (by decide)) z m v3 (0 : Int32)) (fun r65 => ?_)
      refine xR_iln 68 4 dW_playsAsMarked_68 rfl rfl ?_
      refine xR_icne 69 88 dW_playsAsMarked_69 (by decide) ?_ ?_
      · exact xR_sub [2, 3, 4, 5] rfl (kW_playsAsMarked_b88 G t ht z m (fW_playsAsMarked_l2 t m n) ih v1 v2 v3)
      · refine xR_il 72 0 dW_playsAsMarked_72 rfl ?_
        refine xR_aln 74 2 dW_playsAsMarked_74 rfl rfl ?_
        refine xR_getf 75 xcf5 6 (77 + t) (by decide) (xk_W ht) (xC_twn ht) (v := .ref (xa G (36 + (7 * t + 6)))) rfl fl_RX6_39 dW_playsAsMarked_75 ?_
        refine xR_iln 78 5 dW_playsAsMarked_78 rfl rfl ?_
        refine xR_ic 79 (5 : Int32) dW_playsAsMarked_79 (by decide) ?_
        refine xR_callVi 80 cv_T_get ml_RX6_103 ⟨Nat.le_of_ble_eq_true rfl, Nat.le_of_ble_eq_true rfl⟩ xcf3 rfl (36 + (7 * t + 6)) (xk_T (xtw_lt ht (by decide))) (xC_tab (xtw_lt ht (by decide))) [.int v3, .int (5 : Int32)] rfl rfl (Nat.le_of_ble_eq_true rfl) dW_playsAsMarked_80 (kT_get G (7 * t + 6) (xtw_lt ht (by decide)) z m v3 (5 : Int32)) (fun r80 => ?_)
        refine xR_iceq 83 88 dW_playsAsMarked_83 (by decide) ?_ ?_
        · exact xR_sub [2, 3, 4, 5] rfl (kW_playsAsMarked_b88 G t ht z m (fW_playsAsMarked_l2 t m n) ih v1 v2 v3)
        · refine xR_ic 86 (0 : Int32) dW_playsAsMarked_86 (by decide) ?_
          exact xR_zret 87 rfl rfl dW_playsAsMarked_87
set_option maxRecDepth 100000 in
set_option maxHeartbeats 4000000 in
theorem kW_playsAsMarked (G : xG) (t : Nat) (ht : t < 4) (z : xM) (m : xM) (v1 : Int32) (v2 : Int32) : ∀ a, fW_playsAsMarked t m v1 v2 = some a → xCt G yyW_playsAsMarked [.ref (xa G (77 + t)), .int v1, .int v2] (m, z) (some (.int a)) (m, z) := by
  refine xR_ct (em := (emi (m, z))) rfl (Nat.le_of_ble_eq_true rfl) ?_
  show xR G yyW_playsAsMarked _ 0 [(0, .ref (xa G (77 + t))), (1, .int v1), (2, .int v2)] [] _ _
  unfold fW_playsAsMarked
  refine xR_ic 0 (0 : Int32) dW_playsAsMarked_0 (by decide) ?_
  refine xR_isn 1 ([(3, .int (0 : Int32)), (0, .ref (xa G (77 + t))), (1, .int v1), (2, .int v2)]) dW_playsAsMarked_1 rfl (by decide) rfl ?_
  exact xR_sub [1, 2, 3, 0] rfl (kW_playsAsMarked_l2 G t ht z m xfu v1 v2 (0 : Int32))
theorem dW_markedKinds_0 : decode (xb yyW_markedKinds) 0 = .ok (.iconst 0, 1) := by decide +kernel
theorem dW_markedKinds_1 : decode (xb yyW_markedKinds) 1 = .ok (.istore_n 2, 1) := by decide +kernel
theorem dW_markedKinds_2 : decode (xb yyW_markedKinds) 2 = .ok (.iconst 0, 1) := by decide +kernel
theorem dW_markedKinds_3 : decode (xb yyW_markedKinds) 3 = .ok (.istore_n 3, 1) := by decide +kernel
theorem dW_markedKinds_4 : decode (xb yyW_markedKinds) 4 = .ok (.iload_n 3, 1) := by decide +kernel
theorem dW_markedKinds_5 : decode (xb yyW_markedKinds) 5 = .ok (.bipush 6, 2) := by decide +kernel
theorem dW_markedKinds_7 : decode (xb yyW_markedKinds) 7 = .ok (.if_icmp .ge 24, 3) := by decide +kernel
theorem dW_markedKinds_10 : decode (xb yyW_markedKinds) 10 = .ok (.aload_n 0, 1) := by decide +kernel
theorem dW_markedKinds_11 : decode (xb yyW_markedKinds) 11 = .ok (.iload_n 3, 1) := by decide +kernel
theorem dW_markedKinds_12 : decode (xb yyW_markedKinds) 12 = .ok (.iload_n 1, 1) := by decide +kernel
theorem dW_markedKinds_13 : decode (xb yyW_markedKinds) 13 = .ok (.invokevirtual 139, 3) := by decide +kernel
theorem dW_markedKinds_16 : decode (xb yyW_markedKinds) 16 = .ok (.ifCond .eq 9, 3) := by decide +kernel
theorem dW_markedKinds_19 : decode (xb yyW_markedKinds) 19 = .ok (.iload_n 2, 1) := by decide +kernel
theorem dW_markedKinds_20 : decode (xb yyW_markedKinds) 20 = .ok (.iconst 1, 1) := by decide +kernel
theorem dW_markedKinds_21 : decode (xb yyW_markedKinds) 21 = .ok (.iload_n 3, 1) := by decide +kernel
theorem dW_markedKinds_22 : decode (xb yyW_markedKinds) 22 = .ok (.ishl, 1) := by decide +kernel
theorem dW_markedKinds_23 : decode (xb yyW_markedKinds) 23 = .ok (.ior, 1) := by decide +kernel
theorem dW_markedKinds_24 : decode (xb yyW_markedKinds) 24 = .ok (.istore_n 2, 1) := by decide +kernel
theorem dW_markedKinds_25 : decode (xb yyW_markedKinds) 25 = .ok (.iinc 3 1, 3) := by decide +kernel
theorem dW_markedKinds_28 : decode (xb yyW_markedKinds) 28 = .ok (.goto (-24), 3) := by decide +kernel
theorem dW_markedKinds_31 : decode (xb yyW_markedKinds) 31 = .ok (.iload_n 2, 1) := by decide +kernel
theorem dW_markedKinds_32 : decode (xb yyW_markedKinds) 32 = .ok (.ireturn, 1) := by decide +kernel
def fW_markedKinds_b25 (t : Nat) (m : xM) (k4 : Int32 → Int32 → Int32 → Option (Int32)) (v1 : Int32) (v2 : Int32) (v3 : Int32) : Option (Int32) := k4 v1 v2 (v3 + 1)
def fW_markedKinds_l4 (t : Nat) (m : xM) : Nat → Int32 → Int32 → Int32 → Option (Int32)
  | 0, _, _, _ => none
  | n + 1, v1, v2, v3 => (if (6 : Int32) ≤ v3 then some v2 else (fW_playsAsMarked t m v3 v1).bind fun r13 => (if r13 = 0 then fW_markedKinds_b25 t m (fW_markedKinds_l4 t m n) v1 v2 v3 else fW_markedKinds_b25 t m (fW_markedKinds_l4 t m n) v1 (v2 ||| ((1 : Int32) <<< (v3 &&& 31))) v3))
def fW_markedKinds (t : Nat) (m : xM) (v1 : Int32) : Option (Int32) := fW_markedKinds_l4 t m xfu v1 (0 : Int32) (0 : Int32)
set_option maxRecDepth 100000 in
set_option maxHeartbeats 4000000 in
theorem kW_markedKinds_b25 (G : xG) (t : Nat) (ht : t < 4) (z : xM) (m : xM) (k4 : Int32 → Int32 → Int32 → Option (Int32)) (hk4 : ∀ (v1 : Int32) (v2 : Int32) (v3 : Int32), xR G yyW_markedKinds (emi (m, z)) 4 [(0, .ref (xa G (77 + t))), (1, .int v1), (2, .int v2), (3, .int v3)] [] (m, z) (k4 v1 v2 v3)) (v1 : Int32) (v2 : Int32) (v3 : Int32) : xR G yyW_markedKinds (emi (m, z)) 25 [(0, .ref (xa G (77 + t))), (1, .int v1), (2, .int v2), (3, .int v3)] [] (m, z) (fW_markedKinds_b25 t m k4 v1 v2 v3) := by
  unfold fW_markedKinds_b25
  refine xR_iinc 25 3 (v3 + 1) ([(3, .int (v3 + 1)), (0, .ref (xa G (77 + t))), (1, .int v1), (2, .int v2)]) dW_markedKinds_25 rfl rfl (by decide) rfl ?_
  refine xR_goto 28 4 dW_markedKinds_28 (by decide) ?_
  exact xR_sub [1, 2, 3, 0] rfl (hk4 v1 v2 (v3 + 1))
set_option maxRecDepth 100000 in
set_option maxHeartbeats 4000000 in
theorem kW_markedKinds_l4 (G : xG) (t : Nat) (ht : t < 4) (z : xM) (m : xM)   : ∀ (n : Nat) (v1 : Int32) (v2 : Int32) (v3 : Int32), xR G yyW_markedKinds (emi (m, z)) 4 [(0, .ref (xa G (77 + t))), (1, .int v1), (2, .int v2), (3, .int v3)] [] (m, z) (fW_markedKinds_l4 t m n v1 v2 v3) := by
  intro n
  induction n with
  | zero =>
    intro v1 v2 v3
    rw [fW_markedKinds_l4]
    exact xR_none
  | succ n ih =>
    intro v1 v2 v3
    rw [fW_markedKinds_l4]
    refine xR_iln 4 3 dW_markedKinds_4 rfl rfl ?_
    refine xR_bp 5 (6 : Int32) dW_markedKinds_5 (by decide) ?_
    refine xR_icge 7 31 dW_markedKinds_7 (by decide) ?_ ?_
    · refine xR_iln 31 2 dW_markedKinds_31 rfl rfl ?_
      exact xR_iret 32 rfl rfl dW_markedKinds_32
    · refine xR_aln 10 0 dW_markedKinds_10 rfl rfl ?_
      refine xR_iln 11 3 dW_markedKinds_11 rfl rfl ?_
      refine xR_iln 12 1 dW_markedKinds_12 rfl rfl ?_
      refine xR_callVi 13 cv_W_playsAsMarked ml_RX6_139 ⟨Nat.le_of_ble_eq_true rfl, Nat.le_of_ble_eq_true rfl⟩ xcf5 rfl (77 + t) (xk_W ht) (xC_twn ht) [.int v3, .int v1] rfl rfl (Nat.le_of_ble_eq_true rfl) dW_markedKinds_13 (kW_playsAsMarked G t ht z m v3 v1) (fun r13 => ?_)
      refine xR_ifeq 16 25 dW_markedKinds_16 (by decide) ?_ ?_
      · exact kW_markedKinds_b25 G t ht z m (fW_markedKinds_l4 t m n) ih v1 v2 v3
      · refine xR_iln 19 2 dW_markedKinds_19 rfl rfl ?_
        refine xR_ic 20 (1 : Int32) dW_markedKinds_20 (by decide) ?_
        refine xR_iln 21 3 dW_markedKinds_21 rfl rfl ?_
        refine xR_ishl 22 dW_markedKinds_22 ?_
        refine xR_ior 23 dW_markedKinds_23 ?_
        refine xR_isn 24 ([(2, .int (v2 ||| ((1 : Int32) <<< (v3 &&& 31)))), (0, .ref (xa G (77 + t))), (1, .int v1), (3, .int v3)]) dW_markedKinds_24 rfl (by decide) rfl ?_
        exact xR_sub [1, 2, 0, 3] rfl (kW_markedKinds_b25 G t ht z m (fW_markedKinds_l4 t m n) ih v1 (v2 ||| ((1 : Int32) <<< (v3 &&& 31))) v3)
set_option maxRecDepth 100000 in
set_option maxHeartbeats 4000000 in
theorem kW_markedKinds (G : xG) (t : Nat) (ht : t < 4) (z : xM) (m : xM) (v1 : Int32) : ∀ a, fW_markedKinds t m v1 = some a → xCt G yyW_markedKinds [.ref (xa G (77 + t)), .int v1] (m, z) (some (.int a)) (m, z) := by
  refine xR_ct (em := (emi (m, z))) rfl (Nat.le_of_ble_eq_true rfl) ?_
  show xR G yyW_markedKinds _ 0 [(0, .ref (xa G (77 + t))), (1, .int v1)] [] _ _
  unfold fW_markedKinds
  refine xR_ic 0 (0 : Int32) dW_markedKinds_0 (by decide) ?_
  refine xR_isn 1 ([(2, .int (0 : Int32)), (0, .ref (xa G (77 + t))), (1, .int v1)]) dW_markedKinds_1 rfl (by decide) rfl ?_
  refine xR_ic 2 (0 : Int32) dW_markedKinds_2 (by decide) ?_
  refine xR_isn 3 ([(3, .int (0 : Int32)), (2, .int (0 : Int32)), (0, .ref (xa G (77 + t))), (1, .int v1)]) dW_markedKinds_3 rfl (by decide) rfl ?_
  exact xR_sub [2, 3, 1, 0] rfl (kW_markedKinds_l4 G t ht z m xfu v1 (0 : Int32) (0 : Int32))
end
section
/-! CONSTRUCTORS: walks over a world that grows, as a list (rows written by gen_ctor_rules.py) -/
/-- the links to nest mates' constructors -/
def xnk : List (String × Nat × MethodName × String) := [(RX6, 11, ⟨RX0, "<init>", "()V"⟩, RX8), (RX8, 24, ⟨RX0, "<init>", "()V"⟩, RX8), (RX8, 40, ⟨RX2, "<init>", "()V"⟩, RX8), (RX2, 11, ⟨RX5, "<init>", "()V"⟩, RX8), (RX8, 47, ⟨RX1, "<init>", "()V"⟩, RX8)]
def cK (G : xG) (U : State) : Prop := va_K (xD G) xcl [(xI G, .int), (xZ G, .boolean)] U ∧ ∀ q ∈ xnk, va_Nw (.methodLinkNest q.1 q.2.1 q.2.2.1 q.2.2.2) U
theorem cK.warm {G : xG} {u U : State} (hW : u.WarmedH U.vm) (h : cK G u) : cK G U := ⟨va_K.moved hW.alike h.1, fun q hq => va_Nw.warmM hW (h.2 q hq)⟩
theorem cK.same {G : xG} {u U : State} (hv : U.vm = u.vm) (h : cK G u) : cK G U := ⟨va_K.moved (by rw [hv]; exact Vm.Alike.refl u.vm) h.1, fun q hq => va_Nw.same rfl hv.symm (h.2 q hq)⟩
def cF (G : xG) (Y : xY) (mc ms : Nat) (p : Program) (R : Room) (s : State) (m : MethodId) (args : Array Value) (meth : Method) (c : Code) : Prop :=
  p.tables.exec = Jvm.exec ∧ c.code = xb Y ∧ c.maxLocals = xL Y ∧ s.vm.findClass (xn Y).cls = some m.cls ∧ (∀ w ∈ xw Y, w.before args s = true) ∧ meth.sig.returnType = xt Y ∧ meth.locks = false ∧ xf Y ≤ R.frames ∧ xo Y ≤ R.locals ∧ mc ≤ R.cells ∧ ms ≤ R.slots ∧ cK G s ∧ meth.name = (xn Y).name
/-- an end: the answer, a world of the told kind, all else as it was -/
def cQ (G : xG) (r : Option Value) (Pw : va_W → Prop) (A : Nat → Prop) : Array Value → State → Outcome → State → Prop := fun _ st oc t => oc = .returned r ∧ (∃ w, Pw w ∧ va_P (xD G) xcl w t.heap ∧ va_D A w) ∧ va_F A st t
def cR (G : xG) (Y : xY) (mc ms : Nat) (r : Option Value) (Pw : va_W → Prop) (pc : Nat) (lv : List (Nat × Value)) (st : List Value) (ws : va_W) (nc ns : Nat) : Prop :=
  ∀ (p : Program) (e : Env) (R : Room) (s : State) (m : MethodId) (args : Array Value) (below : List Frame) (meth : Method) (c : Code) (H : Heap) (locs : List Loc) (ls : Array Slot) (A : Nat → Prop),
    cF G Y mc ms p R s m args meth c → va_P (xD G) xcl ws H → va_D A ws → va_S A s.heap H locs → (∀ q : Nat, s.heap.size ≤ q → A q) → lv_has ls (xL Y) lv →
    W p (xl G) e R s m args below meth c H locs nc ns (MQ below (cQ G r Pw A) args s mc ms A) (F0 m pc ls st)
def cCt (G : xG) (Y : xY) (mc ms : Nat) (av : List Value) (W0 : va_W) (r : Option Value) (Pw : va_W → Prop) : Prop :=
  ∀ sz : Nat, Met (xl G) (xn Y) (xw Y) { frames := xf Y, cells := mc, slots := ms, locals := xo Y } (va_Pc av (fun U => U.heap.size = sz ∧ va_P (xD G) xcl W0 U.heap ∧ cK G U ∧ va_D (fun _ => True) W0)) (cQ G r Pw (va_A W0 sz)) mc ms (va_A W0 sz)
theorem cCt_of {G : xG} {Y : xY} {mc ms : Nat} {av : List Value} {W0 : va_W} {r : Option Value} {Pw : va_W → Prop} (hy : plainName (xn Y).cls = true) (hn : (lg_sl av).length ≤ xL Y) (h : cR G Y mc ms r Pw 0 (lv_args 0 av) [] W0 0 0) : cCt G Y mc ms av W0 r Pw := by
  intro sz
  refine Met.ofW (cc := xb Y) (maxL := xL Y) (ret := xt Y) hy rfl ?_
  intro p e s m args below meth c s₁ B hml hv
  obtain ⟨rfl, hsz, hP, hK, hD0⟩ := hv
  subst hsz
  have hl := lv_entry av (n := xL Y) hn
  rw [lg_entry_eq]
  exact h p e _ s m _ below meth c s.heap [] _ _ ⟨B.exec, B.bytes, hml, findClass_of_methodNamed B.named, atoms_spec (ws := xw Y) B.pre, B.returns, B.notSynchronized, Nat.le_refl _, Nat.le_refl _, Nat.le_refl _, Nat.le_refl _, hK, (name_of_methodNamed B.named B.method).1⟩ hP hD0.self va_S.rf (fun q h => Or.inr h) hl
section CR
variable {G : xG} {Y : xY} {mc ms : Nat} {r : Option Value} {Pw : va_W → Prop} {lv : List (Nat × Value)} {st : List Value} {ws : va_W} {nc ns : Nat}
theorem cR_ic (pc : Nat) {n : Int} (v : Int32) (hd : decode (xb Y) pc = .ok (.iconst n, 1)) (hv : Int32.ofInt n = v) (kk : cR G Y mc ms r Pw (pc + 1) lv (.int v :: st) ws nc ns) : cR G Y mc ms r Pw pc lv (st) ws nc ns := fun p e R s m args below meth c H locs ls A hF hP hD hS hA hl => lv_iconst hF.1 hF.2.1 hd hv (kk p e R s m args below meth c H locs ls A hF hP hD hS hA hl)
theorem cR_bp (pc : Nat) {n : Int} (v : Int32) (hd : decode (xb Y) pc = .ok (.bipush n, 2)) (hv : (Int8.ofInt n).toInt32 = v) (kk : cR G Y mc ms r Pw (pc + 2) lv (.int v :: st) ws nc ns) : cR G Y mc ms r Pw pc lv (st) ws nc ns := fun p e R s m args below meth c H locs ls A hF hP hD hS hA hl => lv_bipush hF.1 hF.2.1 hd hv (kk p e R s m args below meth c H locs ls A hF hP hD hS hA hl)
theorem cR_sp (pc : Nat) {n : Int} (v : Int32) (hd : decode (xb Y) pc = .ok (.sipush n, 3)) (hv : (Int16.ofInt n).toInt32 = v) (kk : cR G Y mc ms r Pw (pc + 3) lv (.int v :: st) ws nc ns) : cR G Y mc ms r Pw pc lv (st) ws nc ns := fun p e R s m args below meth c H locs ls A hF hP hD hS hA hl => lv_sipush hF.1 hF.2.1 hd hv (kk p e R s m args below meth c H locs ls A hF hP hD hS hA hl)
theorem cR_lc (pc : Nat) {n : Fin 2} (v : Int64) (hd : decode (xb Y) pc = .ok (.lconst n, 1)) (hv : Int64.ofNat (n : Nat) = v) (kk : cR G Y mc ms r Pw (pc + 1) lv (.long v :: st) ws nc ns) : cR G Y mc ms r Pw pc lv (st) ws nc ns := fun p e R s m args below meth c H locs ls A hF hP hD hS hA hl => lv_lconst hF.1 hF.2.1 hd hv (kk p e R s m args below meth c H locs ls A hF hP hD hS hA hl)
theorem cR_iln (pc : Nat) {k : Fin 4} {i : Nat} {x : Int32} (j : Nat) (hd : decode (xb Y) pc = .ok (.iload_n k, 1)) (hi : (k : Nat) = i) (hj : lv[j]? = some (i, .int x)) (kk : cR G Y mc ms r Pw (pc + 1) lv (.int x :: st) ws nc ns) : cR G Y mc ms r Pw pc lv (st) ws nc ns := fun p e R s m args below meth c H locs ls A hF hP hD hS hA hl => lv_iload_n hF.1 hF.2.1 hd hi (lv_at hl j hj) (kk p e R s m args below meth c H locs ls A hF hP hD hS hA hl)
theorem cR_il (pc : Nat) {i : Nat} {x : Int32} (j : Nat) (hd : decode (xb Y) pc = .ok (.iload i, 2)) (hj : lv[j]? = some (i, .int x)) (kk : cR G Y mc ms r Pw (pc + 2) lv (.int x :: st) ws nc ns) : cR G Y mc ms r Pw pc lv (st) ws nc ns := fun p e R s m args below meth c H locs ls A hF hP hD hS hA hl => lv_iload hF.1 hF.2.1 hd (lv_at hl j hj) (kk p e R s m args below meth c H locs ls A hF hP hD hS hA hl)
theorem cR_aln (pc : Nat) {k : Fin 4} {i : Nat} {x : Nat} (j : Nat) (hd : decode (xb Y) pc = .ok (.aload_n k, 1)) (hi : (k : Nat) = i) (hj : lv[j]? = some (i, .ref x)) (kk : cR G Y mc ms r Pw (pc + 1) lv (.ref x :: st) ws nc ns) : cR G Y mc ms r Pw pc lv (st) ws nc ns := fun p e R s m args below meth c H locs ls A hF hP hD hS hA hl => lv_aload_n hF.1 hF.2.1 hd hi (lv_at hl j hj) (kk p e R s m args below meth c H locs ls A hF hP hD hS hA hl)
theorem cR_al (pc : Nat) {i : Nat} {x : Nat} (j : Nat) (hd : decode (xb Y) pc = .ok (.aload i, 2)) (hj : lv[j]? = some (i, .ref x)) (kk : cR G Y mc ms r Pw (pc + 2) lv (.ref x :: st) ws nc ns) : cR G Y mc ms r Pw pc lv (st) ws nc ns := fun p e R s m args below meth c H locs ls A hF hP hD hS hA hl => lv_aload hF.1 hF.2.1 hd (lv_at hl j hj) (kk p e R s m args below meth c H locs ls A hF hP hD hS hA hl)
theorem cR_isn (pc : Nat) {k : Fin 4} {i : Nat} {x : Int32} (lv' : List (Nat × Value)) (hd : decode (xb Y) pc = .ok (.istore_n k, 1)) (hi : (k : Nat) = i) (hn : i < xL Y) (hv : (i, Value.int x) :: lv.filter (fun q => !(q.1 == i) && !(q.1 + 1 == i && q.2.category == 2)) = lv') (kk : cR G Y mc ms r Pw (pc + 1) lv' st ws nc ns) : cR G Y mc ms r Pw pc lv (.int x :: st) ws nc ns := fun p e R s m args below meth c H locs ls A hF hP hD hS hA hl => lv_istore_n hF.1 hF.2.1 hd hi hl hn hv (fun ls hl => kk p e R s m args below meth c H locs ls A hF hP hD hS hA hl)
theorem cR_is (pc : Nat) {i : Nat} {x : Int32} (lv' : List (Nat × Value)) (hd : decode (xb Y) pc = .ok (.istore i, 2)) (hn : i < xL Y) (hv : (i, Value.int x) :: lv.filter (fun q => !(q.1 == i) && !(q.1 + 1 == i && q.2.category == 2)) = lv') (kk : cR G Y mc ms r Pw (pc + 2) lv' st ws nc ns) : cR G Y mc ms r Pw pc lv (.int x :: st) ws nc ns := fun p e R s m args below meth c H locs ls A hF hP hD hS hA hl => lv_istore hF.1 hF.2.1 hd hl hn hv (fun ls hl => kk p e R s m args below meth c H locs ls A hF hP hD hS hA hl)
theorem cR_iinc (pc : Nat) {i : Nat} {n : Int} {x : Int32} (j : Nat) (v : Int32) (lv' : List (Nat × Value)) (hd : decode (xb Y) pc = .ok (.iinc i n, 3)) (hj : lv[j]? = some (i, .int x)) (hx : x + Int32.ofInt n = v) (hn : i < xL Y) (hv : (i, Value.int v) :: lv.filter (fun q => !(q.1 == i) && !(q.1 + 1 == i && q.2.category == 2)) = lv') (kk : cR G Y mc ms r Pw (pc + 3) lv' st ws nc ns) : cR G Y mc ms r Pw pc lv st ws nc ns := fun p e R s m args below meth c H locs ls A hF hP hD hS hA hl => lv_iinc hF.1 hF.2.1 hd hl hj hx hn hv (fun ls hl => kk p e R s m args below meth c H locs ls A hF hP hD hS hA hl)
theorem cR_iadd (pc : Nat) {x y : Int32} (hd : decode (xb Y) pc = .ok (.iadd, 1))  (kk : cR G Y mc ms r Pw (pc + 1) lv (.int (x + y) :: st) ws nc ns) : cR G Y mc ms r Pw pc lv (.int y :: .int x :: st) ws nc ns := fun p e R s m args below meth c H locs ls A hF hP hD hS hA hl => lv_iadd hF.1 hF.2.1 hd  (kk p e R s m args below meth c H locs ls A hF hP hD hS hA hl)
theorem cR_isub (pc : Nat) {x y : Int32} (hd : decode (xb Y) pc = .ok (.isub, 1))  (kk : cR G Y mc ms r Pw (pc + 1) lv (.int (x - y) :: st) ws nc ns) : cR G Y mc ms r Pw pc lv (.int y :: .int x :: st) ws nc ns := fun p e R s m args below meth c H locs ls A hF hP hD hS hA hl => lv_isub hF.1 hF.2.1 hd  (kk p e R s m args below meth c H locs ls A hF hP hD hS hA hl)
theorem cR_imul (pc : Nat) {x y : Int32} (hd : decode (xb Y) pc = .ok (.imul, 1))  (kk : cR G Y mc ms r Pw (pc + 1) lv (.int (x * y) :: st) ws nc ns) : cR G Y mc ms r Pw pc lv (.int y :: .int x :: st) ws nc ns := fun p e R s m args below meth c H locs ls A hF hP hD hS hA hl => lv_imul hF.1 hF.2.1 hd  (kk p e R s m args below meth c H locs ls A hF hP hD hS hA hl)
theorem cR_dup (pc : Nat) {v : Value} (hd : decode (xb Y) pc = .ok (.dup, 1)) (hv : v.category = 1) (kk : cR G Y mc ms r Pw (pc + 1) lv (v :: v :: st) ws nc ns) : cR G Y mc ms r Pw pc lv (v :: st) ws nc ns := fun p e R s m args below meth c H locs ls A hF hP hD hS hA hl => lv_dup hF.1 hF.2.1 hd hv (kk p e R s m args below meth c H locs ls A hF hP hD hS hA hl)
theorem cR_dup_x1 (pc : Nat) {v w : Value} (hd : decode (xb Y) pc = .ok (.dup_x1, 1)) (hv : v.category = 1) (hw : w.category = 1) (kk : cR G Y mc ms r Pw (pc + 1) lv (v :: w :: v :: st) ws nc ns) : cR G Y mc ms r Pw pc lv (v :: w :: st) ws nc ns := fun p e R s m args below meth c H locs ls A hF hP hD hS hA hl => lv_dup_x1 hF.1 hF.2.1 hd hv hw (kk p e R s m args below meth c H locs ls A hF hP hD hS hA hl)
theorem cR_iflt (pc tgt : Nat) {x : Int32} {off : Int} (hd : decode (xb Y) pc = .ok (.ifCond .lt off, 3)) (ht : (pc : Int) + off = (tgt : Int)) (kt : x < 0 → cR G Y mc ms r Pw tgt lv st ws nc ns) (kf : ¬ x < 0 → cR G Y mc ms r Pw (pc + 3) lv st ws nc ns) : cR G Y mc ms r Pw pc lv (.int x :: st) ws nc ns := fun p e R s m args below meth c H locs ls A hF hP hD hS hA hl => lv_if_lt hF.1 hF.2.1 hd ht (fun h => kt h p e R s m args below meth c H locs ls A hF hP hD hS hA hl) (fun h => kf h p e R s m args below meth c H locs ls A hF hP hD hS hA hl)
theorem cR_iclt (pc tgt : Nat) {x y : Int32} {off : Int} (hd : decode (xb Y) pc = .ok (.if_icmp .lt off, 3)) (ht : (pc : Int) + off = (tgt : Int)) (kt : x < y → cR G Y mc ms r Pw tgt lv st ws nc ns) (kf : ¬ x < y → cR G Y mc ms r Pw (pc + 3) lv st ws nc ns) : cR G Y mc ms r Pw pc lv (.int y :: .int x :: st) ws nc ns := fun p e R s m args below meth c H locs ls A hF hP hD hS hA hl => lv_icmp_lt hF.1 hF.2.1 hd ht (fun h => kt h p e R s m args below meth c H locs ls A hF hP hD hS hA hl) (fun h => kf h p e R s m args below meth c H locs ls A hF hP hD hS hA hl)
theorem cR_icge (pc tgt : Nat) {x y : Int32} {off : Int} (hd : decode (xb Y) pc = .ok (.if_icmp .ge off, 3)) (ht : (pc : Int) + off = (tgt : Int)) (kt : y ≤ x → cR G Y mc ms r Pw tgt lv st ws nc ns) (kf : ¬ y ≤ x → cR G Y mc ms r Pw (pc + 3) lv st ws nc ns) : cR G Y mc ms r Pw pc lv (.int y :: .int x :: st) ws nc ns := fun p e R s m args below meth c H locs ls A hF hP hD hS hA hl => lv_icmp_ge hF.1 hF.2.1 hd ht (fun h => kt h p e R s m args below meth c H locs ls A hF hP hD hS hA hl) (fun h => kf h p e R s m args below meth c H locs ls A hF hP hD hS hA hl)
theorem cR_goto (pc tgt : Nat) {off : Int} (hd : decode (xb Y) pc = .ok (.goto off, 3)) (ht : (pc : Int) + off = (tgt : Int)) (kk : cR G Y mc ms r Pw tgt lv st ws nc ns) : cR G Y mc ms r Pw pc lv st ws nc ns := fun p e R s m args below meth c H locs ls A hF hP hD hS hA hl => lv_goto hF.1 hF.2.1 hd ht (kk p e R s m args below meth c H locs ls A hF hP hD hS hA hl)
/-- the world in another order, or less of it -/
theorem cR_world {pc : Nat} (is : List Nat) (ws' : va_W) (hn : va_nd is = true) (hs : is.map (fun i => ws[i]?) = ws'.map some) (kk : cR G Y mc ms r Pw pc lv st ws' nc ns) : cR G Y mc ms r Pw pc lv st ws nc ns :=
  fun p e R s m args below meth c H locs ls A hF hP hD hS hA hl => kk p e R s m args below meth c H locs ls A hF (fun k q hk => by
    have h1 : (is.map (fun i => ws[i]?))[k]? = some (some q) := by rw [hs, List.getElem?_map, hk]; rfl
    rw [List.getElem?_map] at h1
    cases hi : is[k]? with
    | none => rw [hi] at h1; cases h1
    | some i => rw [hi] at h1; exact hP i q (Option.some.inj h1)) (hD.sub is hn hs) hS hA hl
theorem cR_sub {lv' : List (Nat × Value)} (ks : List Nat) (hv : lv_pick lv ks = lv') {pc : Nat} (kk : cR G Y mc ms r Pw pc lv' st ws nc ns) : cR G Y mc ms r Pw pc lv st ws nc ns := fun p e R s m args below meth c H locs ls A hF hP hD hS hA hl => kk p e R s m args below meth c H locs ls A hF hP hD hS hA (lv_sub hl ks hv)
theorem cR_getf (pc : Nat) {idx ci N : Nat} {C : String} {T : u_T} {ty : Nat → FieldType} (hcf : xcf ci C T N ty) (j q0 : Nat) (hj : j < N) {a : Nat} {fs : List Value} (he : ws[q0]? = some (a, .inr (ci, fs))) {v : Value} (hv : fs[j]? = some v) (hl : Cond.fieldLink (xn Y).cls idx C (T j).2.1 (T j).2.2.1 ∈ lw_tb) (hd : decode (xb Y) pc = .ok (.getfield idx, 3)) (kk : cR G Y mc ms r Pw (pc + 3) lv (v :: st) ws nc ns) : cR G Y mc ms r Pw pc lv (.ref a :: st) ws nc ns :=
  fun p e R s m args below meth c H locs ls A hF hP hD hS hA hlv => va_get (own := (xn Y).cls) (ref := C) (Ts := xw Y) hF.1 hF.2.1 hF.2.2.2.2.1 (fun w hw => xw_of (hcf.2.1 w hw)) hF.2.2.2.1 hF.2.2.2.2.2.2.2.2.2.2.2.1.1 hP q0 he hcf.1 j hj (hF.2.2.2.2.1 _ (xw_of hl)) (fun x h => by rw [hcf.2.2.2.2 j hj] at h; exact h) hv hd (kk p e R s m args below meth c H locs ls A hF hP hD hS hA hlv)
theorem cR_putf (pc : Nat) {idx ci N : Nat} {C : String} {T : u_T} {ty : Nat → FieldType} (hcf : xcf ci C T N ty) (j q0 : Nat) (hj : j < N) {a : Nat} {fs : List Value} (he : ws[q0]? = some (a, .inr (ci, fs))) {v : Value} (hfin : (T j).2.2.2 = false) (hn : narrow (ty j) v = v) (hfit : fits (ty j) v = true) (hlen : j < fs.length) (ws' : va_W) (hw : ws.set q0 (a, .inr (ci, fs.set j v)) = ws') (hl : Cond.fieldLink (xn Y).cls idx C (T j).2.1 (T j).2.2.1 ∈ lw_tb) (hd : decode (xb Y) pc = .ok (.putfield idx, 3)) (kk : cR G Y mc ms r Pw (pc + 3) lv st ws' nc ns) : cR G Y mc ms r Pw pc lv (v :: .ref a :: st) ws nc ns :=
  fun p e R s m args below meth c H locs ls A hF hP hD hS hA hlv => va_put (own := (xn Y).cls) (ref := C) (Ts := xw Y) hF.1 hF.2.1 hF.2.2.2.2.1 (fun w hw => xw_of (hcf.2.1 w hw)) ty hcf.2.2.1 hcf.2.2.2.1 hF.2.2.2.1 hF.2.2.2.2.2.2.2.2.2.2.2.1.1 hP hD hS q0 he hcf.1 j hj (hF.2.2.2.2.1 _ (xw_of hl)) (fun x h => by rw [hcf.2.2.2.2 j hj] at h; exact h) hfin (hcf.2.2.1 j hj) hn hfit hlen hd (fun H1 locs1 hP1 hD1 hS1 => kk p e R s m args below meth c H1 locs1 ls A hF (hw ▸ hP1) (hw ▸ hD1) hS1 hA hlv)
theorem cR_putF (pc : Nat) {idx ci N : Nat} {C : String} {T : u_T} {ty : Nat → FieldType} (hcf : xcf ci C T N ty) (j q0 : Nat) (hj : j < N) {a : Nat} {fs : List Value} (he : ws[q0]? = some (a, .inr (ci, fs))) {v : Value} (hfin : (T j).2.2.2 = true) (hin : (xn Y).name = "<init>") (hC : (xn Y).cls = C) (hn : narrow (ty j) v = v) (hfit : fits (ty j) v = true) (hlen : j < fs.length) (ws' : va_W) (hw : ws.set q0 (a, .inr (ci, fs.set j v)) = ws') (hl : Cond.fieldLink (xn Y).cls idx C (T j).2.1 (T j).2.2.1 ∈ lw_tb) (hd : decode (xb Y) pc = .ok (.putfield idx, 3)) (kk : cR G Y mc ms r Pw (pc + 3) lv st ws' nc ns) : cR G Y mc ms r Pw pc lv (v :: .ref a :: st) ws nc ns :=
  fun p e R s m args below meth c H locs ls A hF hP hD hS hA hlv => va_putF (own := (xn Y).cls) (ref := C) (Ts := xw Y) hF.1 hF.2.1 hF.2.2.2.2.1 (fun w hw => xw_of (hcf.2.1 w hw)) ty hcf.2.2.1 hcf.2.2.2.1 hF.2.2.2.1 hF.2.2.2.2.2.2.2.2.2.2.2.1.1 hP hD hS q0 he hcf.1 j hj (hF.2.2.2.2.1 _ (xw_of hl)) (fun x h => by rw [hcf.2.2.2.2 j hj] at h; exact h) hfin (hF.2.2.2.2.2.2.2.2.2.2.2.2.trans hin) (by rw [hcf.2.2.2.2 j hj]; exact hC.symm) (hcf.2.2.1 j hj) hn hfit hlen hd (fun H1 locs1 hP1 hD1 hS1 => kk p e R s m args below meth c H1 locs1 ls A hF (hw ▸ hP1) (hw ▸ hD1) hS1 hA hlv)
theorem cR_iast (pc q0 : Nat) {a n : Nat} {f : Nat → Int32} (he : ws[q0]? = some (a, .inl (xI G, n, .inl f))) {i x : Int32} (hin : vp_in i n) (ws' : va_W) (hw : ws.set q0 (a, .inl (xI G, n, .inl (upd f i.toNatClampNeg x))) = ws') (hd : decode (xb Y) pc = .ok (.iastore, 1)) (kk : cR G Y mc ms r Pw (pc + 1) lv st ws' nc ns) : cR G Y mc ms r Pw pc lv (.int x :: .int i :: .ref a :: st) ws nc ns :=
  fun p e R s m args below meth c H locs ls A hF hP hD hS hA hl => va_iast hF.1 hF.2.1 hF.2.2.2.2.2.2.2.2.2.2.2.1.1 hP hD hS q0 0 he rfl hin hd (fun H1 locs1 hP1 hD1 hS1 => kk p e R s m args below meth c H1 locs1 ls A hF (hw ▸ hP1) (hw ▸ hD1) hS1 hA hl)
theorem cR_alen (pc q0 : Nat) {a : Nat} {x : vp_A} (he : ws[q0]? = some (a, .inl (xI G, x))) (hd : decode (xb Y) pc = .ok (.arraylength, 1)) (kk : cR G Y mc ms r Pw (pc + 1) lv (.int (Int32.ofNat x.1) :: st) ws nc ns) : cR G Y mc ms r Pw pc lv (.ref a :: st) ws nc ns :=
  fun p e R s m args below meth c H locs ls A hF hP hD hS hA hl => va_alen hF.1 hF.2.1 hF.2.2.2.2.2.2.2.2.2.2.2.1.1 hP q0 0 he rfl rfl hd (kk p e R s m args below meth c H locs ls A hF hP hD hS hA hl)
theorem cR_new (pc : Nat) {idx ci N : Nat} {C : String} {T : u_T} {ty : Nat → FieldType} (hcf : xcf ci C T N ty) (fs : List Value) (hcl : Cond.classLink (xn Y).cls idx C ∈ lw_tb) (hi : Cond.instantiable C N ∈ lw_tb) (hini : Cond.initialized C ∈ lw_tb) (hfs : ∀ j, j < N → defaultValue (ty j) = vp_V fs j) (hc : nc + 1 ≤ mc ∧ ns + N ≤ ms) (hd : decode (xb Y) pc = .ok (.new idx, 3)) (kk : ∀ q, cR G Y mc ms r Pw (pc + 3) lv (.ref q :: st) (ws ++ [(q, .inr (ci, fs))]) (nc + 1) (ns + N)) : cR G Y mc ms r Pw pc lv st ws nc ns :=
  fun p e R s m args below meth c H locs ls A hF hP hD hS hA hl => va_new (own := (xn Y).cls) (Ts := xw Y) hF.1 hF.2.1 hF.2.2.2.2.1 (fun w hw => xw_of (hcf.2.1 w hw)) ty hcf.2.2.1 hF.2.2.2.1 (hF.2.2.2.2.1 _ (xw_of hcl)) (hF.2.2.2.2.1 _ (xw_of hi)) (hF.2.2.2.2.1 _ (xw_of hini)) hF.2.2.2.2.2.2.2.2.2.2.2.1.1 hP hD hS hA hcf.1 hfs (Nat.le_trans hc.1 hF.2.2.2.2.2.2.2.2.2.1) (Nat.le_trans hc.2 hF.2.2.2.2.2.2.2.2.2.2.1) hd (fun q H1 hP1 hD1 hS1 => kk q p e R s m args below meth c H1 locs ls A hF hP1 hD1 hS1 hA hl)
theorem cR_newI (pc : Nat) {n : Int32} {N : Nat} (har : Cond.arrayClass .int ∈ lw_tb) (hn : ¬ n < 0) (hN : n.toNatClampNeg = N) (hb : N * componentBytes .int ≤ 536870912) (hc : nc + 1 ≤ mc ∧ ns + N ≤ ms) (hd : decode (xb Y) pc = .ok (.newarray .int, 2)) (kk : ∀ q, cR G Y mc ms r Pw (pc + 2) lv (.ref q :: st) (ws ++ [(q, .inl (xI G, N, .inl (fun _ => 0)))]) (nc + 1) (ns + N)) : cR G Y mc ms r Pw pc lv (.int n :: st) ws nc ns :=
  fun p e R s m args below meth c H locs ls A hF hP hD hS hA hl => va_newa (atype := .int) (ty := .int) (a0 := (N, .inl (fun _ => 0))) hF.1 hF.2.1 (hF.2.2.2.2.1 _ (xw_of har)) rfl hF.2.2.2.2.2.2.2.2.2.2.2.1.1 hP hD hS hA (fun _ => rfl) hn hN hb (Nat.le_trans hc.1 hF.2.2.2.2.2.2.2.2.2.1) (Nat.le_trans hc.2 hF.2.2.2.2.2.2.2.2.2.2.1) hd (fun q cA H1 hK1 hP1 hD1 hS1 => by
    have e1 : s.vm.findClass ("[" ++ FieldType.int.toString) = some cA := (hK1.2 2 (cA, .int) rfl).2
    have e2 : s.vm.findClass ("[" ++ FieldType.int.toString) = some (xI G) := (hK1.2 0 (xI G, .int) rfl).2
    have e3 : cA = xI G := Option.some.inj (e1.symm.trans e2)
    subst e3
    exact kk q p e R s m args below meth c H1 locs ls A hF hP1 hD1 hS1 hA hl)
theorem cR_newZ (pc : Nat) {n : Int32} {N : Nat} (har : Cond.arrayClass .boolean ∈ lw_tb) (hn : ¬ n < 0) (hN : n.toNatClampNeg = N) (hb : N * componentBytes .boolean ≤ 536870912) (hc : nc + 1 ≤ mc ∧ ns + N ≤ ms) (hd : decode (xb Y) pc = .ok (.newarray .boolean, 2)) (kk : ∀ q, cR G Y mc ms r Pw (pc + 2) lv (.ref q :: st) (ws ++ [(q, .inl (xZ G, N, .inl (fun _ => 0)))]) (nc + 1) (ns + N)) : cR G Y mc ms r Pw pc lv (.int n :: st) ws nc ns :=
  fun p e R s m args below meth c H locs ls A hF hP hD hS hA hl => va_newa (atype := .boolean) (ty := .boolean) (a0 := (N, .inl (fun _ => 0))) hF.1 hF.2.1 (hF.2.2.2.2.1 _ (xw_of har)) rfl hF.2.2.2.2.2.2.2.2.2.2.2.1.1 hP hD hS hA (fun _ => rfl) hn hN hb (Nat.le_trans hc.1 hF.2.2.2.2.2.2.2.2.2.1) (Nat.le_trans hc.2 hF.2.2.2.2.2.2.2.2.2.2.1) hd (fun q cA H1 hK1 hP1 hD1 hS1 => by
    have e1 : s.vm.findClass ("[" ++ FieldType.boolean.toString) = some cA := (hK1.2 2 (cA, .boolean) rfl).2
    have e2 : s.vm.findClass ("[" ++ FieldType.boolean.toString) = some (xZ G) := (hK1.2 1 (xZ G, .boolean) rfl).2
    have e3 : cA = xZ G := Option.some.inj (e1.symm.trans e2)
    subst e3
    exact kk q p e R s m args below meth c H1 locs ls A hF hP1 hD1 hS1 hA hl)
theorem cR_oinit (pc : Nat) {idx : Nat} {a : Nat} (hl : Cond.methodLink (xn Y).cls idx Lib.objectInit ∈ lw_tb) (hin : Cond.instanceMethod Lib.objectInit ∈ lw_tb) (hco : Cond.code Lib.objectInit ⟨#[0xb1]⟩ 1 none ∈ lw_tb) (hroom : 1 ≤ xf Y ∧ (st.map fun v => v.category).sum + 12 ≤ xo Y) (hd : decode (xb Y) pc = .ok (.invokespecial idx, 3)) (kk : cR G Y mc ms r Pw (pc + 3) lv st ws nc ns) : cR G Y mc ms r Pw pc lv (.ref a :: st) ws nc ns :=
  fun p e R s m args below meth c H locs ls A hF hP hD hS hA hlv => W.objInit hF.1 hF.2.1 hF.2.2.2.1 (hF.2.2.2.2.1 _ (xw_of hl)) (hF.2.2.2.2.1 _ (xw_of hin)) (hF.2.2.2.2.1 _ (xw_of hco)) rfl (by show ls.size = _; rw [hlv.1]; exact hF.2.2.1.symm) rfl hd (Nat.le_trans hroom.1 hF.2.2.2.2.2.2.2.1) (Nat.le_trans (by show 2 * 0 + _ + 12 ≤ _; omega) hF.2.2.2.2.2.2.2.2.1) (kk p e R s m args below meth c H locs ls A hF hP hD hS hA hlv)
theorem cR_mmax (pc : Nat) {idx : Nat} {x y : Int32} (hl : Cond.methodLink (xn Y).cls idx Lib.Math.max.name ∈ lw_tb) (hroom : 1 ≤ xf Y ∧ (st.map fun v => v.category).sum + 13 ≤ xo Y) (hb : nc ≤ mc ∧ ns ≤ ms) (hd : decode (xb Y) pc = .ok (.invokestatic idx, 3)) (kk : cR G Y mc ms r Pw (pc + 3) lv (.int (xmax x y) :: st) ws nc ns) : cR G Y mc ms r Pw pc lv (.int y :: .int x :: st) ws nc ns :=
  fun p e R s m args below meth c H locs ls A hF hP hD hS hA hlv => va_mmax hF.1 hF.2.1 (hF.2.2.1.trans hlv.1.symm) hF.2.2.2.1 (hF.2.2.2.2.1 _ (xw_of hl)) (hF.2.2.2.2.1 _ (xw_of xmw_max.1)) (hF.2.2.2.2.1 _ (xw_of xmw_max.2.1)) (hF.2.2.2.2.1 _ (xw_of xmw_max.2.2)) (Nat.le_trans hroom.1 hF.2.2.2.2.2.2.2.1) (Nat.le_trans hroom.2 hF.2.2.2.2.2.2.2.2.1) (Nat.le_trans hb.1 hF.2.2.2.2.2.2.2.2.2.1) (Nat.le_trans hb.2 hF.2.2.2.2.2.2.2.2.2.2.1) hd (kk p e R s m args below meth c H locs ls A hF hP hD hS hA hlv)
theorem cR_vret (pc : Nat) (ht : xt Y = none) (hr : r = none) (hb : nc ≤ mc ∧ ns ≤ ms) (hw : Pw ws) (hd : decode (xb Y) pc = .ok (.return_, 1)) : cR G Y mc ms r Pw pc lv [] ws nc ns :=
  fun p e R s m args below meth c H locs ls A hF hP hD hS hA hlv => W.widen hb.1 hb.2 (by
    rw [hr]
    exact W.vret hF.1 hF.2.1 (hF.2.2.2.2.2.1.trans ht) (fun t h1 hW => ⟨rfl, ⟨ws, hw, by rw [h1]; exact hP, hD⟩, hS.F h1⟩) hS.2.2 hd hF.2.2.2.2.2.2.1)
theorem cR_iret (pc : Nat) {v : Int32} (ht : xt Y = some .int) (hr : r = some (.int v)) (hb : nc ≤ mc ∧ ns ≤ ms) (hw : Pw ws) (hd : decode (xb Y) pc = .ok (.ireturn, 1)) : cR G Y mc ms r Pw pc lv [.int v] ws nc ns :=
  fun p e R s m args below meth c H locs ls A hF hP hD hS hA hlv => W.widen hb.1 hb.2 (by
    rw [hr]
    exact W.iret hF.1 hF.2.1 (hF.2.2.2.2.2.1.trans ht) (fun t h1 hW => ⟨rfl, ⟨ws, hw, by rw [h1]; exact hP, hD⟩, hS.F h1⟩) hS.2.2 hd hF.2.2.2.2.2.2.1)
theorem cblind {av : List Value} {sz : Nat} {W0 : va_W} : FrameBlind (va_Pc av (fun U => U.heap.size = sz ∧ va_P (xD G) xcl W0 U.heap ∧ cK G U ∧ va_D (fun _ => True) W0)) := by
  intro a U g mk h
  obtain ⟨h1, h2, h3, h4, h5⟩ := h
  exact ⟨h1, h2, h3, h4.same (u := U) (U := U.calling g mk a) rfl, h5⟩
/-- behind a call over some of the world's cells -/
theorem cR_back {mc2 ms2 : Nat} {r2 : Option Value} {Pw2 : va_W → Prop} {wc wr : va_W} {rest st0 : List Value} {pc : Nat} {av : Array Value}
    {p : Program} {e : Env} {R : Room} {s : State} {m : MethodId} {args : Array Value} {below : List Frame} {meth : Method} {c : Code} {H : Heap} {locs : List Loc} {ls : Array Slot} {A : Nat → Prop}
    (hrun : va_Run p (xl G) e R s m args below meth c H locs nc ns mc2 ms2 (F0 m pc ls st0) rest (cQ G r2 Pw2 (va_A wc H.size) av) (va_A wc H.size))
    (isC isR : List Nat) (hC : isC.map (fun i => ws[i]?) = wc.map some) (hR : isR.map (fun i => ws[i]?) = wr.map some) (hn : va_nd isR = true) (hdis : ∀ i ∈ isR, i ∉ isC)
    (kk : ∀ w1, Pw2 w1 → cR G Y mc ms r Pw (pc + 3) lv (r2.toList ++ rest) (wr ++ w1) (nc + mc2) (ns + ms2))
    (hF : cF G Y mc ms p R s m args meth c) (hP : va_P (xD G) xcl ws H) (hD : va_D A ws) (hS : va_S A s.heap H locs) (hA : ∀ q : Nat, s.heap.size ≤ q → A q) (hl : lv_has ls (xL Y) lv) :
    W p (xl G) e R s m args below meth c H locs nc ns (MQ below (cQ G r Pw A) args s mc ms A) (F0 m pc ls st0) := by
  intro T hT X
  obtain ⟨v, st₀, t, T', L, h0, X', hL, e1, e2, ⟨hv, ⟨w1, hw1, hP1, hD1⟩, hFr⟩, stp⟩ := hrun T hT X
  have hv : v = r2 := Outcome.returned.inj hv
  subst hv
  have hz := hFr.1
  have hk := hFr.2
  rw [h0] at hz hk
  have hFc := va_free (wc := wc) hD hS hA isC hC
  obtain ⟨hP2, hD2⟩ := va_join (wr := wr) (w1 := w1) (H1 := T'.heap) hP hD isC isR hC hR hn hdis (fun q h1 h2 => by rw [e1]; exact hk q h1 h2) hFc (by rw [e1]; exact hP1) hD1
  obtain ⟨t2, a1, b1⟩ := kk w1 hw1 p e R s m args below meth c T'.heap (locs ++ L) ls A hF hP2 hD2
    ⟨Nat.le_trans hS.1 (by rw [e1]; exact hz), fun q h1 h2 => by rw [e1, hk q (Nat.lt_of_lt_of_le h1 hS.1) (fun z => h2 (hFc q z))]; exact hS.2.1 q h1 h2, fun q hq => by
      rcases List.mem_append.mp hq with h | h
      · exact hS.2.2 q h
      · exact hFc _ (hL q h)⟩ hA hl T' rfl X'
  exact ⟨t2, stp t2 a1, b1⟩
theorem cpre {p : Program} {R : Room} {s : State} {m : MethodId} {args : Array Value} {meth : Method} {c : Code} {H : Heap} {A : Nat → Prop} {wc : va_W} (hF : cF G Y mc ms p R s m args meth c) (hP : va_P (xD G) xcl ws H) (hD : va_D A ws) (isC : List Nat) (hnC : va_nd isC = true) (hC : isC.map (fun i => ws[i]?) = wc.map some) (av : List Value) : ∀ U : State, U.heap = H → s.WarmedH U.vm → va_Pc av (fun U => U.heap.size = H.size ∧ va_P (xD G) xcl wc U.heap ∧ cK G U ∧ va_D (fun _ => True) wc) av.toArray U :=
  fun U hU hW => ⟨rfl, by rw [hU], by
    rw [hU]
    intro k q hk
    have h1 : (isC.map (fun i => ws[i]?))[k]? = some (some q) := by rw [hC, List.getElem?_map, hk]; rfl
    rw [List.getElem?_map] at h1
    cases hi : isC[k]? with
    | none => rw [hi] at h1; cases h1
    | some i => rw [hi] at h1; exact hP i q (Option.some.inj h1), hF.2.2.2.2.2.2.2.2.2.2.2.1.warm hW, (hD.sub isC hnC hC).weaken (fun _ _ _ _ => trivial)⟩
/-- a constructor's call -/
theorem cR_callI (pc : Nat) {idx n mc2 ms2 : Nat} {Y2 : xY} (hcw : xcw Y2 n) (hi : Cond.instanceMethod (xn Y2) ∈ lw_tb) (hnm : (xn Y2).name = "<init>") (hnone : xt Y2 = none) (hl : Cond.methodLink (xn Y).cls idx (xn Y2) ∈ lw_tb) (hroom : xf Y2 + 1 ≤ xf Y ∧ 8 + (xL Y2 + 11) + xo Y2 ≤ xo Y) (hb : nc + mc2 ≤ mc ∧ ns + ms2 ≤ ms) {a : Nat} (As : List Value) {rest st0 : List Value} (hn : As.length = n) (hst : st0 = As.reverse ++ .ref a :: rest) (hr8 : (rest.map fun v => v.category).sum ≤ 8) (hd : decode (xb Y) pc = .ok (.invokespecial idx, 3))
    {wc wr : va_W} {Pw2 : va_W → Prop} (hcon : cCt G Y2 mc2 ms2 (.ref a :: As) wc none Pw2) (isC isR : List Nat) (hnC : va_nd isC = true) (hC : isC.map (fun i => ws[i]?) = wc.map some) (hR : isR.map (fun i => ws[i]?) = wr.map some) (hnR : va_nd isR = true) (hdis : ∀ i ∈ isR, i ∉ isC)
    (kk : ∀ w1, Pw2 w1 → cR G Y mc ms r Pw (pc + 3) lv rest (wr ++ w1) (nc + mc2) (ns + ms2)) : cR G Y mc ms r Pw pc lv st0 ws nc ns := by
  intro p e R s m args below meth c H locs ls A hF hP hD hS hA hlv
  obtain ⟨hx, hb', hml, hown, hts, hret, hlk, hfr, hlo, hmc, hms, hKK, hnam⟩ := id hF
  have hG := xw_good (Y := Y) hcw
  have tb : ∀ w ∈ lw_tb, w.before args s = true := fun w hw => hts w (xw_of hw)
  have cb : CallB R s args (xn Y).cls idx (xn Y2) (xb Y2) (xL Y2) none (xw Y2) { frames := xf Y2, cells := mc2, slots := ms2, locals := xo Y2 } mc2 ms2 n := callB_of n hts hG (by unfold xw; rw [hnone]) rfl rfl (tb _ hcw.2.1) (tb _ hl) ⟨hcw.2.2.1.1, hcw.2.2.1.2, hcw.2.2.2⟩ ⟨Nat.le_trans hroom.1 hfr, Nat.le_trans hroom.2 hlo⟩
  exact cR_back (va_runI (As := As) (rest := rest) (b := a) ⟨hx, hb', hml, hown, hts⟩ (hcon H.size) ⟨cb, hnm, tb _ hi⟩ ⟨cblind, cpre hF hP hD isC hnC hC _⟩ rfl hn hlv.1 hst (lv_room hr8) hd ⟨Nat.le_trans hb.1 hmc, Nat.le_trans hb.2 hms⟩) isC isR hC hR hnR hdis kk hF hP hD hS hA hlv
/-- a nest mate's constructor's call -/
theorem cR_callIN (pc : Nat) {idx n mc2 ms2 : Nat} {host : String} {Y2 : xY} (hcw : xcw Y2 n) (hi : Cond.instanceMethod (xn Y2) ∈ lw_tb) (hnm : (xn Y2).name = "<init>") (hnone : xt Y2 = none) (hl : ((xn Y).cls, idx, xn Y2, host) ∈ xnk) (hroom : xf Y2 + 1 ≤ xf Y ∧ 8 + (xL Y2 + 11) + xo Y2 ≤ xo Y) (hb : nc + mc2 ≤ mc ∧ ns + ms2 ≤ ms) {a : Nat} (As : List Value) {rest st0 : List Value} (hn : As.length = n) (hst : st0 = As.reverse ++ .ref a :: rest) (hr8 : (rest.map fun v => v.category).sum ≤ 8) (hd : decode (xb Y) pc = .ok (.invokespecial idx, 3))
    {wc wr : va_W} {Pw2 : va_W → Prop} (hcon : cCt G Y2 mc2 ms2 (.ref a :: As) wc none Pw2) (isC isR : List Nat) (hnC : va_nd isC = true) (hC : isC.map (fun i => ws[i]?) = wc.map some) (hR : isR.map (fun i => ws[i]?) = wr.map some) (hnR : va_nd isR = true) (hdis : ∀ i ∈ isR, i ∉ isC)
    (kk : ∀ w1, Pw2 w1 → cR G Y mc ms r Pw (pc + 3) lv rest (wr ++ w1) (nc + mc2) (ns + ms2)) : cR G Y mc ms r Pw pc lv st0 ws nc ns := by
  intro p e R s m args below meth c H locs ls A hF hP hD hS hA hlv
  obtain ⟨hx, hb', hml, hown, hts, hret, hlk, hfr, hlo, hmc, hms, hKK, hnam⟩ := id hF
  have hG := xw_good (Y := Y) hcw
  have tb : ∀ w ∈ lw_tb, w.before args s = true := fun w hw => hts w (xw_of hw)
  have cb : va_CN R s args (xn Y).cls idx (xn Y2) host (xb Y2) (xL Y2) none (xw Y2) { frames := xf Y2, cells := mc2, slots := ms2, locals := xo Y2 } mc2 ms2 n := va_cnB n hts hG (by unfold xw; rw [hnone]) rfl rfl (hKK.2 _ hl) (tb _ hcw.2.1) ⟨hcw.2.2.1.1, hcw.2.2.1.2, hcw.2.2.2⟩ ⟨Nat.le_trans hroom.1 hfr, Nat.le_trans hroom.2 hlo⟩
  exact cR_back (va_runIN (As := As) (rest := rest) (b := a) ⟨hx, hb', hml, hown, hts⟩ (hcon H.size) ⟨cb, hnm, tb _ hi⟩ ⟨cblind, cpre hF hP hD isC hnC hC _⟩ rfl hn hlv.1 hst (lv_room hr8) hd ⟨Nat.le_trans hb.1 hmc, Nat.le_trans hb.2 hms⟩) isC isR hC hR hnR hdis kk hF hP hD hS hA hlv
/-- a method's call -/
theorem cR_callV (pc : Nat) {idx n mc2 ms2 ci N : Nat} {C : String} {Tt : u_T} {ty : Nat → FieldType} {Y2 : xY} {r2 : Option Value} (hcv : xcv Y2 n) (hl : Cond.methodLink (xn Y).cls idx (xn Y2) ∈ lw_tb) (hroom : xf Y2 + 1 ≤ xf Y ∧ 8 + (xL Y2 + 11) + xo Y2 ≤ xo Y) (hb : nc + mc2 ≤ mc ∧ ns + ms2 ≤ ms) (hcf : xcf ci C Tt N ty) (hCC : (xn Y2).cls = C) (q0 : Nat) {a : Nat} {fs : List Value} (he : ws[q0]? = some (a, .inr (ci, fs))) (As : List Value) {rest st0 : List Value} (hn : As.length = n) (hst : st0 = As.reverse ++ .ref a :: rest) (hr8 : (rest.map fun v => v.category).sum ≤ 8) (hd : decode (xb Y) pc = .ok (.invokevirtual idx, 3))
    {wc wr : va_W} {Pw2 : va_W → Prop} (hcon : cCt G Y2 mc2 ms2 (.ref a :: As) wc r2 Pw2) (isC isR : List Nat) (hnC : va_nd isC = true) (hC : isC.map (fun i => ws[i]?) = wc.map some) (hR : isR.map (fun i => ws[i]?) = wr.map some) (hnR : va_nd isR = true) (hdis : ∀ i ∈ isR, i ∉ isC)
    (kk : ∀ w1, Pw2 w1 → cR G Y mc ms r Pw (pc + 3) lv (r2.toList ++ rest) (wr ++ w1) (nc + mc2) (ns + ms2)) : cR G Y mc ms r Pw pc lv st0 ws nc ns := by
  intro p e R s m args below meth c H locs ls A hF hP hD hS hA hlv
  obtain ⟨hx, hb', hml, hown, hts, hret, hlk, hfr, hlo, hmc, hms, hKK, hnam⟩ := id hF
  have hG := xw_good (Y := Y) hcv.1
  have tb : ∀ w ∈ lw_tb, w.before args s = true := fun w hw => hts w (xw_of hw)
  have cb : CallB R s args (xn Y).cls idx (xn Y2) (xb Y2) (xL Y2) (xt Y2) (xw Y2) { frames := xf Y2, cells := mc2, slots := ms2, locals := xo Y2 } mc2 ms2 n := callB_of n hts hG rfl rfl rfl (tb _ hcv.1.2.1) (tb _ hl) ⟨hcv.1.2.2.1.1, hcv.1.2.2.1.2, hcv.1.2.2.2⟩ ⟨Nat.le_trans hroom.1 hfr, Nat.le_trans hroom.2 hlo⟩
  exact cR_back (va_runV (As := As) (rest := rest) (C := C) (b := a) ⟨hx, hb', hml, hown, hts⟩ (hcon H.size) ⟨cb, tb _ hcv.2.1, by rw [← hCC]; exact tb _ hcv.2.2⟩ ⟨cblind, va_recv hKK.1 hP hcf.1 he, cpre hF hP hD isC hnC hC _⟩ rfl hn hlv.1 hst (lv_room hr8) hd ⟨Nat.le_trans hb.1 hmc, Nat.le_trans hb.2 hms⟩) isC isR hC hR hnR hdis kk hF hP hD hS hA hlv
end CR
end
section
/-! CONSTRUCTORS walked (written by gen_ctor.py) -/
/-- a Table and its row -/
def wlT (G : xG) (r w : Int32) (N : Nat) (f : Nat → Nat) : va_W := [((f 0), .inr (3, [.int r, .int w, .ref (f 1), .int 0])), ((f 1), .inl (xI G, N, .inl (fun _ => 0)))]
def wlB (G : xG) (f : Nat → Nat) : va_W := [((f 0), .inr (0, [.ref (f 1), .int 0])), ((f 1), .inr (3, [.int 6, .int 6, .ref (f 2), .int 0])), ((f 2), .inl (xI G, 36, .inl (fun _ => 0)))]
def wlW (G : xG) (f : Nat → Nat) : va_W := [((f 0), .inr (5, [.ref (f 1), .ref (f 4), .ref (f 6), .ref (f 8), .ref (f 10), .ref (f 12), .ref (f 14)])), ((f 1), .inr (0, [.ref (f 2), .int 0])), ((f 2), .inr (3, [.int 6, .int 6, .ref (f 3), .int 0])), ((f 3), .inl (xI G, 36, .inl (fun _ => 0))), ((f 4), .inr (3, [.int 8, .int 37, .ref (f 5), .int 0])), ((f 5), .inl (xI G, 296, .inl (fun _ => 0))), ((f 6), .inr (3, [.int 5, .int 1, .ref (f 7), .int 5])), ((f 7), .inl (xI G, 5, .inl (fun _ => 0))), ((f 8), .inr (3, [.int 4, .int 1, .ref (f 9), .int 0])), ((f 9), .inl (xI G, 4, .inl (fun _ => 0))), ((f 10), .inr (3, [.int 6, .int 2, .ref (f 11), .int 0])), ((f 11), .inl (xI G, 12, .inl (fun _ => 0))), ((f 12), .inr (3, [.int 6, .int 5, .ref (f 13), .int 0])), ((f 13), .inl (xI G, 30, .inl (fun _ => 0))), ((f 14), .inr (3, [.int 6, .int 6, .ref (f 15), .int 0])), ((f 15), .inl (xI G, 36, .inl (fun _ => 0)))]
def wlO (G : xG) (f : Nat → Nat) : va_W := [((f 0), .inr (4, [.ref (f 1), .int 0])), ((f 1), .inr (3, [.int 151, .int 3, .ref (f 2), .int 0])), ((f 2), .inl (xI G, 453, .inl (fun _ => 0)))]
def wlR (G : xG) (f : Nat → Nat) : va_W := [((f 0), .inr (2, [.ref (f 1), .ref (f 4), .int 0, .int 0, .int 0])), ((f 1), .inr (4, [.ref (f 2), .int 0])), ((f 2), .inr (3, [.int 151, .int 3, .ref (f 3), .int 0])), ((f 3), .inl (xI G, 453, .inl (fun _ => 0))), ((f 4), .inr (5, [.ref (f 5), .ref (f 8), .ref (f 10), .ref (f 12), .ref (f 14), .ref (f 16), .ref (f 18)])), ((f 5), .inr (0, [.ref (f 6), .int 0])), ((f 6), .inr (3, [.int 6, .int 6, .ref (f 7), .int 0])), ((f 7), .inl (xI G, 36, .inl (fun _ => 0))), ((f 8), .inr (3, [.int 8, .int 37, .ref (f 9), .int 0])), ((f 9), .inl (xI G, 296, .inl (fun _ => 0))), ((f 10), .inr (3, [.int 5, .int 1, .ref (f 11), .int 5])), ((f 11), .inl (xI G, 5, .inl (fun _ => 0))), ((f 12), .inr (3, [.int 4, .int 1, .ref (f 13), .int 0])), ((f 13), .inl (xI G, 4, .inl (fun _ => 0))), ((f 14), .inr (3, [.int 6, .int 2, .ref (f 15), .int 0])), ((f 15), .inl (xI G, 12, .inl (fun _ => 0))), ((f 16), .inr (3, [.int 6, .int 5, .ref (f 17), .int 0])), ((f 17), .inl (xI G, 30, .inl (fun _ => 0))), ((f 18), .inr (3, [.int 6, .int 6, .ref (f 19), .int 0])), ((f 19), .inl (xI G, 36, .inl (fun _ => 0)))]
def wlK (G : xG) (f : Nat → Nat) : va_W := [((f 0), .inr (1, [.ref (f 1), .ref (f 3), .ref (f 5), .int 0, .int 0])), ((f 1), .inr (3, [.int 4, .int 64, .ref (f 2), .int 0])), ((f 2), .inl (xI G, 256, .inl (fun _ => 0))), ((f 3), .inr (3, [.int 64, .int 1, .ref (f 4), .int 0])), ((f 4), .inl (xI G, 64, .inl (fun _ => 0))), ((f 5), .inr (3, [.int 4, .int 1, .ref (f 6), .int 0])), ((f 6), .inl (xI G, 4, .inl (fun _ => 0)))]
def wlH (G : xG) (f : Nat → Nat) : va_W := [((f 0), .inr (6, [.ref (f 1), .ref (f 17), .ref (f 33), .ref (f 49), .ref (f 52), .ref (f 54), .ref (f 74), .ref (f 81), .ref (f 83), .int 0, .int 0, .long 0, .long 1, .int 0, .int 0, .int 0])), ((f 1), .inr (5, [.ref (f 2), .ref (f 5), .ref (f 7), .ref (f 9), .ref (f 11), .ref (f 13), .ref (f 15)])), ((f 2), .inr (0, [.ref (f 3), .int 0])), ((f 3), .inr (3, [.int 6, .int 6, .ref (f 4), .int 0])), ((f 4), .inl (xI G, 36, .inl (fun _ => 0))), ((f 5), .inr (3, [.int 8, .int 37, .ref (f 6), .int 0])), ((f 6), .inl (xI G, 296, .inl (fun _ => 0))), ((f 7), .inr (3, [.int 5, .int 1, .ref (f 8), .int 5])), ((f 8), .inl (xI G, 5, .inl (fun _ => 0))), ((f 9), .inr (3, [.int 4, .int 1, .ref (f 10), .int 0])), ((f 10), .inl (xI G, 4, .inl (fun _ => 0))), ((f 11), .inr (3, [.int 6, .int 2, .ref (f 12), .int 0])), ((f 12), .inl (xI G, 12, .inl (fun _ => 0))), ((f 13), .inr (3, [.int 6, .int 5, .ref (f 14), .int 0])), ((f 14), .inl (xI G, 30, .inl (fun _ => 0))), ((f 15), .inr (3, [.int 6, .int 6, .ref (f 16), .int 0])), ((f 16), .inl (xI G, 36, .inl (fun _ => 0))), ((f 17), .inr (5, [.ref (f 18), .ref (f 21), .ref (f 23), .ref (f 25), .ref (f 27), .ref (f 29), .ref (f 31)])), ((f 18), .inr (0, [.ref (f 19), .int 0])), ((f 19), .inr (3, [.int 6, .int 6, .ref (f 20), .int 0])), ((f 20), .inl (xI G, 36, .inl (fun _ => 0))), ((f 21), .inr (3, [.int 8, .int 37, .ref (f 22), .int 0])), ((f 22), .inl (xI G, 296, .inl (fun _ => 0))), ((f 23), .inr (3, [.int 5, .int 1, .ref (f 24), .int 5])), ((f 24), .inl (xI G, 5, .inl (fun _ => 0))), ((f 25), .inr (3, [.int 4, .int 1, .ref (f 26), .int 0])), ((f 26), .inl (xI G, 4, .inl (fun _ => 0))), ((f 27), .inr (3, [.int 6, .int 2, .ref (f 28), .int 0])), ((f 28), .inl (xI G, 12, .inl (fun _ => 0))), ((f 29), .inr (3, [.int 6, .int 5, .ref (f 30), .int 0])), ((f 30), .inl (xI G, 30, .inl (fun _ => 0))), ((f 31), .inr (3, [.int 6, .int 6, .ref (f 32), .int 0])), ((f 32), .inl (xI G, 36, .inl (fun _ => 0))), ((f 33), .inr (5, [.ref (f 34), .ref (f 37), .ref (f 39), .ref (f 41), .ref (f 43), .ref (f 45), .ref (f 47)])), ((f 34), .inr (0, [.ref (f 35), .int 0])), ((f 35), .inr (3, [.int 6, .int 6, .ref (f 36), .int 0])), ((f 36), .inl (xI G, 36, .inl (fun _ => 0))), ((f 37), .inr (3, [.int 8, .int 37, .ref (f 38), .int 0])), ((f 38), .inl (xI G, 296, .inl (fun _ => 0))), ((f 39), .inr (3, [.int 5, .int 1, .ref (f 40), .int 5])), ((f 40), .inl (xI G, 5, .inl (fun _ => 0))), ((f 41), .inr (3, [.int 4, .int 1, .ref (f 42), .int 0])), ((f 42), .inl (xI G, 4, .inl (fun _ => 0))), ((f 43), .inr (3, [.int 6, .int 2, .ref (f 44), .int 0])), ((f 44), .inl (xI G, 12, .inl (fun _ => 0))), ((f 45), .inr (3, [.int 6, .int 5, .ref (f 46), .int 0])), ((f 46), .inl (xI G, 30, .inl (fun _ => 0))), ((f 47), .inr (3, [.int 6, .int 6, .ref (f 48), .int 0])), ((f 48), .inl (xI G, 36, .inl (fun _ => 0))), ((f 49), .inr (0, [.ref (f 50), .int 0])), ((f 50), .inr (3, [.int 6, .int 6, .ref (f 51), .int 0])), ((f 51), .inl (xI G, 36, .inl (fun _ => 0))), ((f 52), .inr (3, [.int 150, .int 1, .ref (f 53), .int 0])), ((f 53), .inl (xI G, 150, .inl (fun _ => 0))), ((f 54), .inr (2, [.ref (f 55), .ref (f 58), .int 0, .int 0, .int 0])), ((f 55), .inr (4, [.ref (f 56), .int 0])), ((f 56), .inr (3, [.int 151, .int 3, .ref (f 57), .int 0])), ((f 57), .inl (xI G, 453, .inl (fun _ => 0))), ((f 58), .inr (5, [.ref (f 59), .ref (f 62), .ref (f 64), .ref (f 66), .ref (f 68), .ref (f 70), .ref (f 72)])), ((f 59), .inr (0, [.ref (f 60), .int 0])), ((f 60), .inr (3, [.int 6, .int 6, .ref (f 61), .int 0])), ((f 61), .inl (xI G, 36, .inl (fun _ => 0))), ((f 62), .inr (3, [.int 8, .int 37, .ref (f 63), .int 0])), ((f 63), .inl (xI G, 296, .inl (fun _ => 0))), ((f 64), .inr (3, [.int 5, .int 1, .ref (f 65), .int 5])), ((f 65), .inl (xI G, 5, .inl (fun _ => 0))), ((f 66), .inr (3, [.int 4, .int 1, .ref (f 67), .int 0])), ((f 67), .inl (xI G, 4, .inl (fun _ => 0))), ((f 68), .inr (3, [.int 6, .int 2, .ref (f 69), .int 0])), ((f 69), .inl (xI G, 12, .inl (fun _ => 0))), ((f 70), .inr (3, [.int 6, .int 5, .ref (f 71), .int 0])), ((f 71), .inl (xI G, 30, .inl (fun _ => 0))), ((f 72), .inr (3, [.int 6, .int 6, .ref (f 73), .int 0])), ((f 73), .inl (xI G, 36, .inl (fun _ => 0))), ((f 74), .inr (1, [.ref (f 75), .ref (f 77), .ref (f 79), .int 0, .int 0])), ((f 75), .inr (3, [.int 4, .int 64, .ref (f 76), .int 0])), ((f 76), .inl (xI G, 256, .inl (fun _ => 0))), ((f 77), .inr (3, [.int 64, .int 1, .ref (f 78), .int 0])), ((f 78), .inl (xI G, 64, .inl (fun _ => 0))), ((f 79), .inr (3, [.int 4, .int 1, .ref (f 80), .int 0])), ((f 80), .inl (xI G, 4, .inl (fun _ => 0))), ((f 81), .inr (3, [.int 6, .int 1, .ref (f 82), .int 0])), ((f 82), .inl (xI G, 6, .inl (fun _ => 0))), ((f 83), .inr (3, [.int 4, .int 1, .ref (f 84), .int 0])), ((f 84), .inl (xI G, 4, .inl (fun _ => 0)))]
def wlM (G : xG) (f : Nat → Nat) : va_W := [((f 0), .inr (7, [.ref (f 1), .ref (f 2), .ref (f 3), .int 0, .long 0, .long 1, .ref (f 4), .int 0, .int 0, .int 0, .ref (f 5), .ref (f 6), .long 0])), ((f 1), .inl (xI G, 1752, .inl (fun _ => 0))), ((f 2), .inl (xZ G, 2, .inl (fun _ => 0))), ((f 3), .inl (xI G, 150, .inl (fun _ => 0))), ((f 4), .inl (xI G, 3, .inl (fun _ => 0))), ((f 5), .inl (xI G, 6, .inl (fun _ => 0))), ((f 6), .inl (xI G, 6, .inl (fun _ => 0)))]
def yyT_init : xY := (⟨RX4, "<init>", "(II)V"⟩, prog_6_method_1_code, 3, none, 1, 21)
def yyB_init : xY := (⟨RX0, "<init>", "()V"⟩, prog_2_method_1_code, 1, none, 2, 43)
def yyW_init : xY := (⟨RX6, "<init>", "()V"⟩, prog_8_method_1_code, 1, none, 3, 63)
def yyO_init : xY := (⟨RX5, "<init>", "()V"⟩, prog_7_method_1_code, 1, none, 2, 43)
def yyR_init : xY := (⟨RX2, "<init>", "()V"⟩, prog_4_method_1_code, 1, none, 4, 83)
def yyK_init : xY := (⟨RX1, "<init>", "()V"⟩, prog_3_method_1_code, 1, none, 2, 43)
def yyH_init : xY := (⟨RX8, "<init>", "()V"⟩, prog_1_method_1_code, 1, none, 5, 103)
def yyM_init : xY := (⟨RX9, "<init>", "()V"⟩, prog_11_method_1_code, 1, none, 1, 20)
theorem oi_in : Cond.instanceMethod Lib.objectInit ∈ lw_tb := by decide +kernel
theorem oi_co : Cond.code Lib.objectInit ⟨#[0xb1]⟩ 1 none ∈ lw_tb := by decide +kernel
theorem ml_RX4_3 : Cond.methodLink RX4 3 ⟨"java/lang/Object", "<init>", "()V"⟩ ∈ lw_tb := lw_tb_at 43 (by decide +kernel) rfl
theorem ka_int : Cond.arrayClass .int ∈ lw_tb := lw_tb_at 61 (by decide +kernel) rfl
theorem ml_RX0_3 : Cond.methodLink RX0 3 ⟨"java/lang/Object", "<init>", "()V"⟩ ∈ lw_tb := lw_tb_at 37 (by decide +kernel) rfl
theorem kl_RX0_9 : Cond.classLink RX0 9 RX4 ∈ lw_tb := lw_tb_at 38 (by decide +kernel) rfl
theorem ki_RX4 : Cond.instantiable RX4 4 ∈ lw_tb := lw_tb_at 39 (by decide +kernel) rfl
theorem kn_RX4 : Cond.initialized RX4 ∈ lw_tb := lw_tb_at 4 (by decide +kernel) rfl
theorem ck_T_init : xcw yyT_init 2 := ⟨lw_tb_at 42 (by decide +kernel) rfl, lw_tb_at 4 (by decide +kernel) rfl, ⟨by decide +kernel, by decide +kernel⟩, by decide +kernel⟩
theorem cn_T_init : Cond.instanceMethod (xn yyT_init) ∈ lw_tb := lw_tb_at 41 (by decide +kernel) rfl
theorem ml_RX0_11 : Cond.methodLink RX0 11 ⟨"HouseFiddles$Table", "<init>", "(II)V"⟩ ∈ lw_tb := lw_tb_at 40 (by decide +kernel) rfl
theorem ml_RX6_3 : Cond.methodLink RX6 3 ⟨"java/lang/Object", "<init>", "()V"⟩ ∈ lw_tb := lw_tb_at 31 (by decide +kernel) rfl
theorem kl_RX6_9 : Cond.classLink RX6 9 RX0 ∈ lw_tb := lw_tb_at 32 (by decide +kernel) rfl
theorem ki_RX0 : Cond.instantiable RX0 2 ∈ lw_tb := lw_tb_at 33 (by decide +kernel) rfl
theorem kn_RX0 : Cond.initialized RX0 ∈ lw_tb := lw_tb_at 3 (by decide +kernel) rfl
theorem ck_B_init : xcw yyB_init 0 := ⟨lw_tb_at 36 (by decide +kernel) rfl, lw_tb_at 3 (by decide +kernel) rfl, ⟨by decide +kernel, by decide +kernel⟩, by decide +kernel⟩
theorem cn_B_init : Cond.instanceMethod (xn yyB_init) ∈ lw_tb := lw_tb_at 35 (by decide +kernel) rfl
theorem kl_RX6_18 : Cond.classLink RX6 18 RX4 ∈ lw_tb := lw_tb_at 72 (by decide +kernel) rfl
theorem ml_RX6_20 : Cond.methodLink RX6 20 ⟨"HouseFiddles$Table", "<init>", "(II)V"⟩ ∈ lw_tb := lw_tb_at 73 (by decide +kernel) rfl
theorem ml_RX5_3 : Cond.methodLink RX5 3 ⟨"java/lang/Object", "<init>", "()V"⟩ ∈ lw_tb := lw_tb_at 139 (by decide +kernel) rfl
theorem kl_RX5_9 : Cond.classLink RX5 9 RX4 ∈ lw_tb := lw_tb_at 140 (by decide +kernel) rfl
theorem ml_RX5_11 : Cond.methodLink RX5 11 ⟨"HouseFiddles$Table", "<init>", "(II)V"⟩ ∈ lw_tb := lw_tb_at 141 (by decide +kernel) rfl
theorem ml_RX2_3 : Cond.methodLink RX2 3 ⟨"java/lang/Object", "<init>", "()V"⟩ ∈ lw_tb := lw_tb_at 133 (by decide +kernel) rfl
theorem kl_RX2_9 : Cond.classLink RX2 9 RX5 ∈ lw_tb := lw_tb_at 134 (by decide +kernel) rfl
theorem ki_RX5 : Cond.instantiable RX5 2 ∈ lw_tb := lw_tb_at 135 (by decide +kernel) rfl
theorem kn_RX5 : Cond.initialized RX5 ∈ lw_tb := lw_tb_at 7 (by decide +kernel) rfl
theorem ck_O_init : xcw yyO_init 0 := ⟨lw_tb_at 138 (by decide +kernel) rfl, lw_tb_at 7 (by decide +kernel) rfl, ⟨by decide +kernel, by decide +kernel⟩, by decide +kernel⟩
theorem cn_O_init : Cond.instanceMethod (xn yyO_init) ∈ lw_tb := lw_tb_at 137 (by decide +kernel) rfl
theorem kl_RX2_18 : Cond.classLink RX2 18 RX6 ∈ lw_tb := lw_tb_at 150 (by decide +kernel) rfl
theorem ki_RX6 : Cond.instantiable RX6 7 ∈ lw_tb := lw_tb_at 27 (by decide +kernel) rfl
theorem kn_RX6 : Cond.initialized RX6 ∈ lw_tb := lw_tb_at 2 (by decide +kernel) rfl
theorem ck_W_init : xcw yyW_init 0 := ⟨lw_tb_at 30 (by decide +kernel) rfl, lw_tb_at 2 (by decide +kernel) rfl, ⟨by decide +kernel, by decide +kernel⟩, by decide +kernel⟩
theorem cn_W_init : Cond.instanceMethod (xn yyW_init) ∈ lw_tb := lw_tb_at 29 (by decide +kernel) rfl
theorem ml_RX2_20 : Cond.methodLink RX2 20 ⟨"HouseFiddles$Town", "<init>", "()V"⟩ ∈ lw_tb := lw_tb_at 151 (by decide +kernel) rfl
theorem ml_RX1_3 : Cond.methodLink RX1 3 ⟨"java/lang/Object", "<init>", "()V"⟩ ∈ lw_tb := lw_tb_at 174 (by decide +kernel) rfl
theorem kl_RX1_9 : Cond.classLink RX1 9 RX4 ∈ lw_tb := lw_tb_at 175 (by decide +kernel) rfl
theorem ml_RX1_13 : Cond.methodLink RX1 13 ⟨"HouseFiddles$Table", "<init>", "(II)V"⟩ ∈ lw_tb := lw_tb_at 176 (by decide +kernel) rfl
theorem ml_RX8_1 : Cond.methodLink RX8 1 ⟨"java/lang/Object", "<init>", "()V"⟩ ∈ lw_tb := lw_tb_at 23 (by decide +kernel) rfl
theorem kl_RX8_7 : Cond.classLink RX8 7 RX6 ∈ lw_tb := lw_tb_at 26 (by decide +kernel) rfl
theorem ml_RX8_9 : Cond.methodLink RX8 9 ⟨"HouseFiddles$Town", "<init>", "()V"⟩ ∈ lw_tb := lw_tb_at 28 (by decide +kernel) rfl
theorem kl_RX8_22 : Cond.classLink RX8 22 RX0 ∈ lw_tb := lw_tb_at 124 (by decide +kernel) rfl
theorem kl_RX8_29 : Cond.classLink RX8 29 RX4 ∈ lw_tb := lw_tb_at 126 (by decide +kernel) rfl
theorem ml_RX8_31 : Cond.methodLink RX8 31 ⟨"HouseFiddles$Table", "<init>", "(II)V"⟩ ∈ lw_tb := lw_tb_at 127 (by decide +kernel) rfl
theorem kl_RX8_38 : Cond.classLink RX8 38 RX2 ∈ lw_tb := lw_tb_at 128 (by decide +kernel) rfl
theorem ki_RX2 : Cond.instantiable RX2 5 ∈ lw_tb := lw_tb_at 129 (by decide +kernel) rfl
theorem kn_RX2 : Cond.initialized RX2 ∈ lw_tb := lw_tb_at 6 (by decide +kernel) rfl
theorem ck_R_init : xcw yyR_init 0 := ⟨lw_tb_at 132 (by decide +kernel) rfl, lw_tb_at 6 (by decide +kernel) rfl, ⟨by decide +kernel, by decide +kernel⟩, by decide +kernel⟩
theorem cn_R_init : Cond.instanceMethod (xn yyR_init) ∈ lw_tb := lw_tb_at 131 (by decide +kernel) rfl
theorem kl_RX8_45 : Cond.classLink RX8 45 RX1 ∈ lw_tb := lw_tb_at 169 (by decide +kernel) rfl
theorem ki_RX1 : Cond.instantiable RX1 5 ∈ lw_tb := lw_tb_at 170 (by decide +kernel) rfl
theorem kn_RX1 : Cond.initialized RX1 ∈ lw_tb := lw_tb_at 8 (by decide +kernel) rfl
theorem ck_K_init : xcw yyK_init 0 := ⟨lw_tb_at 173 (by decide +kernel) rfl, lw_tb_at 8 (by decide +kernel) rfl, ⟨by decide +kernel, by decide +kernel⟩, by decide +kernel⟩
theorem cn_K_init : Cond.instanceMethod (xn yyK_init) ∈ lw_tb := lw_tb_at 172 (by decide +kernel) rfl
theorem ml_RX9_1 : Cond.methodLink RX9 1 ⟨"java/lang/Object", "<init>", "()V"⟩ ∈ lw_tb := lw_tb_at 943 (by decide +kernel) rfl
theorem ka_boolean : Cond.arrayClass .boolean ∈ lw_tb := lw_tb_at 984 (by decide +kernel) rfl
theorem dT_init_0 : decode (xb yyT_init) 0 = .ok (.aload_n 0, 1) := by decide +kernel
theorem dT_init_1 : decode (xb yyT_init) 1 = .ok (.invokespecial 3, 3) := by decide +kernel
theorem dT_init_4 : decode (xb yyT_init) 4 = .ok (.aload_n 0, 1) := by decide +kernel
theorem dT_init_5 : decode (xb yyT_init) 5 = .ok (.iload_n 1, 1) := by decide +kernel
theorem dT_init_6 : decode (xb yyT_init) 6 = .ok (.iconst 0, 1) := by decide +kernel
theorem dT_init_7 : decode (xb yyT_init) 7 = .ok (.invokestatic 9, 3) := by decide +kernel
theorem dT_init_10 : decode (xb yyT_init) 10 = .ok (.putfield 15, 3) := by decide +kernel
theorem dT_init_13 : decode (xb yyT_init) 13 = .ok (.aload_n 0, 1) := by decide +kernel
theorem dT_init_14 : decode (xb yyT_init) 14 = .ok (.iload_n 2, 1) := by decide +kernel
theorem dT_init_15 : decode (xb yyT_init) 15 = .ok (.iconst 0, 1) := by decide +kernel
theorem dT_init_16 : decode (xb yyT_init) 16 = .ok (.invokestatic 9, 3) := by decide +kernel
theorem dT_init_19 : decode (xb yyT_init) 19 = .ok (.putfield 21, 3) := by decide +kernel
theorem dT_init_22 : decode (xb yyT_init) 22 = .ok (.aload_n 0, 1) := by decide +kernel
theorem dT_init_23 : decode (xb yyT_init) 23 = .ok (.aload_n 0, 1) := by decide +kernel
theorem dT_init_24 : decode (xb yyT_init) 24 = .ok (.getfield 15, 3) := by decide +kernel
theorem dT_init_27 : decode (xb yyT_init) 27 = .ok (.aload_n 0, 1) := by decide +kernel
theorem dT_init_28 : decode (xb yyT_init) 28 = .ok (.getfield 21, 3) := by decide +kernel
theorem dT_init_31 : decode (xb yyT_init) 31 = .ok (.imul, 1) := by decide +kernel
theorem dT_init_32 : decode (xb yyT_init) 32 = .ok (.newarray .int, 2) := by decide +kernel
theorem dT_init_34 : decode (xb yyT_init) 34 = .ok (.putfield 24, 3) := by decide +kernel
theorem dT_init_37 : decode (xb yyT_init) 37 = .ok (.return_, 1) := by decide +kernel
theorem dB_init_0 : decode (xb yyB_init) 0 = .ok (.aload_n 0, 1) := by decide +kernel
theorem dB_init_1 : decode (xb yyB_init) 1 = .ok (.invokespecial 3, 3) := by decide +kernel
theorem dB_init_4 : decode (xb yyB_init) 4 = .ok (.aload_n 0, 1) := by decide +kernel
theorem dB_init_5 : decode (xb yyB_init) 5 = .ok (.new 9, 3) := by decide +kernel
theorem dB_init_8 : decode (xb yyB_init) 8 = .ok (.dup, 1) := by decide +kernel
theorem dB_init_9 : decode (xb yyB_init) 9 = .ok (.bipush 6, 2) := by decide +kernel
theorem dB_init_11 : decode (xb yyB_init) 11 = .ok (.bipush 6, 2) := by decide +kernel
theorem dB_init_13 : decode (xb yyB_init) 13 = .ok (.invokespecial 11, 3) := by decide +kernel
theorem dB_init_16 : decode (xb yyB_init) 16 = .ok (.putfield 14, 3) := by decide +kernel
theorem dB_init_19 : decode (xb yyB_init) 19 = .ok (.return_, 1) := by decide +kernel
theorem dW_init_0 : decode (xb yyW_init) 0 = .ok (.aload_n 0, 1) := by decide +kernel
theorem dW_init_1 : decode (xb yyW_init) 1 = .ok (.invokespecial 3, 3) := by decide +kernel
theorem dW_init_4 : decode (xb yyW_init) 4 = .ok (.aload_n 0, 1) := by decide +kernel
theorem dW_init_5 : decode (xb yyW_init) 5 = .ok (.new 9, 3) := by decide +kernel
theorem dW_init_8 : decode (xb yyW_init) 8 = .ok (.dup, 1) := by decide +kernel
theorem dW_init_9 : decode (xb yyW_init) 9 = .ok (.invokespecial 11, 3) := by decide +kernel
theorem dW_init_12 : decode (xb yyW_init) 12 = .ok (.putfield 12, 3) := by decide +kernel
theorem dW_init_15 : decode (xb yyW_init) 15 = .ok (.aload_n 0, 1) := by decide +kernel
theorem dW_init_16 : decode (xb yyW_init) 16 = .ok (.new 18, 3) := by decide +kernel
theorem dW_init_19 : decode (xb yyW_init) 19 = .ok (.dup, 1) := by decide +kernel
theorem dW_init_20 : decode (xb yyW_init) 20 = .ok (.bipush 8, 2) := by decide +kernel
theorem dW_init_22 : decode (xb yyW_init) 22 = .ok (.bipush 37, 2) := by decide +kernel
theorem dW_init_24 : decode (xb yyW_init) 24 = .ok (.invokespecial 20, 3) := by decide +kernel
theorem dW_init_27 : decode (xb yyW_init) 27 = .ok (.putfield 23, 3) := by decide +kernel
theorem dW_init_30 : decode (xb yyW_init) 30 = .ok (.aload_n 0, 1) := by decide +kernel
theorem dW_init_31 : decode (xb yyW_init) 31 = .ok (.new 18, 3) := by decide +kernel
theorem dW_init_34 : decode (xb yyW_init) 34 = .ok (.dup, 1) := by decide +kernel
theorem dW_init_35 : decode (xb yyW_init) 35 = .ok (.iconst 5, 1) := by decide +kernel
theorem dW_init_36 : decode (xb yyW_init) 36 = .ok (.iconst 1, 1) := by decide +kernel
theorem dW_init_37 : decode (xb yyW_init) 37 = .ok (.invokespecial 20, 3) := by decide +kernel
theorem dW_init_40 : decode (xb yyW_init) 40 = .ok (.putfield 27, 3) := by decide +kernel
theorem dW_init_43 : decode (xb yyW_init) 43 = .ok (.aload_n 0, 1) := by decide +kernel
theorem dW_init_44 : decode (xb yyW_init) 44 = .ok (.new 18, 3) := by decide +kernel
theorem dW_init_47 : decode (xb yyW_init) 47 = .ok (.dup, 1) := by decide +kernel
theorem dW_init_48 : decode (xb yyW_init) 48 = .ok (.iconst 4, 1) := by decide +kernel
theorem dW_init_49 : decode (xb yyW_init) 49 = .ok (.iconst 1, 1) := by decide +kernel
theorem dW_init_50 : decode (xb yyW_init) 50 = .ok (.invokespecial 20, 3) := by decide +kernel
theorem dW_init_53 : decode (xb yyW_init) 53 = .ok (.putfield 30, 3) := by decide +kernel
theorem dW_init_56 : decode (xb yyW_init) 56 = .ok (.aload_n 0, 1) := by decide +kernel
theorem dW_init_57 : decode (xb yyW_init) 57 = .ok (.new 18, 3) := by decide +kernel
theorem dW_init_60 : decode (xb yyW_init) 60 = .ok (.dup, 1) := by decide +kernel
theorem dW_init_61 : decode (xb yyW_init) 61 = .ok (.bipush 6, 2) := by decide +kernel
theorem dW_init_63 : decode (xb yyW_init) 63 = .ok (.iconst 2, 1) := by decide +kernel
theorem dW_init_64 : decode (xb yyW_init) 64 = .ok (.invokespecial 20, 3) := by decide +kernel
theorem dW_init_67 : decode (xb yyW_init) 67 = .ok (.putfield 33, 3) := by decide +kernel
theorem dW_init_70 : decode (xb yyW_init) 70 = .ok (.aload_n 0, 1) := by decide +kernel
theorem dW_init_71 : decode (xb yyW_init) 71 = .ok (.new 18, 3) := by decide +kernel
theorem dW_init_74 : decode (xb yyW_init) 74 = .ok (.dup, 1) := by decide +kernel
theorem dW_init_75 : decode (xb yyW_init) 75 = .ok (.bipush 6, 2) := by decide +kernel
theorem dW_init_77 : decode (xb yyW_init) 77 = .ok (.iconst 5, 1) := by decide +kernel
theorem dW_init_78 : decode (xb yyW_init) 78 = .ok (.invokespecial 20, 3) := by decide +kernel
theorem dW_init_81 : decode (xb yyW_init) 81 = .ok (.putfield 36, 3) := by decide +kernel
theorem dW_init_84 : decode (xb yyW_init) 84 = .ok (.aload_n 0, 1) := by decide +kernel
theorem dW_init_85 : decode (xb yyW_init) 85 = .ok (.new 18, 3) := by decide +kernel
theorem dW_init_88 : decode (xb yyW_init) 88 = .ok (.dup, 1) := by decide +kernel
theorem dW_init_89 : decode (xb yyW_init) 89 = .ok (.bipush 6, 2) := by decide +kernel
theorem dW_init_91 : decode (xb yyW_init) 91 = .ok (.bipush 6, 2) := by decide +kernel
theorem dW_init_93 : decode (xb yyW_init) 93 = .ok (.invokespecial 20, 3) := by decide +kernel
theorem dW_init_96 : decode (xb yyW_init) 96 = .ok (.putfield 39, 3) := by decide +kernel
theorem dW_init_99 : decode (xb yyW_init) 99 = .ok (.aload_n 0, 1) := by decide +kernel
theorem dW_init_100 : decode (xb yyW_init) 100 = .ok (.invokevirtual 42, 3) := by decide +kernel
theorem dW_init_103 : decode (xb yyW_init) 103 = .ok (.return_, 1) := by decide +kernel
theorem dO_init_0 : decode (xb yyO_init) 0 = .ok (.aload_n 0, 1) := by decide +kernel
theorem dO_init_1 : decode (xb yyO_init) 1 = .ok (.invokespecial 3, 3) := by decide +kernel
theorem dO_init_4 : decode (xb yyO_init) 4 = .ok (.aload_n 0, 1) := by decide +kernel
theorem dO_init_5 : decode (xb yyO_init) 5 = .ok (.new 9, 3) := by decide +kernel
theorem dO_init_8 : decode (xb yyO_init) 8 = .ok (.dup, 1) := by decide +kernel
theorem dO_init_9 : decode (xb yyO_init) 9 = .ok (.sipush 151, 3) := by decide +kernel
theorem dO_init_12 : decode (xb yyO_init) 12 = .ok (.iconst 3, 1) := by decide +kernel
theorem dO_init_13 : decode (xb yyO_init) 13 = .ok (.invokespecial 11, 3) := by decide +kernel
theorem dO_init_16 : decode (xb yyO_init) 16 = .ok (.putfield 14, 3) := by decide +kernel
theorem dO_init_19 : decode (xb yyO_init) 19 = .ok (.return_, 1) := by decide +kernel
theorem dR_init_0 : decode (xb yyR_init) 0 = .ok (.aload_n 0, 1) := by decide +kernel
theorem dR_init_1 : decode (xb yyR_init) 1 = .ok (.invokespecial 3, 3) := by decide +kernel
theorem dR_init_4 : decode (xb yyR_init) 4 = .ok (.aload_n 0, 1) := by decide +kernel
theorem dR_init_5 : decode (xb yyR_init) 5 = .ok (.new 9, 3) := by decide +kernel
theorem dR_init_8 : decode (xb yyR_init) 8 = .ok (.dup, 1) := by decide +kernel
theorem dR_init_9 : decode (xb yyR_init) 9 = .ok (.invokespecial 11, 3) := by decide +kernel
theorem dR_init_12 : decode (xb yyR_init) 12 = .ok (.putfield 12, 3) := by decide +kernel
theorem dR_init_15 : decode (xb yyR_init) 15 = .ok (.aload_n 0, 1) := by decide +kernel
theorem dR_init_16 : decode (xb yyR_init) 16 = .ok (.new 18, 3) := by decide +kernel
theorem dR_init_19 : decode (xb yyR_init) 19 = .ok (.dup, 1) := by decide +kernel
theorem dR_init_20 : decode (xb yyR_init) 20 = .ok (.invokespecial 20, 3) := by decide +kernel
theorem dR_init_23 : decode (xb yyR_init) 23 = .ok (.putfield 21, 3) := by decide +kernel
theorem dR_init_26 : decode (xb yyR_init) 26 = .ok (.return_, 1) := by decide +kernel
theorem dK_init_0 : decode (xb yyK_init) 0 = .ok (.aload_n 0, 1) := by decide +kernel
theorem dK_init_1 : decode (xb yyK_init) 1 = .ok (.invokespecial 3, 3) := by decide +kernel
theorem dK_init_4 : decode (xb yyK_init) 4 = .ok (.aload_n 0, 1) := by decide +kernel
theorem dK_init_5 : decode (xb yyK_init) 5 = .ok (.new 9, 3) := by decide +kernel
theorem dK_init_8 : decode (xb yyK_init) 8 = .ok (.dup, 1) := by decide +kernel
theorem dK_init_9 : decode (xb yyK_init) 9 = .ok (.iconst 4, 1) := by decide +kernel
theorem dK_init_10 : decode (xb yyK_init) 10 = .ok (.bipush 64, 2) := by decide +kernel
theorem dK_init_12 : decode (xb yyK_init) 12 = .ok (.invokespecial 13, 3) := by decide +kernel
theorem dK_init_15 : decode (xb yyK_init) 15 = .ok (.putfield 16, 3) := by decide +kernel
theorem dK_init_18 : decode (xb yyK_init) 18 = .ok (.aload_n 0, 1) := by decide +kernel
theorem dK_init_19 : decode (xb yyK_init) 19 = .ok (.new 9, 3) := by decide +kernel
theorem dK_init_22 : decode (xb yyK_init) 22 = .ok (.dup, 1) := by decide +kernel
theorem dK_init_23 : decode (xb yyK_init) 23 = .ok (.bipush 64, 2) := by decide +kernel
theorem dK_init_25 : decode (xb yyK_init) 25 = .ok (.iconst 1, 1) := by decide +kernel
theorem dK_init_26 : decode (xb yyK_init) 26 = .ok (.invokespecial 13, 3) := by decide +kernel
theorem dK_init_29 : decode (xb yyK_init) 29 = .ok (.putfield 20, 3) := by decide +kernel
theorem dK_init_32 : decode (xb yyK_init) 32 = .ok (.aload_n 0, 1) := by decide +kernel
theorem dK_init_33 : decode (xb yyK_init) 33 = .ok (.new 9, 3) := by decide +kernel
theorem dK_init_36 : decode (xb yyK_init) 36 = .ok (.dup, 1) := by decide +kernel
theorem dK_init_37 : decode (xb yyK_init) 37 = .ok (.iconst 4, 1) := by decide +kernel
theorem dK_init_38 : decode (xb yyK_init) 38 = .ok (.iconst 1, 1) := by decide +kernel
theorem dK_init_39 : decode (xb yyK_init) 39 = .ok (.invokespecial 13, 3) := by decide +kernel
theorem dK_init_42 : decode (xb yyK_init) 42 = .ok (.putfield 23, 3) := by decide +kernel
theorem dK_init_45 : decode (xb yyK_init) 45 = .ok (.return_, 1) := by decide +kernel
theorem dH_init_0 : decode (xb yyH_init) 0 = .ok (.aload_n 0, 1) := by decide +kernel
theorem dH_init_1 : decode (xb yyH_init) 1 = .ok (.invokespecial 1, 3) := by decide +kernel
theorem dH_init_4 : decode (xb yyH_init) 4 = .ok (.aload_n 0, 1) := by decide +kernel
theorem dH_init_5 : decode (xb yyH_init) 5 = .ok (.new 7, 3) := by decide +kernel
theorem dH_init_8 : decode (xb yyH_init) 8 = .ok (.dup, 1) := by decide +kernel
theorem dH_init_9 : decode (xb yyH_init) 9 = .ok (.invokespecial 9, 3) := by decide +kernel
theorem dH_init_12 : decode (xb yyH_init) 12 = .ok (.putfield 10, 3) := by decide +kernel
theorem dH_init_15 : decode (xb yyH_init) 15 = .ok (.aload_n 0, 1) := by decide +kernel
theorem dH_init_16 : decode (xb yyH_init) 16 = .ok (.new 7, 3) := by decide +kernel
theorem dH_init_19 : decode (xb yyH_init) 19 = .ok (.dup, 1) := by decide +kernel
theorem dH_init_20 : decode (xb yyH_init) 20 = .ok (.invokespecial 9, 3) := by decide +kernel
theorem dH_init_23 : decode (xb yyH_init) 23 = .ok (.putfield 16, 3) := by decide +kernel
theorem dH_init_26 : decode (xb yyH_init) 26 = .ok (.aload_n 0, 1) := by decide +kernel
theorem dH_init_27 : decode (xb yyH_init) 27 = .ok (.new 7, 3) := by decide +kernel
theorem dH_init_30 : decode (xb yyH_init) 30 = .ok (.dup, 1) := by decide +kernel
theorem dH_init_31 : decode (xb yyH_init) 31 = .ok (.invokespecial 9, 3) := by decide +kernel
theorem dH_init_34 : decode (xb yyH_init) 34 = .ok (.putfield 19, 3) := by decide +kernel
theorem dH_init_37 : decode (xb yyH_init) 37 = .ok (.aload_n 0, 1) := by decide +kernel
theorem dH_init_38 : decode (xb yyH_init) 38 = .ok (.new 22, 3) := by decide +kernel
theorem dH_init_41 : decode (xb yyH_init) 41 = .ok (.dup, 1) := by decide +kernel
theorem dH_init_42 : decode (xb yyH_init) 42 = .ok (.invokespecial 24, 3) := by decide +kernel
theorem dH_init_45 : decode (xb yyH_init) 45 = .ok (.putfield 25, 3) := by decide +kernel
theorem dH_init_48 : decode (xb yyH_init) 48 = .ok (.aload_n 0, 1) := by decide +kernel
theorem dH_init_49 : decode (xb yyH_init) 49 = .ok (.new 29, 3) := by decide +kernel
theorem dH_init_52 : decode (xb yyH_init) 52 = .ok (.dup, 1) := by decide +kernel
theorem dH_init_53 : decode (xb yyH_init) 53 = .ok (.sipush 150, 3) := by decide +kernel
theorem dH_init_56 : decode (xb yyH_init) 56 = .ok (.iconst 1, 1) := by decide +kernel
theorem dH_init_57 : decode (xb yyH_init) 57 = .ok (.invokespecial 31, 3) := by decide +kernel
theorem dH_init_60 : decode (xb yyH_init) 60 = .ok (.putfield 34, 3) := by decide +kernel
theorem dH_init_63 : decode (xb yyH_init) 63 = .ok (.aload_n 0, 1) := by decide +kernel
theorem dH_init_64 : decode (xb yyH_init) 64 = .ok (.new 38, 3) := by decide +kernel
theorem dH_init_67 : decode (xb yyH_init) 67 = .ok (.dup, 1) := by decide +kernel
theorem dH_init_68 : decode (xb yyH_init) 68 = .ok (.invokespecial 40, 3) := by decide +kernel
theorem dH_init_71 : decode (xb yyH_init) 71 = .ok (.putfield 41, 3) := by decide +kernel
theorem dH_init_74 : decode (xb yyH_init) 74 = .ok (.aload_n 0, 1) := by decide +kernel
theorem dH_init_75 : decode (xb yyH_init) 75 = .ok (.new 45, 3) := by decide +kernel
theorem dH_init_78 : decode (xb yyH_init) 78 = .ok (.dup, 1) := by decide +kernel
theorem dH_init_79 : decode (xb yyH_init) 79 = .ok (.invokespecial 47, 3) := by decide +kernel
theorem dH_init_82 : decode (xb yyH_init) 82 = .ok (.putfield 48, 3) := by decide +kernel
theorem dH_init_85 : decode (xb yyH_init) 85 = .ok (.aload_n 0, 1) := by decide +kernel
theorem dH_init_86 : decode (xb yyH_init) 86 = .ok (.new 29, 3) := by decide +kernel
theorem dH_init_89 : decode (xb yyH_init) 89 = .ok (.dup, 1) := by decide +kernel
theorem dH_init_90 : decode (xb yyH_init) 90 = .ok (.bipush 6, 2) := by decide +kernel
theorem dH_init_92 : decode (xb yyH_init) 92 = .ok (.bipush 6, 2) := by decide +kernel
theorem dH_init_94 : decode (xb yyH_init) 94 = .ok (.invokestatic 52, 3) := by decide +kernel
theorem dH_init_97 : decode (xb yyH_init) 97 = .ok (.iconst 1, 1) := by decide +kernel
theorem dH_init_98 : decode (xb yyH_init) 98 = .ok (.invokespecial 31, 3) := by decide +kernel
theorem dH_init_101 : decode (xb yyH_init) 101 = .ok (.putfield 58, 3) := by decide +kernel
theorem dH_init_104 : decode (xb yyH_init) 104 = .ok (.aload_n 0, 1) := by decide +kernel
theorem dH_init_105 : decode (xb yyH_init) 105 = .ok (.new 29, 3) := by decide +kernel
theorem dH_init_108 : decode (xb yyH_init) 108 = .ok (.dup, 1) := by decide +kernel
theorem dH_init_109 : decode (xb yyH_init) 109 = .ok (.iconst 4, 1) := by decide +kernel
theorem dH_init_110 : decode (xb yyH_init) 110 = .ok (.iconst 1, 1) := by decide +kernel
theorem dH_init_111 : decode (xb yyH_init) 111 = .ok (.invokespecial 31, 3) := by decide +kernel
theorem dH_init_114 : decode (xb yyH_init) 114 = .ok (.putfield 61, 3) := by decide +kernel
theorem dH_init_117 : decode (xb yyH_init) 117 = .ok (.aload_n 0, 1) := by decide +kernel
theorem dH_init_118 : decode (xb yyH_init) 118 = .ok (.lconst 1, 1) := by decide +kernel
theorem dH_init_119 : decode (xb yyH_init) 119 = .ok (.putfield 64, 3) := by decide +kernel
theorem dH_init_122 : decode (xb yyH_init) 122 = .ok (.return_, 1) := by decide +kernel
theorem dM_init_0 : decode (xb yyM_init) 0 = .ok (.aload_n 0, 1) := by decide +kernel
theorem dM_init_1 : decode (xb yyM_init) 1 = .ok (.invokespecial 1, 3) := by decide +kernel
theorem dM_init_4 : decode (xb yyM_init) 4 = .ok (.aload_n 0, 1) := by decide +kernel
theorem dM_init_5 : decode (xb yyM_init) 5 = .ok (.sipush 1752, 3) := by decide +kernel
theorem dM_init_8 : decode (xb yyM_init) 8 = .ok (.newarray .int, 2) := by decide +kernel
theorem dM_init_10 : decode (xb yyM_init) 10 = .ok (.putfield 7, 3) := by decide +kernel
theorem dM_init_13 : decode (xb yyM_init) 13 = .ok (.aload_n 0, 1) := by decide +kernel
theorem dM_init_14 : decode (xb yyM_init) 14 = .ok (.iconst 2, 1) := by decide +kernel
theorem dM_init_15 : decode (xb yyM_init) 15 = .ok (.newarray .boolean, 2) := by decide +kernel
theorem dM_init_17 : decode (xb yyM_init) 17 = .ok (.putfield 13, 3) := by decide +kernel
theorem dM_init_20 : decode (xb yyM_init) 20 = .ok (.aload_n 0, 1) := by decide +kernel
theorem dM_init_21 : decode (xb yyM_init) 21 = .ok (.sipush 150, 3) := by decide +kernel
theorem dM_init_24 : decode (xb yyM_init) 24 = .ok (.newarray .int, 2) := by decide +kernel
theorem dM_init_26 : decode (xb yyM_init) 26 = .ok (.putfield 17, 3) := by decide +kernel
theorem dM_init_29 : decode (xb yyM_init) 29 = .ok (.aload_n 0, 1) := by decide +kernel
theorem dM_init_30 : decode (xb yyM_init) 30 = .ok (.lconst 0, 1) := by decide +kernel
theorem dM_init_31 : decode (xb yyM_init) 31 = .ok (.putfield 20, 3) := by decide +kernel
theorem dM_init_34 : decode (xb yyM_init) 34 = .ok (.aload_n 0, 1) := by decide +kernel
theorem dM_init_35 : decode (xb yyM_init) 35 = .ok (.lconst 1, 1) := by decide +kernel
theorem dM_init_36 : decode (xb yyM_init) 36 = .ok (.putfield 24, 3) := by decide +kernel
theorem dM_init_39 : decode (xb yyM_init) 39 = .ok (.aload_n 0, 1) := by decide +kernel
theorem dM_init_40 : decode (xb yyM_init) 40 = .ok (.iconst 3, 1) := by decide +kernel
theorem dM_init_41 : decode (xb yyM_init) 41 = .ok (.newarray .int, 2) := by decide +kernel
theorem dM_init_43 : decode (xb yyM_init) 43 = .ok (.putfield 27, 3) := by decide +kernel
theorem dM_init_46 : decode (xb yyM_init) 46 = .ok (.aload_n 0, 1) := by decide +kernel
theorem dM_init_47 : decode (xb yyM_init) 47 = .ok (.bipush 6, 2) := by decide +kernel
theorem dM_init_49 : decode (xb yyM_init) 49 = .ok (.newarray .int, 2) := by decide +kernel
theorem dM_init_51 : decode (xb yyM_init) 51 = .ok (.putfield 30, 3) := by decide +kernel
theorem dM_init_54 : decode (xb yyM_init) 54 = .ok (.aload_n 0, 1) := by decide +kernel
theorem dM_init_55 : decode (xb yyM_init) 55 = .ok (.bipush 6, 2) := by decide +kernel
theorem dM_init_57 : decode (xb yyM_init) 57 = .ok (.newarray .int, 2) := by decide +kernel
theorem dM_init_59 : decode (xb yyM_init) 59 = .ok (.putfield 33, 3) := by decide +kernel
theorem dM_init_62 : decode (xb yyM_init) 62 = .ok (.aload_n 0, 1) := by decide +kernel
theorem dM_init_63 : decode (xb yyM_init) 63 = .ok (.iconst 0, 1) := by decide +kernel
theorem dM_init_64 : decode (xb yyM_init) 64 = .ok (.putfield 36, 3) := by decide +kernel
theorem dM_init_67 : decode (xb yyM_init) 67 = .ok (.return_, 1) := by decide +kernel
/-! the wets' table while its town is made -/
abbrev wtW (q : Nat) (u : Int32) : List Value := [.int 5, .int 1, .ref q, .int u]
theorem cT_emptyS (G : xG) (a q : Nat) (u : Int32) : cCt G yyT_empty 0 0 [.ref a] [(a, .inr (3, wtW q u))] none (fun w => w = [(a, .inr (3, wtW q 0))]) := by
  refine cCt_of rfl (Nat.le_of_ble_eq_true rfl) ?_
  show cR G yyT_empty 0 0 _ _ 0 [(0, .ref a)] [] _ 0 0
  refine cR_aln 0 0 dT_empty_0 rfl rfl ?_
  refine cR_ic 1 (0 : Int32) dT_empty_1 (by decide) ?_
  refine cR_putf 2 xcf3 3 0 (by decide) rfl rfl rfl rfl (Nat.le_of_ble_eq_true rfl) [(a, .inr (3, wtW q 0))] rfl fl_RX4_28 dT_empty_2 ?_
  exact cR_vret 5 rfl rfl ⟨Nat.le_refl _, Nat.le_refl _⟩ rfl dT_empty_5
theorem cT_newRowS (G : xG) (a q : Nat) (u : Int32) (hu : ¬ 5 ≤ u) : cCt G yyT_newRow 0 0 [.ref a] [(a, .inr (3, wtW q u))] (some (.int u)) (fun w => w = [(a, .inr (3, wtW q (u + 1)))]) := by
  refine cCt_of rfl (Nat.le_of_ble_eq_true rfl) ?_
  show cR G yyT_newRow 0 0 _ _ 0 [(0, .ref a)] [] _ 0 0
  refine cR_aln 0 0 dT_newRow_0 rfl rfl ?_
  refine cR_getf 1 xcf3 3 0 (by decide) rfl (v := .int u) rfl fl_RX4_28 dT_newRow_1 ?_
  refine cR_aln 4 0 dT_newRow_4 rfl rfl ?_
  refine cR_getf 5 xcf3 0 0 (by decide) rfl (v := .int 5) rfl fl_RX4_15 dT_newRow_5 ?_
  refine cR_icge 8 25 dT_newRow_8 (by decide) (fun h => absurd h hu) (fun _ => ?_)
  refine cR_aln 11 0 dT_newRow_11 rfl rfl ?_
  refine cR_dup 12 dT_newRow_12 rfl ?_
  refine cR_getf 13 xcf3 3 0 (by decide) rfl (v := .int u) rfl fl_RX4_28 dT_newRow_13 ?_
  refine cR_dup_x1 16 dT_newRow_16 rfl rfl ?_
  refine cR_ic 17 (1 : Int32) dT_newRow_17 (by decide) ?_
  refine cR_iadd 18 dT_newRow_18 ?_
  refine cR_putf 19 xcf3 3 0 (by decide) rfl rfl rfl rfl (Nat.le_of_ble_eq_true rfl) [(a, .inr (3, wtW q (u + 1)))] rfl fl_RX4_28 dT_newRow_19 ?_
  refine cR_goto 22 26 dT_newRow_22 (by decide) ?_
  exact cR_iret 26 rfl rfl ⟨Nat.le_refl _, Nat.le_refl _⟩ rfl dT_newRow_26
theorem cT_putS (G : xG) (a q : Nat) (u y : Int32) (hy : vp_in y 5) : cCt G yyT_put 0 0 [.ref a, .int y, .int 0, .int 0] [(a, .inr (3, wtW q u)), (q, .inl (xI G, 5, .inl (fun _ => 0)))] none (fun w => w = [(a, .inr (3, wtW q u)), (q, .inl (xI G, 5, .inl (fun _ => 0)))]) := by
  obtain ⟨j, hj, rfl⟩ := vp_in_of hy (by decide)
  have hm : nI j * (1 : Int32) = nI j := Int32.mul_one _
  have ha : nI j + (0 : Int32) = nI j := Int32.add_zero _
  have hz : upd (fun _ => (0 : Int32)) (nI j).toNatClampNeg 0 = fun _ => 0 := by funext k; simp [upd]
  refine cCt_of rfl (Nat.le_of_ble_eq_true rfl) ?_
  show cR G yyT_put 0 0 _ _ 0 [(0, .ref a), (1, .int (nI j)), (2, .int 0), (3, .int 0)] [] _ 0 0
  refine cR_iln 0 1 dT_put_0 rfl rfl ?_
  refine cR_aln 1 0 dT_put_1 rfl rfl ?_
  refine cR_getf 2 xcf3 1 0 (by decide) rfl (v := .int 1) rfl fl_RX4_21 dT_put_2 ?_
  refine cR_imul 5 dT_put_5 ?_
  rw [hm]
  refine cR_iln 6 2 dT_put_6 rfl rfl ?_
  refine cR_iadd 7 dT_put_7 ?_
  rw [ha]
  refine cR_is 8 [(4, .int (nI j)), (0, .ref a), (1, .int (nI j)), (2, .int 0), (3, .int 0)] dT_put_8 (by decide) rfl ?_
  refine cR_iln 10 3 dT_put_10 rfl rfl ?_
  refine cR_iflt 11 45 dT_put_11 (by decide) (fun h => absurd h (by decide)) (fun _ => ?_)
  refine cR_iln 14 3 dT_put_14 rfl rfl ?_
  refine cR_aln 15 1 dT_put_15 rfl rfl ?_
  refine cR_getf 16 xcf3 1 0 (by decide) rfl (v := .int 1) rfl fl_RX4_21 dT_put_16 ?_
  refine cR_icge 19 45 dT_put_19 (by decide) (fun h => absurd h (by decide)) (fun _ => ?_)
  refine cR_il 22 0 dT_put_22 rfl ?_
  refine cR_iflt 24 45 dT_put_24 (by decide) (fun h => absurd h (nI_pos (by omega))) (fun _ => ?_)
  refine cR_il 27 0 dT_put_27 rfl ?_
  refine cR_aln 29 1 dT_put_29 rfl rfl ?_
  refine cR_getf 30 xcf3 2 0 (by decide) rfl (v := .ref q) rfl fl_RX4_24 dT_put_30 ?_
  refine cR_alen 33 1 rfl dT_put_33 ?_
  refine cR_icge 34 45 dT_put_34 (by decide) (fun h => absurd h (nI_ge (a := j) (b := 5) hj (by decide))) (fun _ => ?_)
  refine cR_aln 37 1 dT_put_37 rfl rfl ?_
  refine cR_getf 38 xcf3 2 0 (by decide) rfl (v := .ref q) rfl fl_RX4_24 dT_put_38 ?_
  refine cR_il 41 0 dT_put_41 rfl ?_
  refine cR_iln 43 4 dT_put_43 rfl rfl ?_
  refine cR_iast 44 1 rfl hy [(a, .inr (3, wtW q u)), (q, .inl (xI G, 5, .inl (fun _ => 0)))] (by rw [hz]; rfl) dT_put_44 ?_
  exact cR_vret 45 rfl rfl ⟨Nat.le_refl _, Nat.le_refl _⟩ rfl dT_put_45
abbrev wtD (G : xG) (h0 a q : Nat) (r0 r1 r3 r4 r5 r6 : Value) (u : Int32) : va_W := [(h0, .inr (5, [r0, r1, .ref a, r3, r4, r5, r6])), (a, .inr (3, [.int 5, .int 1, .ref q, .int u])), (q, .inl (xI G, 5, .inl (fun _ => 0)))]
theorem cW_dryL (G : xG) (h0 a q : Nat) (r0 r1 r3 r4 r5 r6 : Value) : ∀ (k j : Nat), j + k = 5 → cR G yyW_dryWets 0 0 none (fun w => w = wtD G h0 a q r0 r1 r3 r4 r5 r6 5) 9 [(1, .int (nI j)), (0, .ref h0)] [] (wtD G h0 a q r0 r1 r3 r4 r5 r6 (nI j)) 0 0 := by
  intro k
  induction k with
  | zero =>
    intro j hj
    have e : j = 5 := by omega
    subst e
    refine cR_iln 9 0 dW_dryWets_9 rfl rfl ?_
    refine cR_ic 10 (5 : Int32) dW_dryWets_10 (by decide) ?_
    refine cR_icge 11 36 dW_dryWets_11 (by decide) (fun _ => ?_) (fun h => absurd (by decide) h)
    exact cR_vret 36 rfl rfl ⟨Nat.le_refl _, Nat.le_refl _⟩ rfl dW_dryWets_36
  | succ k ih =>
    intro j hj
    have hlt : ¬ (5 : Int32) ≤ nI j := nI_ge (a := j) (b := 5) (by omega) (by decide)
    refine cR_iln 9 0 dW_dryWets_9 rfl rfl ?_
    refine cR_ic 10 (5 : Int32) dW_dryWets_10 (by decide) ?_
    refine cR_icge 11 36 dW_dryWets_11 (by decide) (fun h => absurd h hlt) (fun _ => ?_)
    refine cR_aln 14 1 dW_dryWets_14 rfl rfl ?_
    refine cR_getf 15 xcf5 2 0 (by decide) rfl (v := .ref a) rfl fl_RX6_27 dW_dryWets_15 ?_
    refine cR_aln 18 1 dW_dryWets_18 rfl rfl ?_
    refine cR_getf 19 xcf5 2 0 (by decide) rfl (v := .ref a) rfl fl_RX6_27 dW_dryWets_19 ?_
    refine cR_callV 22 cv_T_newRow ml_RX6_48 ⟨Nat.le_of_ble_eq_true rfl, Nat.le_of_ble_eq_true rfl⟩ ⟨Nat.le_refl _, Nat.le_refl _⟩ xcf3 rfl 1 rfl [] rfl rfl (Nat.le_of_ble_eq_true rfl) dW_dryWets_22 (wr := [(h0, .inr (5, [r0, r1, .ref a, r3, r4, r5, r6])), (q, .inl (xI G, 5, .inl (fun _ => 0)))]) (cT_newRowS G a q (nI j) hlt) [1] [0, 2] rfl rfl rfl (by decide) (by decide) (fun w1 hw1 => ?_)
    subst hw1
    refine cR_world [0, 2, 1] (wtD G h0 a q r0 r1 r3 r4 r5 r6 (nI j + 1)) rfl rfl ?_
    refine cR_ic 25 (0 : Int32) dW_dryWets_25 (by decide) ?_
    refine cR_ic 26 (0 : Int32) dW_dryWets_26 (by decide) ?_
    refine cR_callV 27 cv_T_put ml_RX6_52 ⟨Nat.le_of_ble_eq_true rfl, Nat.le_of_ble_eq_true rfl⟩ ⟨Nat.le_refl _, Nat.le_refl _⟩ xcf3 rfl 1 rfl [.int (nI j), .int 0, .int 0] rfl rfl (Nat.le_of_ble_eq_true rfl) dW_dryWets_27 (wr := [(h0, .inr (5, [r0, r1, .ref a, r3, r4, r5, r6]))]) (cT_putS G a q (nI j + 1) (nI j) (vp_in_nI (by omega) (by decide))) [1, 2] [0] rfl rfl rfl (by decide) (by decide) (fun w1 hw1 => ?_)
    subst hw1
    refine cR_world [0, 1, 2] (wtD G h0 a q r0 r1 r3 r4 r5 r6 (nI j + 1)) rfl rfl ?_
    refine cR_iinc 30 0 (nI j + 1) [(1, .int (nI j + 1)), (0, .ref h0)] dW_dryWets_30 rfl rfl (by decide) rfl ?_
    refine cR_goto 33 9 dW_dryWets_33 (by decide) ?_
    rw [nI_1]
    exact ih (j + 1) (by omega)
theorem cW_dryWets (G : xG) (h0 a q : Nat) (r0 r1 r3 r4 r5 r6 : Value) : cCt G yyW_dryWets 0 0 [.ref h0] (wtD G h0 a q r0 r1 r3 r4 r5 r6 0) none (fun w => w = wtD G h0 a q r0 r1 r3 r4 r5 r6 5) := by
  refine cCt_of rfl (Nat.le_of_ble_eq_true rfl) ?_
  show cR G yyW_dryWets 0 0 _ _ 0 [(0, .ref h0)] [] _ 0 0
  refine cR_aln 0 0 dW_dryWets_0 rfl rfl ?_
  refine cR_getf 1 xcf5 2 0 (by decide) rfl (v := .ref a) rfl fl_RX6_27 dW_dryWets_1 ?_
  refine cR_callV 4 cv_T_empty ml_RX6_45 ⟨Nat.le_of_ble_eq_true rfl, Nat.le_of_ble_eq_true rfl⟩ ⟨Nat.le_refl _, Nat.le_refl _⟩ xcf3 rfl 1 rfl [] rfl rfl (Nat.le_of_ble_eq_true rfl) dW_dryWets_4 (wr := [(h0, .inr (5, [r0, r1, .ref a, r3, r4, r5, r6])), (q, .inl (xI G, 5, .inl (fun _ => 0)))]) (cT_emptyS G a q 0) [1] [0, 2] rfl rfl rfl (by decide) (by decide) (fun w1 hw1 => ?_)
  subst hw1
  refine cR_world [0, 2, 1] (wtD G h0 a q r0 r1 r3 r4 r5 r6 0) rfl rfl ?_
  refine cR_ic 7 (0 : Int32) dW_dryWets_7 (by decide) ?_
  refine cR_isn 8 [(1, .int 0), (0, .ref h0)] dW_dryWets_8 rfl (by decide) rfl ?_
  exact cW_dryL G h0 a q r0 r1 r3 r4 r5 r6 5 0 rfl
set_option maxRecDepth 100000 in
set_option maxHeartbeats 4000000 in
theorem cT_init (G : xG) (h0 : Nat) (v1 v2 : Int32) (N : Nat) (e1 : xmax v1 0 = v1) (e2 : xmax v2 0 = v2) (hm : ¬ v1 * v2 < 0) (hN : (v1 * v2).toNatClampNeg = N) (hb : N * componentBytes .int ≤ 536870912) : cCt G yyT_init 1 N [.ref h0, .int v1, .int v2] [(h0, .inr (3, [.int 0, .int 0, .null, .int 0]))] none (fun w => ∃ f : Nat → Nat, f 0 = h0 ∧ w = wlT G v1 v2 N f) := by
  refine cCt_of rfl (Nat.le_of_ble_eq_true rfl) ?_
  show cR G yyT_init 1 N _ _ 0 [(0, .ref h0), (1, .int v1), (2, .int v2)] [] _ 0 0
  refine cR_aln 0 0 dT_init_0 rfl rfl ?_
  refine cR_oinit 1 ml_RX4_3 oi_in oi_co ⟨Nat.le_of_ble_eq_true rfl, Nat.le_of_ble_eq_true rfl⟩ dT_init_1 ?_
  refine cR_aln 4 0 dT_init_4 rfl rfl ?_
  refine cR_iln 5 1 dT_init_5 rfl rfl ?_
  refine cR_ic 6 (0 : Int32) dT_init_6 (by decide) ?_
  refine cR_mmax 7 ml_RX4_9 ⟨Nat.le_of_ble_eq_true rfl, Nat.le_of_ble_eq_true rfl⟩ ⟨Nat.zero_le _, Nat.zero_le _⟩ dT_init_7 ?_
  rw [e1]
  refine cR_putF 10 xcf3 0 0 (by decide) rfl rfl rfl rfl rfl rfl (Nat.le_of_ble_eq_true rfl) ([(h0, .inr (3, [.int v1, .int 0, .null, .int 0]))]) rfl fl_RX4_15 dT_init_10 ?_
  refine cR_aln 13 0 dT_init_13 rfl rfl ?_
  refine cR_iln 14 2 dT_init_14 rfl rfl ?_
  refine cR_ic 15 (0 : Int32) dT_init_15 (by decide) ?_
  refine cR_mmax 16 ml_RX4_9 ⟨Nat.le_of_ble_eq_true rfl, Nat.le_of_ble_eq_true rfl⟩ ⟨Nat.zero_le _, Nat.zero_le _⟩ dT_init_16 ?_
  rw [e2]
  refine cR_putF 19 xcf3 1 0 (by decide) rfl rfl rfl rfl rfl rfl (Nat.le_of_ble_eq_true rfl) ([(h0, .inr (3, [.int v1, .int v2, .null, .int 0]))]) rfl fl_RX4_21 dT_init_19 ?_
  refine cR_aln 22 0 dT_init_22 rfl rfl ?_
  refine cR_aln 23 0 dT_init_23 rfl rfl ?_
  refine cR_getf 24 xcf3 0 0 (by decide) rfl (v := .int v1) rfl fl_RX4_15 dT_init_24 ?_
  refine cR_aln 27 0 dT_init_27 rfl rfl ?_
  refine cR_getf 28 xcf3 1 0 (by decide) rfl (v := .int v2) rfl fl_RX4_21 dT_init_28 ?_
  refine cR_imul 31 dT_init_31 ?_
  refine cR_newI 32 (N := N) ka_int hm hN hb ⟨Nat.le_refl _, by omega⟩ dT_init_32 (fun q32 => ?_)
  refine cR_putF 34 xcf3 2 0 (by decide) rfl rfl rfl rfl rfl rfl (Nat.le_of_ble_eq_true rfl) ([(h0, .inr (3, [.int v1, .int v2, .ref q32, .int 0])), (q32, .inl (xI G, N, .inl (fun _ => 0)))]) rfl fl_RX4_24 dT_init_34 ?_
  exact cR_vret 37 rfl rfl ⟨Nat.le_refl _, Nat.le_of_eq (Nat.zero_add _)⟩ ⟨fun k => [h0, q32].getD k 0, rfl, rfl⟩ dT_init_37
set_option maxRecDepth 100000 in
set_option maxHeartbeats 4000000 in
theorem cB_init (G : xG) (h0 : Nat) : cCt G yyB_init 2 40 [.ref h0] [(h0, .inr (0, [.null, .int 0]))] none (fun w => ∃ f : Nat → Nat, f 0 = h0 ∧ w = wlB G f) := by
  refine cCt_of rfl (Nat.le_of_ble_eq_true rfl) ?_
  show cR G yyB_init 2 40 _ _ 0 [(0, .ref h0)] [] _ 0 0
  refine cR_aln 0 0 dB_init_0 rfl rfl ?_
  refine cR_oinit 1 ml_RX0_3 oi_in oi_co ⟨Nat.le_of_ble_eq_true rfl, Nat.le_of_ble_eq_true rfl⟩ dB_init_1 ?_
  refine cR_aln 4 0 dB_init_4 rfl rfl ?_
  refine cR_new 5 xcf3 [.int 0, .int 0, .null, .int 0] kl_RX0_9 ki_RX4 kn_RX4 (fun j hj => by rcases (show j = 0 ∨ j = 1 ∨ j = 2 ∨ j = 3 by omega) with rfl | rfl | rfl | rfl <;> rfl) ⟨Nat.le_of_ble_eq_true rfl, Nat.le_of_ble_eq_true rfl⟩ dB_init_5 (fun q5 => ?_)
  refine cR_dup 8 dB_init_8 rfl ?_
  refine cR_bp 9 (6 : Int32) dB_init_9 (by decide) ?_
  refine cR_bp 11 (6 : Int32) dB_init_11 (by decide) ?_
  refine cR_callI 13 ck_T_init cn_T_init rfl rfl ml_RX0_11 ⟨Nat.le_of_ble_eq_true rfl, Nat.le_of_ble_eq_true rfl⟩ ⟨Nat.le_of_ble_eq_true rfl, Nat.le_of_ble_eq_true rfl⟩ [.int (6 : Int32), .int (6 : Int32)] rfl rfl (Nat.le_of_ble_eq_true rfl) dB_init_13 (wr := [(h0, .inr (0, [.null, .int 0]))]) (cT_init G q5 (6 : Int32) (6 : Int32) 36 (by decide) (by decide) (by decide) (by decide) (by decide)) [1] [0] rfl rfl rfl (by decide) (by decide) (fun w1 hw1 => ?_)
  obtain ⟨g13, e13, rfl⟩ := hw1
  subst e13
  refine cR_world [0, 1, 2] ([(h0, .inr (0, [.null, .int 0])), ((g13 0), .inr (3, [.int (6 : Int32), .int (6 : Int32), .ref (g13 1), .int 0])), ((g13 1), .inl (xI G, 36, .inl (fun _ => 0)))]) rfl rfl ?_
  refine cR_putF 16 xcf0 0 0 (by decide) rfl rfl rfl rfl rfl rfl (Nat.le_of_ble_eq_true rfl) ([(h0, .inr (0, [.ref (g13 0), .int 0])), ((g13 0), .inr (3, [.int (6 : Int32), .int (6 : Int32), .ref (g13 1), .int 0])), ((g13 1), .inl (xI G, 36, .inl (fun _ => 0)))]) rfl fl_RX0_14 dB_init_16 ?_
  refine cR_world [0, 1, 2] ([(h0, .inr (0, [.ref (g13 0), .int 0])), ((g13 0), .inr (3, [.int (6 : Int32), .int (6 : Int32), .ref (g13 1), .int 0])), ((g13 1), .inl (xI G, 36, .inl (fun _ => 0)))]) rfl rfl ?_
  exact cR_vret 19 rfl rfl ⟨Nat.le_of_ble_eq_true rfl, Nat.le_of_ble_eq_true rfl⟩ ⟨fun k => [h0, (g13 0), (g13 1)].getD k 0, rfl, rfl⟩ dB_init_19
set_option maxRecDepth 100000 in
set_option maxHeartbeats 4000000 in
theorem cW_init (G : xG) (h0 : Nat) : cCt G yyW_init 15 449 [.ref h0] [(h0, .inr (5, [.null, .null, .null, .null, .null, .null, .null]))] none (fun w => ∃ f : Nat → Nat, f 0 = h0 ∧ w = wlW G f) := by
  refine cCt_of rfl (Nat.le_of_ble_eq_true rfl) ?_
  show cR G yyW_init 15 449 _ _ 0 [(0, .ref h0)] [] _ 0 0
  refine cR_aln 0 0 dW_init_0 rfl rfl ?_
  refine cR_oinit 1 ml_RX6_3 oi_in oi_co ⟨Nat.le_of_ble_eq_true rfl, Nat.le_of_ble_eq_true rfl⟩ dW_init_1 ?_
  refine cR_aln 4 0 dW_init_4 rfl rfl ?_
  refine cR_new 5 xcf0 [.null, .int 0] kl_RX6_9 ki_RX0 kn_RX0 (fun j hj => by rcases (show j = 0 ∨ j = 1 by omega) with rfl | rfl <;> rfl) ⟨Nat.le_of_ble_eq_true rfl, Nat.le_of_ble_eq_true rfl⟩ dW_init_5 (fun q5 => ?_)
  refine cR_dup 8 dW_init_8 rfl ?_
  refine cR_callIN (host := RX8) 9 ck_B_init cn_B_init rfl rfl (by decide +kernel) ⟨Nat.le_of_ble_eq_true rfl, Nat.le_of_ble_eq_true rfl⟩ ⟨Nat.le_of_ble_eq_true rfl, Nat.le_of_ble_eq_true rfl⟩ [] rfl rfl (Nat.le_of_ble_eq_true rfl) dW_init_9 (wr := [(h0, .inr (5, [.null, .null, .null, .null, .null, .null, .null]))]) (cB_init G q5) [1] [0] rfl rfl rfl (by decide) (by decide) (fun w1 hw1 => ?_)
  obtain ⟨g9, e9, rfl⟩ := hw1
  subst e9
  refine cR_world [0, 1, 2, 3] ([(h0, .inr (5, [.null, .null, .null, .null, .null, .null, .null])), ((g9 0), .inr (0, [.ref (g9 1), .int 0])), ((g9 1), .inr (3, [.int 6, .int 6, .ref (g9 2), .int 0])), ((g9 2), .inl (xI G, 36, .inl (fun _ => 0)))]) rfl rfl ?_
  refine cR_putF 12 xcf5 0 0 (by decide) rfl rfl rfl rfl rfl rfl (Nat.le_of_ble_eq_true rfl) ([(h0, .inr (5, [.ref (g9 0), .null, .null, .null, .null, .null, .null])), ((g9 0), .inr (0, [.ref (g9 1), .int 0])), ((g9 1), .inr (3, [.int 6, .int 6, .ref (g9 2), .int 0])), ((g9 2), .inl (xI G, 36, .inl (fun _ => 0)))]) rfl fl_RX6_12 dW_init_12 ?_
  refine cR_aln 15 0 dW_init_15 rfl rfl ?_
  refine cR_new 16 xcf3 [.int 0, .int 0, .null, .int 0] kl_RX6_18 ki_RX4 kn_RX4 (fun j hj => by rcases (show j = 0 ∨ j = 1 ∨ j = 2 ∨ j = 3 by omega) with rfl | rfl | rfl | rfl <;> rfl) ⟨Nat.le_of_ble_eq_true rfl, Nat.le_of_ble_eq_true rfl⟩ dW_init_16 (fun q16 => ?_)
  refine cR_dup 19 dW_init_19 rfl ?_
  refine cR_bp 20 (8 : Int32) dW_init_20 (by decide) ?_
  refine cR_bp 22 (37 : Int32) dW_init_22 (by decide) ?_
  refine cR_callI 24 ck_T_init cn_T_init rfl rfl ml_RX6_20 ⟨Nat.le_of_ble_eq_true rfl, Nat.le_of_ble_eq_true rfl⟩ ⟨Nat.le_of_ble_eq_true rfl, Nat.le_of_ble_eq_true rfl⟩ [.int (8 : Int32), .int (37 : Int32)] rfl rfl (Nat.le_of_ble_eq_true rfl) dW_init_24 (wr := [(h0, .inr (5, [.ref (g9 0), .null, .null, .null, .null, .null, .null])), ((g9 0), .inr (0, [.ref (g9 1), .int 0])), ((g9 1), .inr (3, [.int 6, .int 6, .ref (g9 2), .int 0])), ((g9 2), .inl (xI G, 36, .inl (fun _ => 0)))]) (cT_init G q16 (8 : Int32) (37 : Int32) 296 (by decide) (by decide) (by decide) (by decide) (by decide)) [4] [0, 1, 2, 3] rfl rfl rfl (by decide) (by decide) (fun w1 hw1 => ?_)
  obtain ⟨g24, e24, rfl⟩ := hw1
  subst e24
  refine cR_world [0, 1, 2, 3, 4, 5] ([(h0, .inr (5, [.ref (g9 0), .null, .null, .null, .null, .null, .null])), ((g9 0), .inr (0, [.ref (g9 1), .int 0])), ((g9 1), .inr (3, [.int 6, .int 6, .ref (g9 2), .int 0])), ((g9 2), .inl (xI G, 36, .inl (fun _ => 0))), ((g24 0), .inr (3, [.int (8 : Int32), .int (37 : Int32), .ref (g24 1), .int 0])), ((g24 1), .inl (xI G, 296, .inl (fun _ => 0)))]) rfl rfl ?_
  refine cR_putF 27 xcf5 1 0 (by decide) rfl rfl rfl rfl rfl rfl (Nat.le_of_ble_eq_true rfl) ([(h0, .inr (5, [.ref (g9 0), .ref (g24 0), .null, .null, .null, .null, .null])), ((g9 0), .inr (0, [.ref (g9 1), .int 0])), ((g9 1), .inr (3, [.int 6, .int 6, .ref (g9 2), .int 0])), ((g9 2), .inl (xI G, 36, .inl (fun _ => 0))), ((g24 0), .inr (3, [.int (8 : Int32), .int (37 : Int32), .ref (g24 1), .int 0])), ((g24 1), .inl (xI G, 296, .inl (fun _ => 0)))]) rfl fl_RX6_23 dW_init_27 ?_
  refine cR_aln 30 0 dW_init_30 rfl rfl ?_
  refine cR_new 31 xcf3 [.int 0, .int 0, .null, .int 0] kl_RX6_18 ki_RX4 kn_RX4 (fun j hj => by rcases (show j = 0 ∨ j = 1 ∨ j = 2 ∨ j = 3 by omega) with rfl | rfl | rfl | rfl <;> rfl) ⟨Nat.le_of_ble_eq_true rfl, Nat.le_of_ble_eq_true rfl⟩ dW_init_31 (fun q31 => ?_)
  refine cR_dup 34 dW_init_34 rfl ?_
  refine cR_ic 35 (5 : Int32) dW_init_35 (by decide) ?_
  refine cR_ic 36 (1 : Int32) dW_init_36 (by decide) ?_
  refine cR_callI 37 ck_T_init cn_T_init rfl rfl ml_RX6_20 ⟨Nat.le_of_ble_eq_true rfl, Nat.le_of_ble_eq_true rfl⟩ ⟨Nat.le_of_ble_eq_true rfl, Nat.le_of_ble_eq_true rfl⟩ [.int (5 : Int32), .int (1 : Int32)] rfl rfl (Nat.le_of_ble_eq_true rfl) dW_init_37 (wr := [(h0, .inr (5, [.ref (g9 0), .ref (g24 0), .null, .null, .null, .null, .null])), ((g9 0), .inr (0, [.ref (g9 1), .int 0])), ((g9 1), .inr (3, [.int 6, .int 6, .ref (g9 2), .int 0])), ((g9 2), .inl (xI G, 36, .inl (fun _ => 0))), ((g24 0), .inr (3, [.int (8 : Int32), .int (37 : Int32), .ref (g24 1), .int 0])), ((g24 1), .inl (xI G, 296, .inl (fun _ => 0)))]) (cT_init G q31 (5 : Int32) (1 : Int32) 5 (by decide) (by decide) (by decide) (by decide) (by decide)) [6] [0, 1, 2, 3, 4, 5] rfl rfl rfl (by decide) (by decide) (fun w1 hw1 => ?_)
  obtain ⟨g37, e37, rfl⟩ := hw1
  subst e37
  refine cR_world [0, 1, 2, 3, 4, 5, 6, 7] ([(h0, .inr (5, [.ref (g9 0), .ref (g24 0), .null, .null, .null, .null, .null])), ((g9 0), .inr (0, [.ref (g9 1), .int 0])), ((g9 1), .inr (3, [.int 6, .int 6, .ref (g9 2), .int 0])), ((g9 2), .inl (xI G, 36, .inl (fun _ => 0))), ((g24 0), .inr (3, [.int (8 : Int32), .int (37 : Int32), .ref (g24 1), .int 0])), ((g24 1), .inl (xI G, 296, .inl (fun _ => 0))), ((g37 0), .inr (3, [.int (5 : Int32), .int (1 : Int32), .ref (g37 1), .int 0])), ((g37 1), .inl (xI G, 5, .inl (fun _ => 0)))]) rfl rfl ?_
  refine cR_putF 40 xcf5 2 0 (by decide) rfl rfl rfl rfl rfl rfl (Nat.le_of_ble_eq_true rfl) ([(h0, .inr (5, [.ref (g9 0), .ref (g24 0), .ref (g37 0), .null, .null, .null, .null])), ((g9 0), .inr (0, [.ref (g9 1), .int 0])), ((g9 1), .inr (3, [.int 6, .int 6, .ref (g9 2), .int 0])), ((g9 2), .inl (xI G, 36, .inl (fun _ => 0))), ((g24 0), .inr (3, [.int (8 : Int32), .int (37 : Int32), .ref (g24 1), .int 0])), ((g24 1), .inl (xI G, 296, .inl (fun _ => 0))), ((g37 0), .inr (3, [.int (5 : Int32), .int (1 : Int32), .ref (g37 1), .int 0])), ((g37 1), .inl (xI G, 5, .inl (fun _ => 0)))]) rfl fl_RX6_27 dW_init_40 ?_
  refine cR_aln 43 0 dW_init_43 rfl rfl ?_
  refine cR_new 44 xcf3 [.int 0, .int 0, .null, .int 0] kl_RX6_18 ki_RX4 kn_RX4 (fun j hj => by rcases (show j = 0 ∨ j = 1 ∨ j = 2 ∨ j = 3 by omega) with rfl | rfl | rfl | rfl <;> rfl) ⟨Nat.le_of_ble_eq_true rfl, Nat.le_of_ble_eq_true rfl⟩ dW_init_44 (fun q44 => ?_)
  refine cR_dup 47 dW_init_47 rfl ?_
  refine cR_ic 48 (4 : Int32) dW_init_48 (by decide) ?_
  refine cR_ic 49 (1 : Int32) dW_init_49 (by decide) ?_
  refine cR_callI 50 ck_T_init cn_T_init rfl rfl ml_RX6_20 ⟨Nat.le_of_ble_eq_true rfl, Nat.le_of_ble_eq_true rfl⟩ ⟨Nat.le_of_ble_eq_true rfl, Nat.le_of_ble_eq_true rfl⟩ [.int (4 : Int32), .int (1 : Int32)] rfl rfl (Nat.le_of_ble_eq_true rfl) dW_init_50 (wr := [(h0, .inr (5, [.ref (g9 0), .ref (g24 0), .ref (g37 0), .null, .null, .null, .null])), ((g9 0), .inr (0, [.ref (g9 1), .int 0])), ((g9 1), .inr (3, [.int 6, .int 6, .ref (g9 2), .int 0])), ((g9 2), .inl (xI G, 36, .inl (fun _ => 0))), ((g24 0), .inr (3, [.int (8 : Int32), .int (37 : Int32), .ref (g24 1), .int 0])), ((g24 1), .inl (xI G, 296, .inl (fun _ => 0))), ((g37 0), .inr (3, [.int (5 : Int32), .int (1 : Int32), .ref (g37 1), .int 0])), ((g37 1), .inl (xI G, 5, .inl (fun _ => 0)))]) (cT_init G q44 (4 : Int32) (1 : Int32) 4 (by decide) (by decide) (by decide) (by decide) (by decide)) [8] [0, 1, 2, 3, 4, 5, 6, 7] rfl rfl rfl (by decide) (by decide) (fun w1 hw1 => ?_)
  obtain ⟨g50, e50, rfl⟩ := hw1
  subst e50
  refine cR_world [0, 1, 2, 3, 4, 5, 6, 7, 8, 9] ([(h0, .inr (5, [.ref (g9 0), .ref (g24 0), .ref (g37 0), .null, .null, .null, .null])), ((g9 0), .inr (0, [.ref (g9 1), .int 0])), ((g9 1), .inr (3, [.int 6, .int 6, .ref (g9 2), .int 0])), ((g9 2), .inl (xI G, 36, .inl (fun _ => 0))), ((g24 0), .inr (3, [.int (8 : Int32), .int (37 : Int32), .ref (g24 1), .int 0])), ((g24 1), .inl (xI G, 296, .inl (fun _ => 0))), ((g37 0), .inr (3, [.int (5 : Int32), .int (1 : Int32), .ref (g37 1), .int 0])), ((g37 1), .inl (xI G, 5, .inl (fun _ => 0))), ((g50 0), .inr (3, [.int (4 : Int32), .int (1 : Int32), .ref (g50 1), .int 0])), ((g50 1), .inl (xI G, 4, .inl (fun _ => 0)))]) rfl rfl ?_
  refine cR_putF 53 xcf5 3 0 (by decide) rfl rfl rfl rfl rfl rfl (Nat.le_of_ble_eq_true rfl) ([(h0, .inr (5, [.ref (g9 0), .ref (g24 0), .ref (g37 0), .ref (g50 0), .null, .null, .null])), ((g9 0), .inr (0, [.ref (g9 1), .int 0])), ((g9 1), .inr (3, [.int 6, .int 6, .ref (g9 2), .int 0])), ((g9 2), .inl (xI G, 36, .inl (fun _ => 0))), ((g24 0), .inr (3, [.int (8 : Int32), .int (37 : Int32), .ref (g24 1), .int 0])), ((g24 1), .inl (xI G, 296, .inl (fun _ => 0))), ((g37 0), .inr (3, [.int (5 : Int32), .int (1 : Int32), .ref (g37 1), .int 0])), ((g37 1), .inl (xI G, 5, .inl (fun _ => 0))), ((g50 0), .inr (3, [.int (4 : Int32), .int (1 : Int32), .ref (g50 1), .int 0])), ((g50 1), .inl (xI G, 4, .inl (fun _ => 0)))]) rfl fl_RX6_30 dW_init_53 ?_
  refine cR_aln 56 0 dW_init_56 rfl rfl ?_
  refine cR_new 57 xcf3 [.int 0, .int 0, .null, .int 0] kl_RX6_18 ki_RX4 kn_RX4 (fun j hj => by rcases (show j = 0 ∨ j = 1 ∨ j = 2 ∨ j = 3 by omega) with rfl | rfl | rfl | rfl <;> rfl) ⟨Nat.le_of_ble_eq_true rfl, Nat.le_of_ble_eq_true rfl⟩ dW_init_57 (fun q57 => ?_)
  refine cR_dup 60 dW_init_60 rfl ?_
  refine cR_bp 61 (6 : Int32) dW_init_61 (by decide) ?_
  refine cR_ic 63 (2 : Int32) dW_init_63 (by decide) ?_
  refine cR_callI 64 ck_T_init cn_T_init rfl rfl ml_RX6_20 ⟨Nat.le_of_ble_eq_true rfl, Nat.le_of_ble_eq_true rfl⟩ ⟨Nat.le_of_ble_eq_true rfl, Nat.le_of_ble_eq_true rfl⟩ [.int (6 : Int32), .int (2 : Int32)] rfl rfl (Nat.le_of_ble_eq_true rfl) dW_init_64 (wr := [(h0, .inr (5, [.ref (g9 0), .ref (g24 0), .ref (g37 0), .ref (g50 0), .null, .null, .null])), ((g9 0), .inr (0, [.ref (g9 1), .int 0])), ((g9 1), .inr (3, [.int 6, .int 6, .ref (g9 2), .int 0])), ((g9 2), .inl (xI G, 36, .inl (fun _ => 0))), ((g24 0), .inr (3, [.int (8 : Int32), .int (37 : Int32), .ref (g24 1), .int 0])), ((g24 1), .inl (xI G, 296, .inl (fun _ => 0))), ((g37 0), .inr (3, [.int (5 : Int32), .int (1 : Int32), .ref (g37 1), .int 0])), ((g37 1), .inl (xI G, 5, .inl (fun _ => 0))), ((g50 0), .inr (3, [.int (4 : Int32), .int (1 : Int32), .ref (g50 1), .int 0])), ((g50 1), .inl (xI G, 4, .inl (fun _ => 0)))]) (cT_init G q57 (6 : Int32) (2 : Int32) 12 (by decide) (by decide) (by decide) (by decide) (by decide)) [10] [0, 1, 2, 3, 4, 5, 6, 7, 8, 9] rfl rfl rfl (by decide) (by decide) (fun w1 hw1 => ?_)
  obtain ⟨g64, e64, rfl⟩ := hw1
  subst e64
  refine cR_world [0, 1, 2, 3, 4, 5, 6, 7, 8, 9, 10, 11] ([(h0, .inr (5, [.ref (g9 0), .ref (g24 0), .ref (g37 0), .ref (g50 0), .null, .null, .null])), ((g9 0), .inr (0, [.ref (g9 1), .int 0])), ((g9 1), .inr (3, [.int 6, .int 6, .ref (g9 2), .int 0])), ((g9 2), .inl (xI G, 36, .inl (fun _ => 0))), ((g24 0), .inr (3, [.int (8 : Int32), .int (37 : Int32), .ref (g24 1), .int 0])), ((g24 1), .inl (xI G, 296, .inl (fun _ => 0))), ((g37 0), .inr (3, [.int (5 : Int32), .int (1 : Int32), .ref (g37 1), .int 0])), ((g37 1), .inl (xI G, 5, .inl (fun _ => 0))), ((g50 0), .inr (3, [.int (4 : Int32), .int (1 : Int32), .ref (g50 1), .int 0])), ((g50 1), .inl (xI G, 4, .inl (fun _ => 0))), ((g64 0), .inr (3, [.int (6 : Int32), .int (2 : Int32), .ref (g64 1), .int 0])), ((g64 1), .inl (xI G, 12, .inl (fun _ => 0)))]) rfl rfl ?_
  refine cR_putF 67 xcf5 4 0 (by decide) rfl rfl rfl rfl rfl rfl (Nat.le_of_ble_eq_true rfl) ([(h0, .inr (5, [.ref (g9 0), .ref (g24 0), .ref (g37 0), .ref (g50 0), .ref (g64 0), .null, .null])), ((g9 0), .inr (0, [.ref (g9 1), .int 0])), ((g9 1), .inr (3, [.int 6, .int 6, .ref (g9 2), .int 0])), ((g9 2), .inl (xI G, 36, .inl (fun _ => 0))), ((g24 0), .inr (3, [.int (8 : Int32), .int (37 : Int32), .ref (g24 1), .int 0])), ((g24 1), .inl (xI G, 296, .inl (fun _ => 0))), ((g37 0), .inr (3, [.int (5 : Int32), .int (1 : Int32), .ref (g37 1), .int 0])), ((g37 1), .inl (xI G, 5, .inl (fun _ => 0))), ((g50 0), .inr (3, [.int (4 : Int32), .int (1 : Int32), .ref (g50 1), .int 0])), ((g50 1), .inl (xI G, 4, .inl (fun _ => 0))), ((g64 0), .inr (3, [.int (6 : Int32), .int (2 : Int32), .ref (g64 1), .int 0])), ((g64 1), .inl (xI G, 12, .inl (fun _ => 0)))]) rfl fl_RX6_33 dW_init_67 ?_
  refine cR_aln 70 0 dW_init_70 rfl rfl ?_
  refine cR_new 71 xcf3 [.int 0, .int 0, .null, .int 0] kl_RX6_18 ki_RX4 kn_RX4 (fun j hj => by rcases (show j = 0 ∨ j = 1 ∨ j = 2 ∨ j = 3 by omega) with rfl | rfl | rfl | rfl <;> rfl) ⟨Nat.le_of_ble_eq_true rfl, Nat.le_of_ble_eq_true rfl⟩ dW_init_71 (fun q71 => ?_)
  refine cR_dup 74 dW_init_74 rfl ?_
  refine cR_bp 75 (6 : Int32) dW_init_75 (by decide) ?_
  refine cR_ic 77 (5 : Int32) dW_init_77 (by decide) ?_
  refine cR_callI 78 ck_T_init cn_T_init rfl rfl ml_RX6_20 ⟨Nat.le_of_ble_eq_true rfl, Nat.le_of_ble_eq_true rfl⟩ ⟨Nat.le_of_ble_eq_true rfl, Nat.le_of_ble_eq_true rfl⟩ [.int (6 : Int32), .int (5 : Int32)] rfl rfl (Nat.le_of_ble_eq_true rfl) dW_init_78 (wr := [(h0, .inr (5, [.ref (g9 0), .ref (g24 0), .ref (g37 0), .ref (g50 0), .ref (g64 0), .null, .null])), ((g9 0), .inr (0, [.ref (g9 1), .int 0])), ((g9 1), .inr (3, [.int 6, .int 6, .ref (g9 2), .int 0])), ((g9 2), .inl (xI G, 36, .inl (fun _ => 0))), ((g24 0), .inr (3, [.int (8 : Int32), .int (37 : Int32), .ref (g24 1), .int 0])), ((g24 1), .inl (xI G, 296, .inl (fun _ => 0))), ((g37 0), .inr (3, [.int (5 : Int32), .int (1 : Int32), .ref (g37 1), .int 0])), ((g37 1), .inl (xI G, 5, .inl (fun _ => 0))), ((g50 0), .inr (3, [.int (4 : Int32), .int (1 : Int32), .ref (g50 1), .int 0])), ((g50 1), .inl (xI G, 4, .inl (fun _ => 0))), ((g64 0), .inr (3, [.int (6 : Int32), .int (2 : Int32), .ref (g64 1), .int 0])), ((g64 1), .inl (xI G, 12, .inl (fun _ => 0)))]) (cT_init G q71 (6 : Int32) (5 : Int32) 30 (by decide) (by decide) (by decide) (by decide) (by decide)) [12] [0, 1, 2, 3, 4, 5, 6, 7, 8, 9, 10, 11] rfl rfl rfl (by decide) (by decide) (fun w1 hw1 => ?_)
  obtain ⟨g78, e78, rfl⟩ := hw1
  subst e78
  refine cR_world [0, 1, 2, 3, 4, 5, 6, 7, 8, 9, 10, 11, 12, 13] ([(h0, .inr (5, [.ref (g9 0), .ref (g24 0), .ref (g37 0), .ref (g50 0), .ref (g64 0), .null, .null])), ((g9 0), .inr (0, [.ref (g9 1), .int 0])), ((g9 1), .inr (3, [.int 6, .int 6, .ref (g9 2), .int 0])), ((g9 2), .inl (xI G, 36, .inl (fun _ => 0))), ((g24 0), .inr (3, [.int (8 : Int32), .int (37 : Int32), .ref (g24 1), .int 0])), ((g24 1), .inl (xI G, 296, .inl (fun _ => 0))), ((g37 0), .inr (3, [.int (5 : Int32), .int (1 : Int32), .ref (g37 1), .int 0])), ((g37 1), .inl (xI G, 5, .inl (fun _ => 0))), ((g50 0), .inr (3, [.int (4 : Int32), .int (1 : Int32), .ref (g50 1), .int 0])), ((g50 1), .inl (xI G, 4, .inl (fun _ => 0))), ((g64 0), .inr (3, [.int (6 : Int32), .int (2 : Int32), .ref (g64 1), .int 0])), ((g64 1), .inl (xI G, 12, .inl (fun _ => 0))), ((g78 0), .inr (3, [.int (6 : Int32), .int (5 : Int32), .ref (g78 1), .int 0])), ((g78 1), .inl (xI G, 30, .inl (fun _ => 0)))]) rfl rfl ?_
  refine cR_putF 81 xcf5 5 0 (by decide) rfl rfl rfl rfl rfl rfl (Nat.le_of_ble_eq_true rfl) ([(h0, .inr (5, [.ref (g9 0), .ref (g24 0), .ref (g37 0), .ref (g50 0), .ref (g64 0), .ref (g78 0), .null])), ((g9 0), .inr (0, [.ref (g9 1), .int 0])), ((g9 1), .inr (3, [.int 6, .int 6, .ref (g9 2), .int 0])), ((g9 2), .inl (xI G, 36, .inl (fun _ => 0))), ((g24 0), .inr (3, [.int (8 : Int32), .int (37 : Int32), .ref (g24 1), .int 0])), ((g24 1), .inl (xI G, 296, .inl (fun _ => 0))), ((g37 0), .inr (3, [.int (5 : Int32), .int (1 : Int32), .ref (g37 1), .int 0])), ((g37 1), .inl (xI G, 5, .inl (fun _ => 0))), ((g50 0), .inr (3, [.int (4 : Int32), .int (1 : Int32), .ref (g50 1), .int 0])), ((g50 1), .inl (xI G, 4, .inl (fun _ => 0))), ((g64 0), .inr (3, [.int (6 : Int32), .int (2 : Int32), .ref (g64 1), .int 0])), ((g64 1), .inl (xI G, 12, .inl (fun _ => 0))), ((g78 0), .inr (3, [.int (6 : Int32), .int (5 : Int32), .ref (g78 1), .int 0])), ((g78 1), .inl (xI G, 30, .inl (fun _ => 0)))]) rfl fl_RX6_36 dW_init_81 ?_
  refine cR_aln 84 0 dW_init_84 rfl rfl ?_
  refine cR_new 85 xcf3 [.int 0, .int 0, .null, .int 0] kl_RX6_18 ki_RX4 kn_RX4 (fun j hj => by rcases (show j = 0 ∨ j = 1 ∨ j = 2 ∨ j = 3 by omega) with rfl | rfl | rfl | rfl <;> rfl) ⟨Nat.le_of_ble_eq_true rfl, Nat.le_of_ble_eq_true rfl⟩ dW_init_85 (fun q85 => ?_)
  refine cR_dup 88 dW_init_88 rfl ?_
  refine cR_bp 89 (6 : Int32) dW_init_89 (by decide) ?_
  refine cR_bp 91 (6 : Int32) dW_init_91 (by decide) ?_
  refine cR_callI 93 ck_T_init cn_T_init rfl rfl ml_RX6_20 ⟨Nat.le_of_ble_eq_true rfl, Nat.le_of_ble_eq_true rfl⟩ ⟨Nat.le_of_ble_eq_true rfl, Nat.le_of_ble_eq_true rfl⟩ [.int (6 : Int32), .int (6 : Int32)] rfl rfl (Nat.le_of_ble_eq_true rfl) dW_init_93 (wr := [(h0, .inr (5, [.ref (g9 0), .ref (g24 0), .ref (g37 0), .ref (g50 0), .ref (g64 0), .ref (g78 0), .null])), ((g9 0), .inr (0, [.ref (g9 1), .int 0])), ((g9 1), .inr (3, [.int 6, .int 6, .ref (g9 2), .int 0])), ((g9 2), .inl (xI G, 36, .inl (fun _ => 0))), ((g24 0), .inr (3, [.int (8 : Int32), .int (37 : Int32), .ref (g24 1), .int 0])), ((g24 1), .inl (xI G, 296, .inl (fun _ => 0))), ((g37 0), .inr (3, [.int (5 : Int32), .int (1 : Int32), .ref (g37 1), .int 0])), ((g37 1), .inl (xI G, 5, .inl (fun _ => 0))), ((g50 0), .inr (3, [.int (4 : Int32), .int (1 : Int32), .ref (g50 1), .int 0])), ((g50 1), .inl (xI G, 4, .inl (fun _ => 0))), ((g64 0), .inr (3, [.int (6 : Int32), .int (2 : Int32), .ref (g64 1), .int 0])), ((g64 1), .inl (xI G, 12, .inl (fun _ => 0))), ((g78 0), .inr (3, [.int (6 : Int32), .int (5 : Int32), .ref (g78 1), .int 0])), ((g78 1), .inl (xI G, 30, .inl (fun _ => 0)))]) (cT_init G q85 (6 : Int32) (6 : Int32) 36 (by decide) (by decide) (by decide) (by decide) (by decide)) [14] [0, 1, 2, 3, 4, 5, 6, 7, 8, 9, 10, 11, 12, 13] rfl rfl rfl (by decide) (by decide) (fun w1 hw1 => ?_)
  obtain ⟨g93, e93, rfl⟩ := hw1
  subst e93
  refine cR_world [0, 1, 2, 3, 4, 5, 6, 7, 8, 9, 10, 11, 12, 13, 14, 15] ([(h0, .inr (5, [.ref (g9 0), .ref (g24 0), .ref (g37 0), .ref (g50 0), .ref (g64 0), .ref (g78 0), .null])), ((g9 0), .inr (0, [.ref (g9 1), .int 0])), ((g9 1), .inr (3, [.int 6, .int 6, .ref (g9 2), .int 0])), ((g9 2), .inl (xI G, 36, .inl (fun _ => 0))), ((g24 0), .inr (3, [.int (8 : Int32), .int (37 : Int32), .ref (g24 1), .int 0])), ((g24 1), .inl (xI G, 296, .inl (fun _ => 0))), ((g37 0), .inr (3, [.int (5 : Int32), .int (1 : Int32), .ref (g37 1), .int 0])), ((g37 1), .inl (xI G, 5, .inl (fun _ => 0))), ((g50 0), .inr (3, [.int (4 : Int32), .int (1 : Int32), .ref (g50 1), .int 0])), ((g50 1), .inl (xI G, 4, .inl (fun _ => 0))), ((g64 0), .inr (3, [.int (6 : Int32), .int (2 : Int32), .ref (g64 1), .int 0])), ((g64 1), .inl (xI G, 12, .inl (fun _ => 0))), ((g78 0), .inr (3, [.int (6 : Int32), .int (5 : Int32), .ref (g78 1), .int 0])), ((g78 1), .inl (xI G, 30, .inl (fun _ => 0))), ((g93 0), .inr (3, [.int (6 : Int32), .int (6 : Int32), .ref (g93 1), .int 0])), ((g93 1), .inl (xI G, 36, .inl (fun _ => 0)))]) rfl rfl ?_
  refine cR_putF 96 xcf5 6 0 (by decide) rfl rfl rfl rfl rfl rfl (Nat.le_of_ble_eq_true rfl) ([(h0, .inr (5, [.ref (g9 0), .ref (g24 0), .ref (g37 0), .ref (g50 0), .ref (g64 0), .ref (g78 0), .ref (g93 0)])), ((g9 0), .inr (0, [.ref (g9 1), .int 0])), ((g9 1), .inr (3, [.int 6, .int 6, .ref (g9 2), .int 0])), ((g9 2), .inl (xI G, 36, .inl (fun _ => 0))), ((g24 0), .inr (3, [.int (8 : Int32), .int (37 : Int32), .ref (g24 1), .int 0])), ((g24 1), .inl (xI G, 296, .inl (fun _ => 0))), ((g37 0), .inr (3, [.int (5 : Int32), .int (1 : Int32), .ref (g37 1), .int 0])), ((g37 1), .inl (xI G, 5, .inl (fun _ => 0))), ((g50 0), .inr (3, [.int (4 : Int32), .int (1 : Int32), .ref (g50 1), .int 0])), ((g50 1), .inl (xI G, 4, .inl (fun _ => 0))), ((g64 0), .inr (3, [.int (6 : Int32), .int (2 : Int32), .ref (g64 1), .int 0])), ((g64 1), .inl (xI G, 12, .inl (fun _ => 0))), ((g78 0), .inr (3, [.int (6 : Int32), .int (5 : Int32), .ref (g78 1), .int 0])), ((g78 1), .inl (xI G, 30, .inl (fun _ => 0))), ((g93 0), .inr (3, [.int (6 : Int32), .int (6 : Int32), .ref (g93 1), .int 0])), ((g93 1), .inl (xI G, 36, .inl (fun _ => 0)))]) rfl fl_RX6_39 dW_init_96 ?_
  refine cR_aln 99 0 dW_init_99 rfl rfl ?_
  refine cR_callV 100 cv_W_dryWets ml_RX6_42 ⟨Nat.le_of_ble_eq_true rfl, Nat.le_of_ble_eq_true rfl⟩ ⟨Nat.le_of_ble_eq_true rfl, Nat.le_of_ble_eq_true rfl⟩ xcf5 rfl 0 rfl [] rfl rfl (Nat.le_of_ble_eq_true rfl) dW_init_100 (wr := [((g9 0), .inr (0, [.ref (g9 1), .int 0])), ((g9 1), .inr (3, [.int 6, .int 6, .ref (g9 2), .int 0])), ((g9 2), .inl (xI G, 36, .inl (fun _ => 0))), ((g24 0), .inr (3, [.int (8 : Int32), .int (37 : Int32), .ref (g24 1), .int 0])), ((g24 1), .inl (xI G, 296, .inl (fun _ => 0))), ((g50 0), .inr (3, [.int (4 : Int32), .int (1 : Int32), .ref (g50 1), .int 0])), ((g50 1), .inl (xI G, 4, .inl (fun _ => 0))), ((g64 0), .inr (3, [.int (6 : Int32), .int (2 : Int32), .ref (g64 1), .int 0])), ((g64 1), .inl (xI G, 12, .inl (fun _ => 0))), ((g78 0), .inr (3, [.int (6 : Int32), .int (5 : Int32), .ref (g78 1), .int 0])), ((g78 1), .inl (xI G, 30, .inl (fun _ => 0))), ((g93 0), .inr (3, [.int (6 : Int32), .int (6 : Int32), .ref (g93 1), .int 0])), ((g93 1), .inl (xI G, 36, .inl (fun _ => 0)))]) (cW_dryWets G h0 (g37 0) (g37 1) (.ref (g9 0)) (.ref (g24 0)) (.ref (g50 0)) (.ref (g64 0)) (.ref (g78 0)) (.ref (g93 0))) [0, 6, 7] [1, 2, 3, 4, 5, 8, 9, 10, 11, 12, 13, 14, 15] rfl rfl rfl (by decide) (by decide) (fun w1 hw1 => ?_)
  subst hw1
  refine cR_world [0, 1, 2, 3, 4, 5, 6, 7, 8, 9, 10, 11, 12, 13, 14, 15] ([((g9 0), .inr (0, [.ref (g9 1), .int 0])), ((g9 1), .inr (3, [.int 6, .int 6, .ref (g9 2), .int 0])), ((g9 2), .inl (xI G, 36, .inl (fun _ => 0))), ((g24 0), .inr (3, [.int (8 : Int32), .int (37 : Int32), .ref (g24 1), .int 0])), ((g24 1), .inl (xI G, 296, .inl (fun _ => 0))), ((g50 0), .inr (3, [.int (4 : Int32), .int (1 : Int32), .ref (g50 1), .int 0])), ((g50 1), .inl (xI G, 4, .inl (fun _ => 0))), ((g64 0), .inr (3, [.int (6 : Int32), .int (2 : Int32), .ref (g64 1), .int 0])), ((g64 1), .inl (xI G, 12, .inl (fun _ => 0))), ((g78 0), .inr (3, [.int (6 : Int32), .int (5 : Int32), .ref (g78 1), .int 0])), ((g78 1), .inl (xI G, 30, .inl (fun _ => 0))), ((g93 0), .inr (3, [.int (6 : Int32), .int (6 : Int32), .ref (g93 1), .int 0])), ((g93 1), .inl (xI G, 36, .inl (fun _ => 0))), (h0, .inr (5, [.ref (g9 0), .ref (g24 0), .ref (g37 0), .ref (g50 0), .ref (g64 0), .ref (g78 0), .ref (g93 0)])), ((g37 0), .inr (3, [.int (5 : Int32), .int (1 : Int32), .ref (g37 1), .int 5])), ((g37 1), .inl (xI G, 5, .inl (fun _ => 0)))]) rfl rfl ?_
  refine cR_world [13, 0, 1, 2, 3, 4, 14, 15, 5, 6, 7, 8, 9, 10, 11, 12] ([(h0, .inr (5, [.ref (g9 0), .ref (g24 0), .ref (g37 0), .ref (g50 0), .ref (g64 0), .ref (g78 0), .ref (g93 0)])), ((g9 0), .inr (0, [.ref (g9 1), .int 0])), ((g9 1), .inr (3, [.int 6, .int 6, .ref (g9 2), .int 0])), ((g9 2), .inl (xI G, 36, .inl (fun _ => 0))), ((g24 0), .inr (3, [.int (8 : Int32), .int (37 : Int32), .ref (g24 1), .int 0])), ((g24 1), .inl (xI G, 296, .inl (fun _ => 0))), ((g37 0), .inr (3, [.int (5 : Int32), .int (1 : Int32), .ref (g37 1), .int 5])), ((g37 1), .inl (xI G, 5, .inl (fun _ => 0))), ((g50 0), .inr (3, [.int (4 : Int32), .int (1 : Int32), .ref (g50 1), .int 0])), ((g50 1), .inl (xI G, 4, .inl (fun _ => 0))), ((g64 0), .inr (3, [.int (6 : Int32), .int (2 : Int32), .ref (g64 1), .int 0])), ((g64 1), .inl (xI G, 12, .inl (fun _ => 0))), ((g78 0), .inr (3, [.int (6 : Int32), .int (5 : Int32), .ref (g78 1), .int 0])), ((g78 1), .inl (xI G, 30, .inl (fun _ => 0))), ((g93 0), .inr (3, [.int (6 : Int32), .int (6 : Int32), .ref (g93 1), .int 0])), ((g93 1), .inl (xI G, 36, .inl (fun _ => 0)))]) rfl rfl ?_
  exact cR_vret 103 rfl rfl ⟨Nat.le_of_ble_eq_true rfl, Nat.le_of_ble_eq_true rfl⟩ ⟨fun k => [h0, (g9 0), (g9 1), (g9 2), (g24 0), (g24 1), (g37 0), (g37 1), (g50 0), (g50 1), (g64 0), (g64 1), (g78 0), (g78 1), (g93 0), (g93 1)].getD k 0, rfl, rfl⟩ dW_init_103
set_option maxRecDepth 100000 in
set_option maxHeartbeats 4000000 in
theorem cO_init (G : xG) (h0 : Nat) : cCt G yyO_init 2 457 [.ref h0] [(h0, .inr (4, [.null, .int 0]))] none (fun w => ∃ f : Nat → Nat, f 0 = h0 ∧ w = wlO G f) := by
  refine cCt_of rfl (Nat.le_of_ble_eq_true rfl) ?_
  show cR G yyO_init 2 457 _ _ 0 [(0, .ref h0)] [] _ 0 0
  refine cR_aln 0 0 dO_init_0 rfl rfl ?_
  refine cR_oinit 1 ml_RX5_3 oi_in oi_co ⟨Nat.le_of_ble_eq_true rfl, Nat.le_of_ble_eq_true rfl⟩ dO_init_1 ?_
  refine cR_aln 4 0 dO_init_4 rfl rfl ?_
  refine cR_new 5 xcf3 [.int 0, .int 0, .null, .int 0] kl_RX5_9 ki_RX4 kn_RX4 (fun j hj => by rcases (show j = 0 ∨ j = 1 ∨ j = 2 ∨ j = 3 by omega) with rfl | rfl | rfl | rfl <;> rfl) ⟨Nat.le_of_ble_eq_true rfl, Nat.le_of_ble_eq_true rfl⟩ dO_init_5 (fun q5 => ?_)
  refine cR_dup 8 dO_init_8 rfl ?_
  refine cR_sp 9 (151 : Int32) dO_init_9 (by decide) ?_
  refine cR_ic 12 (3 : Int32) dO_init_12 (by decide) ?_
  refine cR_callI 13 ck_T_init cn_T_init rfl rfl ml_RX5_11 ⟨Nat.le_of_ble_eq_true rfl, Nat.le_of_ble_eq_true rfl⟩ ⟨Nat.le_of_ble_eq_true rfl, Nat.le_of_ble_eq_true rfl⟩ [.int (151 : Int32), .int (3 : Int32)] rfl rfl (Nat.le_of_ble_eq_true rfl) dO_init_13 (wr := [(h0, .inr (4, [.null, .int 0]))]) (cT_init G q5 (151 : Int32) (3 : Int32) 453 (by decide) (by decide) (by decide) (by decide) (by decide)) [1] [0] rfl rfl rfl (by decide) (by decide) (fun w1 hw1 => ?_)
  obtain ⟨g13, e13, rfl⟩ := hw1
  subst e13
  refine cR_world [0, 1, 2] ([(h0, .inr (4, [.null, .int 0])), ((g13 0), .inr (3, [.int (151 : Int32), .int (3 : Int32), .ref (g13 1), .int 0])), ((g13 1), .inl (xI G, 453, .inl (fun _ => 0)))]) rfl rfl ?_
  refine cR_putF 16 xcf4 0 0 (by decide) rfl rfl rfl rfl rfl rfl (Nat.le_of_ble_eq_true rfl) ([(h0, .inr (4, [.ref (g13 0), .int 0])), ((g13 0), .inr (3, [.int (151 : Int32), .int (3 : Int32), .ref (g13 1), .int 0])), ((g13 1), .inl (xI G, 453, .inl (fun _ => 0)))]) rfl fl_RX5_14 dO_init_16 ?_
  refine cR_world [0, 1, 2] ([(h0, .inr (4, [.ref (g13 0), .int 0])), ((g13 0), .inr (3, [.int (151 : Int32), .int (3 : Int32), .ref (g13 1), .int 0])), ((g13 1), .inl (xI G, 453, .inl (fun _ => 0)))]) rfl rfl ?_
  exact cR_vret 19 rfl rfl ⟨Nat.le_of_ble_eq_true rfl, Nat.le_of_ble_eq_true rfl⟩ ⟨fun k => [h0, (g13 0), (g13 1)].getD k 0, rfl, rfl⟩ dO_init_19
set_option maxRecDepth 100000 in
set_option maxHeartbeats 4000000 in
theorem cR_init (G : xG) (h0 : Nat) : cCt G yyR_init 19 915 [.ref h0] [(h0, .inr (2, [.null, .null, .int 0, .int 0, .int 0]))] none (fun w => ∃ f : Nat → Nat, f 0 = h0 ∧ w = wlR G f) := by
  refine cCt_of rfl (Nat.le_of_ble_eq_true rfl) ?_
  show cR G yyR_init 19 915 _ _ 0 [(0, .ref h0)] [] _ 0 0
  refine cR_aln 0 0 dR_init_0 rfl rfl ?_
  refine cR_oinit 1 ml_RX2_3 oi_in oi_co ⟨Nat.le_of_ble_eq_true rfl, Nat.le_of_ble_eq_true rfl⟩ dR_init_1 ?_
  refine cR_aln 4 0 dR_init_4 rfl rfl ?_
  refine cR_new 5 xcf4 [.null, .int 0] kl_RX2_9 ki_RX5 kn_RX5 (fun j hj => by rcases (show j = 0 ∨ j = 1 by omega) with rfl | rfl <;> rfl) ⟨Nat.le_of_ble_eq_true rfl, Nat.le_of_ble_eq_true rfl⟩ dR_init_5 (fun q5 => ?_)
  refine cR_dup 8 dR_init_8 rfl ?_
  refine cR_callIN (host := RX8) 9 ck_O_init cn_O_init rfl rfl (by decide +kernel) ⟨Nat.le_of_ble_eq_true rfl, Nat.le_of_ble_eq_true rfl⟩ ⟨Nat.le_of_ble_eq_true rfl, Nat.le_of_ble_eq_true rfl⟩ [] rfl rfl (Nat.le_of_ble_eq_true rfl) dR_init_9 (wr := [(h0, .inr (2, [.null, .null, .int 0, .int 0, .int 0]))]) (cO_init G q5) [1] [0] rfl rfl rfl (by decide) (by decide) (fun w1 hw1 => ?_)
  obtain ⟨g9, e9, rfl⟩ := hw1
  subst e9
  refine cR_world [0, 1, 2, 3] ([(h0, .inr (2, [.null, .null, .int 0, .int 0, .int 0])), ((g9 0), .inr (4, [.ref (g9 1), .int 0])), ((g9 1), .inr (3, [.int 151, .int 3, .ref (g9 2), .int 0])), ((g9 2), .inl (xI G, 453, .inl (fun _ => 0)))]) rfl rfl ?_
  refine cR_putF 12 xcf2 0 0 (by decide) rfl rfl rfl rfl rfl rfl (Nat.le_of_ble_eq_true rfl) ([(h0, .inr (2, [.ref (g9 0), .null, .int 0, .int 0, .int 0])), ((g9 0), .inr (4, [.ref (g9 1), .int 0])), ((g9 1), .inr (3, [.int 151, .int 3, .ref (g9 2), .int 0])), ((g9 2), .inl (xI G, 453, .inl (fun _ => 0)))]) rfl fl_RX2_12 dR_init_12 ?_
  refine cR_aln 15 0 dR_init_15 rfl rfl ?_
  refine cR_new 16 xcf5 [.null, .null, .null, .null, .null, .null, .null] kl_RX2_18 ki_RX6 kn_RX6 (fun j hj => by rcases (show j = 0 ∨ j = 1 ∨ j = 2 ∨ j = 3 ∨ j = 4 ∨ j = 5 ∨ j = 6 by omega) with rfl | rfl | rfl | rfl | rfl | rfl | rfl <;> rfl) ⟨Nat.le_of_ble_eq_true rfl, Nat.le_of_ble_eq_true rfl⟩ dR_init_16 (fun q16 => ?_)
  refine cR_dup 19 dR_init_19 rfl ?_
  refine cR_callI 20 ck_W_init cn_W_init rfl rfl ml_RX2_20 ⟨Nat.le_of_ble_eq_true rfl, Nat.le_of_ble_eq_true rfl⟩ ⟨Nat.le_of_ble_eq_true rfl, Nat.le_of_ble_eq_true rfl⟩ [] rfl rfl (Nat.le_of_ble_eq_true rfl) dR_init_20 (wr := [(h0, .inr (2, [.ref (g9 0), .null, .int 0, .int 0, .int 0])), ((g9 0), .inr (4, [.ref (g9 1), .int 0])), ((g9 1), .inr (3, [.int 151, .int 3, .ref (g9 2), .int 0])), ((g9 2), .inl (xI G, 453, .inl (fun _ => 0)))]) (cW_init G q16) [4] [0, 1, 2, 3] rfl rfl rfl (by decide) (by decide) (fun w1 hw1 => ?_)
  obtain ⟨g20, e20, rfl⟩ := hw1
  subst e20
  refine cR_world [0, 1, 2, 3, 4, 5, 6, 7, 8, 9, 10, 11, 12, 13, 14, 15, 16, 17, 18, 19] ([(h0, .inr (2, [.ref (g9 0), .null, .int 0, .int 0, .int 0])), ((g9 0), .inr (4, [.ref (g9 1), .int 0])), ((g9 1), .inr (3, [.int 151, .int 3, .ref (g9 2), .int 0])), ((g9 2), .inl (xI G, 453, .inl (fun _ => 0))), ((g20 0), .inr (5, [.ref (g20 1), .ref (g20 4), .ref (g20 6), .ref (g20 8), .ref (g20 10), .ref (g20 12), .ref (g20 14)])), ((g20 1), .inr (0, [.ref (g20 2), .int 0])), ((g20 2), .inr (3, [.int 6, .int 6, .ref (g20 3), .int 0])), ((g20 3), .inl (xI G, 36, .inl (fun _ => 0))), ((g20 4), .inr (3, [.int 8, .int 37, .ref (g20 5), .int 0])), ((g20 5), .inl (xI G, 296, .inl (fun _ => 0))), ((g20 6), .inr (3, [.int 5, .int 1, .ref (g20 7), .int 5])), ((g20 7), .inl (xI G, 5, .inl (fun _ => 0))), ((g20 8), .inr (3, [.int 4, .int 1, .ref (g20 9), .int 0])), ((g20 9), .inl (xI G, 4, .inl (fun _ => 0))), ((g20 10), .inr (3, [.int 6, .int 2, .ref (g20 11), .int 0])), ((g20 11), .inl (xI G, 12, .inl (fun _ => 0))), ((g20 12), .inr (3, [.int 6, .int 5, .ref (g20 13), .int 0])), ((g20 13), .inl (xI G, 30, .inl (fun _ => 0))), ((g20 14), .inr (3, [.int 6, .int 6, .ref (g20 15), .int 0])), ((g20 15), .inl (xI G, 36, .inl (fun _ => 0)))]) rfl rfl ?_
  refine cR_putF 23 xcf2 1 0 (by decide) rfl rfl rfl rfl rfl rfl (Nat.le_of_ble_eq_true rfl) ([(h0, .inr (2, [.ref (g9 0), .ref (g20 0), .int 0, .int 0, .int 0])), ((g9 0), .inr (4, [.ref (g9 1), .int 0])), ((g9 1), .inr (3, [.int 151, .int 3, .ref (g9 2), .int 0])), ((g9 2), .inl (xI G, 453, .inl (fun _ => 0))), ((g20 0), .inr (5, [.ref (g20 1), .ref (g20 4), .ref (g20 6), .ref (g20 8), .ref (g20 10), .ref (g20 12), .ref (g20 14)])), ((g20 1), .inr (0, [.ref (g20 2), .int 0])), ((g20 2), .inr (3, [.int 6, .int 6, .ref (g20 3), .int 0])), ((g20 3), .inl (xI G, 36, .inl (fun _ => 0))), ((g20 4), .inr (3, [.int 8, .int 37, .ref (g20 5), .int 0])), ((g20 5), .inl (xI G, 296, .inl (fun _ => 0))), ((g20 6), .inr (3, [.int 5, .int 1, .ref (g20 7), .int 5])), ((g20 7), .inl (xI G, 5, .inl (fun _ => 0))), ((g20 8), .inr (3, [.int 4, .int 1, .ref (g20 9), .int 0])), ((g20 9), .inl (xI G, 4, .inl (fun _ => 0))), ((g20 10), .inr (3, [.int 6, .int 2, .ref (g20 11), .int 0])), ((g20 11), .inl (xI G, 12, .inl (fun _ => 0))), ((g20 12), .inr (3, [.int 6, .int 5, .ref (g20 13), .int 0])), ((g20 13), .inl (xI G, 30, .inl (fun _ => 0))), ((g20 14), .inr (3, [.int 6, .int 6, .ref (g20 15), .int 0])), ((g20 15), .inl (xI G, 36, .inl (fun _ => 0)))]) rfl fl_RX2_21 dR_init_23 ?_
  refine cR_world [0, 1, 2, 3, 4, 5, 6, 7, 8, 9, 10, 11, 12, 13, 14, 15, 16, 17, 18, 19] ([(h0, .inr (2, [.ref (g9 0), .ref (g20 0), .int 0, .int 0, .int 0])), ((g9 0), .inr (4, [.ref (g9 1), .int 0])), ((g9 1), .inr (3, [.int 151, .int 3, .ref (g9 2), .int 0])), ((g9 2), .inl (xI G, 453, .inl (fun _ => 0))), ((g20 0), .inr (5, [.ref (g20 1), .ref (g20 4), .ref (g20 6), .ref (g20 8), .ref (g20 10), .ref (g20 12), .ref (g20 14)])), ((g20 1), .inr (0, [.ref (g20 2), .int 0])), ((g20 2), .inr (3, [.int 6, .int 6, .ref (g20 3), .int 0])), ((g20 3), .inl (xI G, 36, .inl (fun _ => 0))), ((g20 4), .inr (3, [.int 8, .int 37, .ref (g20 5), .int 0])), ((g20 5), .inl (xI G, 296, .inl (fun _ => 0))), ((g20 6), .inr (3, [.int 5, .int 1, .ref (g20 7), .int 5])), ((g20 7), .inl (xI G, 5, .inl (fun _ => 0))), ((g20 8), .inr (3, [.int 4, .int 1, .ref (g20 9), .int 0])), ((g20 9), .inl (xI G, 4, .inl (fun _ => 0))), ((g20 10), .inr (3, [.int 6, .int 2, .ref (g20 11), .int 0])), ((g20 11), .inl (xI G, 12, .inl (fun _ => 0))), ((g20 12), .inr (3, [.int 6, .int 5, .ref (g20 13), .int 0])), ((g20 13), .inl (xI G, 30, .inl (fun _ => 0))), ((g20 14), .inr (3, [.int 6, .int 6, .ref (g20 15), .int 0])), ((g20 15), .inl (xI G, 36, .inl (fun _ => 0)))]) rfl rfl ?_
  exact cR_vret 26 rfl rfl ⟨Nat.le_of_ble_eq_true rfl, Nat.le_of_ble_eq_true rfl⟩ ⟨fun k => [h0, (g9 0), (g9 1), (g9 2), (g20 0), (g20 1), (g20 2), (g20 3), (g20 4), (g20 5), (g20 6), (g20 7), (g20 8), (g20 9), (g20 10), (g20 11), (g20 12), (g20 13), (g20 14), (g20 15)].getD k 0, rfl, rfl⟩ dR_init_26
set_option maxRecDepth 100000 in
set_option maxHeartbeats 4000000 in
theorem cK_init (G : xG) (h0 : Nat) : cCt G yyK_init 6 336 [.ref h0] [(h0, .inr (1, [.null, .null, .null, .int 0, .int 0]))] none (fun w => ∃ f : Nat → Nat, f 0 = h0 ∧ w = wlK G f) := by
  refine cCt_of rfl (Nat.le_of_ble_eq_true rfl) ?_
  show cR G yyK_init 6 336 _ _ 0 [(0, .ref h0)] [] _ 0 0
  refine cR_aln 0 0 dK_init_0 rfl rfl ?_
  refine cR_oinit 1 ml_RX1_3 oi_in oi_co ⟨Nat.le_of_ble_eq_true rfl, Nat.le_of_ble_eq_true rfl⟩ dK_init_1 ?_
  refine cR_aln 4 0 dK_init_4 rfl rfl ?_
  refine cR_new 5 xcf3 [.int 0, .int 0, .null, .int 0] kl_RX1_9 ki_RX4 kn_RX4 (fun j hj => by rcases (show j = 0 ∨ j = 1 ∨ j = 2 ∨ j = 3 by omega) with rfl | rfl | rfl | rfl <;> rfl) ⟨Nat.le_of_ble_eq_true rfl, Nat.le_of_ble_eq_true rfl⟩ dK_init_5 (fun q5 => ?_)
  refine cR_dup 8 dK_init_8 rfl ?_
  refine cR_ic 9 (4 : Int32) dK_init_9 (by decide) ?_
  refine cR_bp 10 (64 : Int32) dK_init_10 (by decide) ?_
  refine cR_callI 12 ck_T_init cn_T_init rfl rfl ml_RX1_13 ⟨Nat.le_of_ble_eq_true rfl, Nat.le_of_ble_eq_true rfl⟩ ⟨Nat.le_of_ble_eq_true rfl, Nat.le_of_ble_eq_true rfl⟩ [.int (4 : Int32), .int (64 : Int32)] rfl rfl (Nat.le_of_ble_eq_true rfl) dK_init_12 (wr := [(h0, .inr (1, [.null, .null, .null, .int 0, .int 0]))]) (cT_init G q5 (4 : Int32) (64 : Int32) 256 (by decide) (by decide) (by decide) (by decide) (by decide)) [1] [0] rfl rfl rfl (by decide) (by decide) (fun w1 hw1 => ?_)
  obtain ⟨g12, e12, rfl⟩ := hw1
  subst e12
  refine cR_world [0, 1, 2] ([(h0, .inr (1, [.null, .null, .null, .int 0, .int 0])), ((g12 0), .inr (3, [.int (4 : Int32), .int (64 : Int32), .ref (g12 1), .int 0])), ((g12 1), .inl (xI G, 256, .inl (fun _ => 0)))]) rfl rfl ?_
  refine cR_putF 15 xcf1 0 0 (by decide) rfl rfl rfl rfl rfl rfl (Nat.le_of_ble_eq_true rfl) ([(h0, .inr (1, [.ref (g12 0), .null, .null, .int 0, .int 0])), ((g12 0), .inr (3, [.int (4 : Int32), .int (64 : Int32), .ref (g12 1), .int 0])), ((g12 1), .inl (xI G, 256, .inl (fun _ => 0)))]) rfl fl_RX1_16 dK_init_15 ?_
  refine cR_aln 18 0 dK_init_18 rfl rfl ?_
  refine cR_new 19 xcf3 [.int 0, .int 0, .null, .int 0] kl_RX1_9 ki_RX4 kn_RX4 (fun j hj => by rcases (show j = 0 ∨ j = 1 ∨ j = 2 ∨ j = 3 by omega) with rfl | rfl | rfl | rfl <;> rfl) ⟨Nat.le_of_ble_eq_true rfl, Nat.le_of_ble_eq_true rfl⟩ dK_init_19 (fun q19 => ?_)
  refine cR_dup 22 dK_init_22 rfl ?_
  refine cR_bp 23 (64 : Int32) dK_init_23 (by decide) ?_
  refine cR_ic 25 (1 : Int32) dK_init_25 (by decide) ?_
  refine cR_callI 26 ck_T_init cn_T_init rfl rfl ml_RX1_13 ⟨Nat.le_of_ble_eq_true rfl, Nat.le_of_ble_eq_true rfl⟩ ⟨Nat.le_of_ble_eq_true rfl, Nat.le_of_ble_eq_true rfl⟩ [.int (64 : Int32), .int (1 : Int32)] rfl rfl (Nat.le_of_ble_eq_true rfl) dK_init_26 (wr := [(h0, .inr (1, [.ref (g12 0), .null, .null, .int 0, .int 0])), ((g12 0), .inr (3, [.int (4 : Int32), .int (64 : Int32), .ref (g12 1), .int 0])), ((g12 1), .inl (xI G, 256, .inl (fun _ => 0)))]) (cT_init G q19 (64 : Int32) (1 : Int32) 64 (by decide) (by decide) (by decide) (by decide) (by decide)) [3] [0, 1, 2] rfl rfl rfl (by decide) (by decide) (fun w1 hw1 => ?_)
  obtain ⟨g26, e26, rfl⟩ := hw1
  subst e26
  refine cR_world [0, 1, 2, 3, 4] ([(h0, .inr (1, [.ref (g12 0), .null, .null, .int 0, .int 0])), ((g12 0), .inr (3, [.int (4 : Int32), .int (64 : Int32), .ref (g12 1), .int 0])), ((g12 1), .inl (xI G, 256, .inl (fun _ => 0))), ((g26 0), .inr (3, [.int (64 : Int32), .int (1 : Int32), .ref (g26 1), .int 0])), ((g26 1), .inl (xI G, 64, .inl (fun _ => 0)))]) rfl rfl ?_
  refine cR_putF 29 xcf1 1 0 (by decide) rfl rfl rfl rfl rfl rfl (Nat.le_of_ble_eq_true rfl) ([(h0, .inr (1, [.ref (g12 0), .ref (g26 0), .null, .int 0, .int 0])), ((g12 0), .inr (3, [.int (4 : Int32), .int (64 : Int32), .ref (g12 1), .int 0])), ((g12 1), .inl (xI G, 256, .inl (fun _ => 0))), ((g26 0), .inr (3, [.int (64 : Int32), .int (1 : Int32), .ref (g26 1), .int 0])), ((g26 1), .inl (xI G, 64, .inl (fun _ => 0)))]) rfl fl_RX1_20 dK_init_29 ?_
  refine cR_aln 32 0 dK_init_32 rfl rfl ?_
  refine cR_new 33 xcf3 [.int 0, .int 0, .null, .int 0] kl_RX1_9 ki_RX4 kn_RX4 (fun j hj => by rcases (show j = 0 ∨ j = 1 ∨ j = 2 ∨ j = 3 by omega) with rfl | rfl | rfl | rfl <;> rfl) ⟨Nat.le_of_ble_eq_true rfl, Nat.le_of_ble_eq_true rfl⟩ dK_init_33 (fun q33 => ?_)
  refine cR_dup 36 dK_init_36 rfl ?_
  refine cR_ic 37 (4 : Int32) dK_init_37 (by decide) ?_
  refine cR_ic 38 (1 : Int32) dK_init_38 (by decide) ?_
  refine cR_callI 39 ck_T_init cn_T_init rfl rfl ml_RX1_13 ⟨Nat.le_of_ble_eq_true rfl, Nat.le_of_ble_eq_true rfl⟩ ⟨Nat.le_of_ble_eq_true rfl, Nat.le_of_ble_eq_true rfl⟩ [.int (4 : Int32), .int (1 : Int32)] rfl rfl (Nat.le_of_ble_eq_true rfl) dK_init_39 (wr := [(h0, .inr (1, [.ref (g12 0), .ref (g26 0), .null, .int 0, .int 0])), ((g12 0), .inr (3, [.int (4 : Int32), .int (64 : Int32), .ref (g12 1), .int 0])), ((g12 1), .inl (xI G, 256, .inl (fun _ => 0))), ((g26 0), .inr (3, [.int (64 : Int32), .int (1 : Int32), .ref (g26 1), .int 0])), ((g26 1), .inl (xI G, 64, .inl (fun _ => 0)))]) (cT_init G q33 (4 : Int32) (1 : Int32) 4 (by decide) (by decide) (by decide) (by decide) (by decide)) [5] [0, 1, 2, 3, 4] rfl rfl rfl (by decide) (by decide) (fun w1 hw1 => ?_)
  obtain ⟨g39, e39, rfl⟩ := hw1
  subst e39
  refine cR_world [0, 1, 2, 3, 4, 5, 6] ([(h0, .inr (1, [.ref (g12 0), .ref (g26 0), .null, .int 0, .int 0])), ((g12 0), .inr (3, [.int (4 : Int32), .int (64 : Int32), .ref (g12 1), .int 0])), ((g12 1), .inl (xI G, 256, .inl (fun _ => 0))), ((g26 0), .inr (3, [.int (64 : Int32), .int (1 : Int32), .ref (g26 1), .int 0])), ((g26 1), .inl (xI G, 64, .inl (fun _ => 0))), ((g39 0), .inr (3, [.int (4 : Int32), .int (1 : Int32), .ref (g39 1), .int 0])), ((g39 1), .inl (xI G, 4, .inl (fun _ => 0)))]) rfl rfl ?_
  refine cR_putF 42 xcf1 2 0 (by decide) rfl rfl rfl rfl rfl rfl (Nat.le_of_ble_eq_true rfl) ([(h0, .inr (1, [.ref (g12 0), .ref (g26 0), .ref (g39 0), .int 0, .int 0])), ((g12 0), .inr (3, [.int (4 : Int32), .int (64 : Int32), .ref (g12 1), .int 0])), ((g12 1), .inl (xI G, 256, .inl (fun _ => 0))), ((g26 0), .inr (3, [.int (64 : Int32), .int (1 : Int32), .ref (g26 1), .int 0])), ((g26 1), .inl (xI G, 64, .inl (fun _ => 0))), ((g39 0), .inr (3, [.int (4 : Int32), .int (1 : Int32), .ref (g39 1), .int 0])), ((g39 1), .inl (xI G, 4, .inl (fun _ => 0)))]) rfl fl_RX1_23 dK_init_42 ?_
  refine cR_world [0, 1, 2, 3, 4, 5, 6] ([(h0, .inr (1, [.ref (g12 0), .ref (g26 0), .ref (g39 0), .int 0, .int 0])), ((g12 0), .inr (3, [.int (4 : Int32), .int (64 : Int32), .ref (g12 1), .int 0])), ((g12 1), .inl (xI G, 256, .inl (fun _ => 0))), ((g26 0), .inr (3, [.int (64 : Int32), .int (1 : Int32), .ref (g26 1), .int 0])), ((g26 1), .inl (xI G, 64, .inl (fun _ => 0))), ((g39 0), .inr (3, [.int (4 : Int32), .int (1 : Int32), .ref (g39 1), .int 0])), ((g39 1), .inl (xI G, 4, .inl (fun _ => 0)))]) rfl rfl ?_
  exact cR_vret 45 rfl rfl ⟨Nat.le_of_ble_eq_true rfl, Nat.le_of_ble_eq_true rfl⟩ ⟨fun k => [h0, (g12 0), (g12 1), (g26 0), (g26 1), (g39 0), (g39 1)].getD k 0, rfl, rfl⟩ dK_init_45
set_option maxRecDepth 100000 in
set_option maxHeartbeats 4000000 in
theorem cH_init (G : xG) (h0 : Nat) : cCt G yyH_init 84 2843 [.ref h0] [(h0, .inr (6, [.null, .null, .null, .null, .null, .null, .null, .null, .null, .int 0, .int 0, .long 0, .long 0, .int 0, .int 0, .int 0]))] none (fun w => ∃ f : Nat → Nat, f 0 = h0 ∧ w = wlH G f) := by
  refine cCt_of rfl (Nat.le_of_ble_eq_true rfl) ?_
  show cR G yyH_init 84 2843 _ _ 0 [(0, .ref h0)] [] _ 0 0
  refine cR_aln 0 0 dH_init_0 rfl rfl ?_
  refine cR_oinit 1 ml_RX8_1 oi_in oi_co ⟨Nat.le_of_ble_eq_true rfl, Nat.le_of_ble_eq_true rfl⟩ dH_init_1 ?_
  refine cR_aln 4 0 dH_init_4 rfl rfl ?_
  refine cR_new 5 xcf5 [.null, .null, .null, .null, .null, .null, .null] kl_RX8_7 ki_RX6 kn_RX6 (fun j hj => by rcases (show j = 0 ∨ j = 1 ∨ j = 2 ∨ j = 3 ∨ j = 4 ∨ j = 5 ∨ j = 6 by omega) with rfl | rfl | rfl | rfl | rfl | rfl | rfl <;> rfl) ⟨Nat.le_of_ble_eq_true rfl, Nat.le_of_ble_eq_true rfl⟩ dH_init_5 (fun q5 => ?_)
  refine cR_dup 8 dH_init_8 rfl ?_
  refine cR_callI 9 ck_W_init cn_W_init rfl rfl ml_RX8_9 ⟨Nat.le_of_ble_eq_true rfl, Nat.le_of_ble_eq_true rfl⟩ ⟨Nat.le_of_ble_eq_true rfl, Nat.le_of_ble_eq_true rfl⟩ [] rfl rfl (Nat.le_of_ble_eq_true rfl) dH_init_9 (wr := [(h0, .inr (6, [.null, .null, .null, .null, .null, .null, .null, .null, .null, .int 0, .int 0, .long 0, .long 0, .int 0, .int 0, .int 0]))]) (cW_init G q5) [1] [0] rfl rfl rfl (by decide) (by decide) (fun w1 hw1 => ?_)
  obtain ⟨g9, e9, rfl⟩ := hw1
  subst e9
  refine cR_world [0, 1, 2, 3, 4, 5, 6, 7, 8, 9, 10, 11, 12, 13, 14, 15, 16] ([(h0, .inr (6, [.null, .null, .null, .null, .null, .null, .null, .null, .null, .int 0, .int 0, .long 0, .long 0, .int 0, .int 0, .int 0])), ((g9 0), .inr (5, [.ref (g9 1), .ref (g9 4), .ref (g9 6), .ref (g9 8), .ref (g9 10), .ref (g9 12), .ref (g9 14)])), ((g9 1), .inr (0, [.ref (g9 2), .int 0])), ((g9 2), .inr (3, [.int 6, .int 6, .ref (g9 3), .int 0])), ((g9 3), .inl (xI G, 36, .inl (fun _ => 0))), ((g9 4), .inr (3, [.int 8, .int 37, .ref (g9 5), .int 0])), ((g9 5), .inl (xI G, 296, .inl (fun _ => 0))), ((g9 6), .inr (3, [.int 5, .int 1, .ref (g9 7), .int 5])), ((g9 7), .inl (xI G, 5, .inl (fun _ => 0))), ((g9 8), .inr (3, [.int 4, .int 1, .ref (g9 9), .int 0])), ((g9 9), .inl (xI G, 4, .inl (fun _ => 0))), ((g9 10), .inr (3, [.int 6, .int 2, .ref (g9 11), .int 0])), ((g9 11), .inl (xI G, 12, .inl (fun _ => 0))), ((g9 12), .inr (3, [.int 6, .int 5, .ref (g9 13), .int 0])), ((g9 13), .inl (xI G, 30, .inl (fun _ => 0))), ((g9 14), .inr (3, [.int 6, .int 6, .ref (g9 15), .int 0])), ((g9 15), .inl (xI G, 36, .inl (fun _ => 0)))]) rfl rfl ?_
  refine cR_putF 12 xcf6 0 0 (by decide) rfl rfl rfl rfl rfl rfl (Nat.le_of_ble_eq_true rfl) ([(h0, .inr (6, [.ref (g9 0), .null, .null, .null, .null, .null, .null, .null, .null, .int 0, .int 0, .long 0, .long 0, .int 0, .int 0, .int 0])), ((g9 0), .inr (5, [.ref (g9 1), .ref (g9 4), .ref (g9 6), .ref (g9 8), .ref (g9 10), .ref (g9 12), .ref (g9 14)])), ((g9 1), .inr (0, [.ref (g9 2), .int 0])), ((g9 2), .inr (3, [.int 6, .int 6, .ref (g9 3), .int 0])), ((g9 3), .inl (xI G, 36, .inl (fun _ => 0))), ((g9 4), .inr (3, [.int 8, .int 37, .ref (g9 5), .int 0])), ((g9 5), .inl (xI G, 296, .inl (fun _ => 0))), ((g9 6), .inr (3, [.int 5, .int 1, .ref (g9 7), .int 5])), ((g9 7), .inl (xI G, 5, .inl (fun _ => 0))), ((g9 8), .inr (3, [.int 4, .int 1, .ref (g9 9), .int 0])), ((g9 9), .inl (xI G, 4, .inl (fun _ => 0))), ((g9 10), .inr (3, [.int 6, .int 2, .ref (g9 11), .int 0])), ((g9 11), .inl (xI G, 12, .inl (fun _ => 0))), ((g9 12), .inr (3, [.int 6, .int 5, .ref (g9 13), .int 0])), ((g9 13), .inl (xI G, 30, .inl (fun _ => 0))), ((g9 14), .inr (3, [.int 6, .int 6, .ref (g9 15), .int 0])), ((g9 15), .inl (xI G, 36, .inl (fun _ => 0)))]) rfl fl_RX8_10 dH_init_12 ?_
  refine cR_aln 15 0 dH_init_15 rfl rfl ?_
  refine cR_new 16 xcf5 [.null, .null, .null, .null, .null, .null, .null] kl_RX8_7 ki_RX6 kn_RX6 (fun j hj => by rcases (show j = 0 ∨ j = 1 ∨ j = 2 ∨ j = 3 ∨ j = 4 ∨ j = 5 ∨ j = 6 by omega) with rfl | rfl | rfl | rfl | rfl | rfl | rfl <;> rfl) ⟨Nat.le_of_ble_eq_true rfl, Nat.le_of_ble_eq_true rfl⟩ dH_init_16 (fun q16 => ?_)
  refine cR_dup 19 dH_init_19 rfl ?_
  refine cR_callI 20 ck_W_init cn_W_init rfl rfl ml_RX8_9 ⟨Nat.le_of_ble_eq_true rfl, Nat.le_of_ble_eq_true rfl⟩ ⟨Nat.le_of_ble_eq_true rfl, Nat.le_of_ble_eq_true rfl⟩ [] rfl rfl (Nat.le_of_ble_eq_true rfl) dH_init_20 (wr := [(h0, .inr (6, [.ref (g9 0), .null, .null, .null, .null, .null, .null, .null, .null, .int 0, .int 0, .long 0, .long 0, .int 0, .int 0, .int 0])), ((g9 0), .inr (5, [.ref (g9 1), .ref (g9 4), .ref (g9 6), .ref (g9 8), .ref (g9 10), .ref (g9 12), .ref (g9 14)])), ((g9 1), .inr (0, [.ref (g9 2), .int 0])), ((g9 2), .inr (3, [.int 6, .int 6, .ref (g9 3), .int 0])), ((g9 3), .inl (xI G, 36, .inl (fun _ => 0))), ((g9 4), .inr (3, [.int 8, .int 37, .ref (g9 5), .int 0])), ((g9 5), .inl (xI G, 296, .inl (fun _ => 0))), ((g9 6), .inr (3, [.int 5, .int 1, .ref (g9 7), .int 5])), ((g9 7), .inl (xI G, 5, .inl (fun _ => 0))), ((g9 8), .inr (3, [.int 4, .int 1, .ref (g9 9), .int 0])), ((g9 9), .inl (xI G, 4, .inl (fun _ => 0))), ((g9 10), .inr (3, [.int 6, .int 2, .ref (g9 11), .int 0])), ((g9 11), .inl (xI G, 12, .inl (fun _ => 0))), ((g9 12), .inr (3, [.int 6, .int 5, .ref (g9 13), .int 0])), ((g9 13), .inl (xI G, 30, .inl (fun _ => 0))), ((g9 14), .inr (3, [.int 6, .int 6, .ref (g9 15), .int 0])), ((g9 15), .inl (xI G, 36, .inl (fun _ => 0)))]) (cW_init G q16) [17] [0, 1, 2, 3, 4, 5, 6, 7, 8, 9, 10, 11, 12, 13, 14, 15, 16] rfl rfl rfl (by decide) (by decide) (fun w1 hw1 => ?_)
  obtain ⟨g20, e20, rfl⟩ := hw1
  subst e20
  refine cR_world [0, 1, 2, 3, 4, 5, 6, 7, 8, 9, 10, 11, 12, 13, 14, 15, 16, 17, 18, 19, 20, 21, 22, 23, 24, 25, 26, 27, 28, 29, 30, 31, 32] ([(h0, .inr (6, [.ref (g9 0), .null, .null, .null, .null, .null, .null, .null, .null, .int 0, .int 0, .long 0, .long 0, .int 0, .int 0, .int 0])), ((g9 0), .inr (5, [.ref (g9 1), .ref (g9 4), .ref (g9 6), .ref (g9 8), .ref (g9 10), .ref (g9 12), .ref (g9 14)])), ((g9 1), .inr (0, [.ref (g9 2), .int 0])), ((g9 2), .inr (3, [.int 6, .int 6, .ref (g9 3), .int 0])), ((g9 3), .inl (xI G, 36, .inl (fun _ => 0))), ((g9 4), .inr (3, [.int 8, .int 37, .ref (g9 5), .int 0])), ((g9 5), .inl (xI G, 296, .inl (fun _ => 0))), ((g9 6), .inr (3, [.int 5, .int 1, .ref (g9 7), .int 5])), ((g9 7), .inl (xI G, 5, .inl (fun _ => 0))), ((g9 8), .inr (3, [.int 4, .int 1, .ref (g9 9), .int 0])), ((g9 9), .inl (xI G, 4, .inl (fun _ => 0))), ((g9 10), .inr (3, [.int 6, .int 2, .ref (g9 11), .int 0])), ((g9 11), .inl (xI G, 12, .inl (fun _ => 0))), ((g9 12), .inr (3, [.int 6, .int 5, .ref (g9 13), .int 0])), ((g9 13), .inl (xI G, 30, .inl (fun _ => 0))), ((g9 14), .inr (3, [.int 6, .int 6, .ref (g9 15), .int 0])), ((g9 15), .inl (xI G, 36, .inl (fun _ => 0))), ((g20 0), .inr (5, [.ref (g20 1), .ref (g20 4), .ref (g20 6), .ref (g20 8), .ref (g20 10), .ref (g20 12), .ref (g20 14)])), ((g20 1), .inr (0, [.ref (g20 2), .int 0])), ((g20 2), .inr (3, [.int 6, .int 6, .ref (g20 3), .int 0])), ((g20 3), .inl (xI G, 36, .inl (fun _ => 0))), ((g20 4), .inr (3, [.int 8, .int 37, .ref (g20 5), .int 0])), ((g20 5), .inl (xI G, 296, .inl (fun _ => 0))), ((g20 6), .inr (3, [.int 5, .int 1, .ref (g20 7), .int 5])), ((g20 7), .inl (xI G, 5, .inl (fun _ => 0))), ((g20 8), .inr (3, [.int 4, .int 1, .ref (g20 9), .int 0])), ((g20 9), .inl (xI G, 4, .inl (fun _ => 0))), ((g20 10), .inr (3, [.int 6, .int 2, .ref (g20 11), .int 0])), ((g20 11), .inl (xI G, 12, .inl (fun _ => 0))), ((g20 12), .inr (3, [.int 6, .int 5, .ref (g20 13), .int 0])), ((g20 13), .inl (xI G, 30, .inl (fun _ => 0))), ((g20 14), .inr (3, [.int 6, .int 6, .ref (g20 15), .int 0])), ((g20 15), .inl (xI G, 36, .inl (fun _ => 0)))]) rfl rfl ?_
  refine cR_putF 23 xcf6 1 0 (by decide) rfl rfl rfl rfl rfl rfl (Nat.le_of_ble_eq_true rfl) ([(h0, .inr (6, [.ref (g9 0), .ref (g20 0), .null, .null, .null, .null, .null, .null, .null, .int 0, .int 0, .long 0, .long 0, .int 0, .int 0, .int 0])), ((g9 0), .inr (5, [.ref (g9 1), .ref (g9 4), .ref (g9 6), .ref (g9 8), .ref (g9 10), .ref (g9 12), .ref (g9 14)])), ((g9 1), .inr (0, [.ref (g9 2), .int 0])), ((g9 2), .inr (3, [.int 6, .int 6, .ref (g9 3), .int 0])), ((g9 3), .inl (xI G, 36, .inl (fun _ => 0))), ((g9 4), .inr (3, [.int 8, .int 37, .ref (g9 5), .int 0])), ((g9 5), .inl (xI G, 296, .inl (fun _ => 0))), ((g9 6), .inr (3, [.int 5, .int 1, .ref (g9 7), .int 5])), ((g9 7), .inl (xI G, 5, .inl (fun _ => 0))), ((g9 8), .inr (3, [.int 4, .int 1, .ref (g9 9), .int 0])), ((g9 9), .inl (xI G, 4, .inl (fun _ => 0))), ((g9 10), .inr (3, [.int 6, .int 2, .ref (g9 11), .int 0])), ((g9 11), .inl (xI G, 12, .inl (fun _ => 0))), ((g9 12), .inr (3, [.int 6, .int 5, .ref (g9 13), .int 0])), ((g9 13), .inl (xI G, 30, .inl (fun _ => 0))), ((g9 14), .inr (3, [.int 6, .int 6, .ref (g9 15), .int 0])), ((g9 15), .inl (xI G, 36, .inl (fun _ => 0))), ((g20 0), .inr (5, [.ref (g20 1), .ref (g20 4), .ref (g20 6), .ref (g20 8), .ref (g20 10), .ref (g20 12), .ref (g20 14)])), ((g20 1), .inr (0, [.ref (g20 2), .int 0])), ((g20 2), .inr (3, [.int 6, .int 6, .ref (g20 3), .int 0])), ((g20 3), .inl (xI G, 36, .inl (fun _ => 0))), ((g20 4), .inr (3, [.int 8, .int 37, .ref (g20 5), .int 0])), ((g20 5), .inl (xI G, 296, .inl (fun _ => 0))), ((g20 6), .inr (3, [.int 5, .int 1, .ref (g20 7), .int 5])), ((g20 7), .inl (xI G, 5, .inl (fun _ => 0))), ((g20 8), .inr (3, [.int 4, .int 1, .ref (g20 9), .int 0])), ((g20 9), .inl (xI G, 4, .inl (fun _ => 0))), ((g20 10), .inr (3, [.int 6, .int 2, .ref (g20 11), .int 0])), ((g20 11), .inl (xI G, 12, .inl (fun _ => 0))), ((g20 12), .inr (3, [.int 6, .int 5, .ref (g20 13), .int 0])), ((g20 13), .inl (xI G, 30, .inl (fun _ => 0))), ((g20 14), .inr (3, [.int 6, .int 6, .ref (g20 15), .int 0])), ((g20 15), .inl (xI G, 36, .inl (fun _ => 0)))]) rfl fl_RX8_16 dH_init_23 ?_
  refine cR_aln 26 0 dH_init_26 rfl rfl ?_
  refine cR_new 27 xcf5 [.null, .null, .null, .null, .null, .null, .null] kl_RX8_7 ki_RX6 kn_RX6 (fun j hj => by rcases (show j = 0 ∨ j = 1 ∨ j = 2 ∨ j = 3 ∨ j = 4 ∨ j = 5 ∨ j = 6 by omega) with rfl | rfl | rfl | rfl | rfl | rfl | rfl <;> rfl) ⟨Nat.le_of_ble_eq_true rfl, Nat.le_of_ble_eq_true rfl⟩ dH_init_27 (fun q27 => ?_)
  refine cR_dup 30 dH_init_30 rfl ?_
  refine cR_callI 31 ck_W_init cn_W_init rfl rfl ml_RX8_9 ⟨Nat.le_of_ble_eq_true rfl, Nat.le_of_ble_eq_true rfl⟩ ⟨Nat.le_of_ble_eq_true rfl, Nat.le_of_ble_eq_true rfl⟩ [] rfl rfl (Nat.le_of_ble_eq_true rfl) dH_init_31 (wr := [(h0, .inr (6, [.ref (g9 0), .ref (g20 0), .null, .null, .null, .null, .null, .null, .null, .int 0, .int 0, .long 0, .long 0, .int 0, .int 0, .int 0])), ((g9 0), .inr (5, [.ref (g9 1), .ref (g9 4), .ref (g9 6), .ref (g9 8), .ref (g9 10), .ref (g9 12), .ref (g9 14)])), ((g9 1), .inr (0, [.ref (g9 2), .int 0])), ((g9 2), .inr (3, [.int 6, .int 6, .ref (g9 3), .int 0])), ((g9 3), .inl (xI G, 36, .inl (fun _ => 0))), ((g9 4), .inr (3, [.int 8, .int 37, .ref (g9 5), .int 0])), ((g9 5), .inl (xI G, 296, .inl (fun _ => 0))), ((g9 6), .inr (3, [.int 5, .int 1, .ref (g9 7), .int 5])), ((g9 7), .inl (xI G, 5, .inl (fun _ => 0))), ((g9 8), .inr (3, [.int 4, .int 1, .ref (g9 9), .int 0])), ((g9 9), .inl (xI G, 4, .inl (fun _ => 0))), ((g9 10), .inr (3, [.int 6, .int 2, .ref (g9 11), .int 0])), ((g9 11), .inl (xI G, 12, .inl (fun _ => 0))), ((g9 12), .inr (3, [.int 6, .int 5, .ref (g9 13), .int 0])), ((g9 13), .inl (xI G, 30, .inl (fun _ => 0))), ((g9 14), .inr (3, [.int 6, .int 6, .ref (g9 15), .int 0])), ((g9 15), .inl (xI G, 36, .inl (fun _ => 0))), ((g20 0), .inr (5, [.ref (g20 1), .ref (g20 4), .ref (g20 6), .ref (g20 8), .ref (g20 10), .ref (g20 12), .ref (g20 14)])), ((g20 1), .inr (0, [.ref (g20 2), .int 0])), ((g20 2), .inr (3, [.int 6, .int 6, .ref (g20 3), .int 0])), ((g20 3), .inl (xI G, 36, .inl (fun _ => 0))), ((g20 4), .inr (3, [.int 8, .int 37, .ref (g20 5), .int 0])), ((g20 5), .inl (xI G, 296, .inl (fun _ => 0))), ((g20 6), .inr (3, [.int 5, .int 1, .ref (g20 7), .int 5])), ((g20 7), .inl (xI G, 5, .inl (fun _ => 0))), ((g20 8), .inr (3, [.int 4, .int 1, .ref (g20 9), .int 0])), ((g20 9), .inl (xI G, 4, .inl (fun _ => 0))), ((g20 10), .inr (3, [.int 6, .int 2, .ref (g20 11), .int 0])), ((g20 11), .inl (xI G, 12, .inl (fun _ => 0))), ((g20 12), .inr (3, [.int 6, .int 5, .ref (g20 13), .int 0])), ((g20 13), .inl (xI G, 30, .inl (fun _ => 0))), ((g20 14), .inr (3, [.int 6, .int 6, .ref (g20 15), .int 0])), ((g20 15), .inl (xI G, 36, .inl (fun _ => 0)))]) (cW_init G q27) [33] [0, 1, 2, 3, 4, 5, 6, 7, 8, 9, 10, 11, 12, 13, 14, 15, 16, 17, 18, 19, 20, 21, 22, 23, 24, 25, 26, 27, 28, 29, 30, 31, 32] rfl rfl rfl (by decide) (by decide) (fun w1 hw1 => ?_)
  obtain ⟨g31, e31, rfl⟩ := hw1
  subst e31
  refine cR_world [0, 1, 2, 3, 4, 5, 6, 7, 8, 9, 10, 11, 12, 13, 14, 15, 16, 17, 18, 19, 20, 21, 22, 23, 24, 25, 26, 27, 28, 29, 30, 31, 32, 33, 34, 35, 36, 37, 38, 39, 40, 41, 42, 43, 44, 45, 46, 47, 48] ([(h0, .inr (6, [.ref (g9 0), .ref (g20 0), .null, .null, .null, .null, .null, .null, .null, .int 0, .int 0, .long 0, .long 0, .int 0, .int 0, .int 0])), ((g9 0), .inr (5, [.ref (g9 1), .ref (g9 4), .ref (g9 6), .ref (g9 8), .ref (g9 10), .ref (g9 12), .ref (g9 14)])), ((g9 1), .inr (0, [.ref (g9 2), .int 0])), ((g9 2), .inr (3, [.int 6, .int 6, .ref (g9 3), .int 0])), ((g9 3), .inl (xI G, 36, .inl (fun _ => 0))), ((g9 4), .inr (3, [.int 8, .int 37, .ref (g9 5), .int 0])), ((g9 5), .inl (xI G, 296, .inl (fun _ => 0))), ((g9 6), .inr (3, [.int 5, .int 1, .ref (g9 7), .int 5])), ((g9 7), .inl (xI G, 5, .inl (fun _ => 0))), ((g9 8), .inr (3, [.int 4, .int 1, .ref (g9 9), .int 0])), ((g9 9), .inl (xI G, 4, .inl (fun _ => 0))), ((g9 10), .inr (3, [.int 6, .int 2, .ref (g9 11), .int 0])), ((g9 11), .inl (xI G, 12, .inl (fun _ => 0))), ((g9 12), .inr (3, [.int 6, .int 5, .ref (g9 13), .int 0])), ((g9 13), .inl (xI G, 30, .inl (fun _ => 0))), ((g9 14), .inr (3, [.int 6, .int 6, .ref (g9 15), .int 0])), ((g9 15), .inl (xI G, 36, .inl (fun _ => 0))), ((g20 0), .inr (5, [.ref (g20 1), .ref (g20 4), .ref (g20 6), .ref (g20 8), .ref (g20 10), .ref (g20 12), .ref (g20 14)])), ((g20 1), .inr (0, [.ref (g20 2), .int 0])), ((g20 2), .inr (3, [.int 6, .int 6, .ref (g20 3), .int 0])), ((g20 3), .inl (xI G, 36, .inl (fun _ => 0))), ((g20 4), .inr (3, [.int 8, .int 37, .ref (g20 5), .int 0])), ((g20 5), .inl (xI G, 296, .inl (fun _ => 0))), ((g20 6), .inr (3, [.int 5, .int 1, .ref (g20 7), .int 5])), ((g20 7), .inl (xI G, 5, .inl (fun _ => 0))), ((g20 8), .inr (3, [.int 4, .int 1, .ref (g20 9), .int 0])), ((g20 9), .inl (xI G, 4, .inl (fun _ => 0))), ((g20 10), .inr (3, [.int 6, .int 2, .ref (g20 11), .int 0])), ((g20 11), .inl (xI G, 12, .inl (fun _ => 0))), ((g20 12), .inr (3, [.int 6, .int 5, .ref (g20 13), .int 0])), ((g20 13), .inl (xI G, 30, .inl (fun _ => 0))), ((g20 14), .inr (3, [.int 6, .int 6, .ref (g20 15), .int 0])), ((g20 15), .inl (xI G, 36, .inl (fun _ => 0))), ((g31 0), .inr (5, [.ref (g31 1), .ref (g31 4), .ref (g31 6), .ref (g31 8), .ref (g31 10), .ref (g31 12), .ref (g31 14)])), ((g31 1), .inr (0, [.ref (g31 2), .int 0])), ((g31 2), .inr (3, [.int 6, .int 6, .ref (g31 3), .int 0])), ((g31 3), .inl (xI G, 36, .inl (fun _ => 0))), ((g31 4), .inr (3, [.int 8, .int 37, .ref (g31 5), .int 0])), ((g31 5), .inl (xI G, 296, .inl (fun _ => 0))), ((g31 6), .inr (3, [.int 5, .int 1, .ref (g31 7), .int 5])), ((g31 7), .inl (xI G, 5, .inl (fun _ => 0))), ((g31 8), .inr (3, [.int 4, .int 1, .ref (g31 9), .int 0])), ((g31 9), .inl (xI G, 4, .inl (fun _ => 0))), ((g31 10), .inr (3, [.int 6, .int 2, .ref (g31 11), .int 0])), ((g31 11), .inl (xI G, 12, .inl (fun _ => 0))), ((g31 12), .inr (3, [.int 6, .int 5, .ref (g31 13), .int 0])), ((g31 13), .inl (xI G, 30, .inl (fun _ => 0))), ((g31 14), .inr (3, [.int 6, .int 6, .ref (g31 15), .int 0])), ((g31 15), .inl (xI G, 36, .inl (fun _ => 0)))]) rfl rfl ?_
  refine cR_putF 34 xcf6 2 0 (by decide) rfl rfl rfl rfl rfl rfl (Nat.le_of_ble_eq_true rfl) ([(h0, .inr (6, [.ref (g9 0), .ref (g20 0), .ref (g31 0), .null, .null, .null, .null, .null, .null, .int 0, .int 0, .long 0, .long 0, .int 0, .int 0, .int 0])), ((g9 0), .inr (5, [.ref (g9 1), .ref (g9 4), .ref (g9 6), .ref (g9 8), .ref (g9 10), .ref (g9 12), .ref (g9 14)])), ((g9 1), .inr (0, [.ref (g9 2), .int 0])), ((g9 2), .inr (3, [.int 6, .int 6, .ref (g9 3), .int 0])), ((g9 3), .inl (xI G, 36, .inl (fun _ => 0))), ((g9 4), .inr (3, [.int 8, .int 37, .ref (g9 5), .int 0])), ((g9 5), .inl (xI G, 296, .inl (fun _ => 0))), ((g9 6), .inr (3, [.int 5, .int 1, .ref (g9 7), .int 5])), ((g9 7), .inl (xI G, 5, .inl (fun _ => 0))), ((g9 8), .inr (3, [.int 4, .int 1, .ref (g9 9), .int 0])), ((g9 9), .inl (xI G, 4, .inl (fun _ => 0))), ((g9 10), .inr (3, [.int 6, .int 2, .ref (g9 11), .int 0])), ((g9 11), .inl (xI G, 12, .inl (fun _ => 0))), ((g9 12), .inr (3, [.int 6, .int 5, .ref (g9 13), .int 0])), ((g9 13), .inl (xI G, 30, .inl (fun _ => 0))), ((g9 14), .inr (3, [.int 6, .int 6, .ref (g9 15), .int 0])), ((g9 15), .inl (xI G, 36, .inl (fun _ => 0))), ((g20 0), .inr (5, [.ref (g20 1), .ref (g20 4), .ref (g20 6), .ref (g20 8), .ref (g20 10), .ref (g20 12), .ref (g20 14)])), ((g20 1), .inr (0, [.ref (g20 2), .int 0])), ((g20 2), .inr (3, [.int 6, .int 6, .ref (g20 3), .int 0])), ((g20 3), .inl (xI G, 36, .inl (fun _ => 0))), ((g20 4), .inr (3, [.int 8, .int 37, .ref (g20 5), .int 0])), ((g20 5), .inl (xI G, 296, .inl (fun _ => 0))), ((g20 6), .inr (3, [.int 5, .int 1, .ref (g20 7), .int 5])), ((g20 7), .inl (xI G, 5, .inl (fun _ => 0))), ((g20 8), .inr (3, [.int 4, .int 1, .ref (g20 9), .int 0])), ((g20 9), .inl (xI G, 4, .inl (fun _ => 0))), ((g20 10), .inr (3, [.int 6, .int 2, .ref (g20 11), .int 0])), ((g20 11), .inl (xI G, 12, .inl (fun _ => 0))), ((g20 12), .inr (3, [.int 6, .int 5, .ref (g20 13), .int 0])), ((g20 13), .inl (xI G, 30, .inl (fun _ => 0))), ((g20 14), .inr (3, [.int 6, .int 6, .ref (g20 15), .int 0])), ((g20 15), .inl (xI G, 36, .inl (fun _ => 0))), ((g31 0), .inr (5, [.ref (g31 1), .ref (g31 4), .ref (g31 6), .ref (g31 8), .ref (g31 10), .ref (g31 12), .ref (g31 14)])), ((g31 1), .inr (0, [.ref (g31 2), .int 0])), ((g31 2), .inr (3, [.int 6, .int 6, .ref (g31 3), .int 0])), ((g31 3), .inl (xI G, 36, .inl (fun _ => 0))), ((g31 4), .inr (3, [.int 8, .int 37, .ref (g31 5), .int 0])), ((g31 5), .inl (xI G, 296, .inl (fun _ => 0))), ((g31 6), .inr (3, [.int 5, .int 1, .ref (g31 7), .int 5])), ((g31 7), .inl (xI G, 5, .inl (fun _ => 0))), ((g31 8), .inr (3, [.int 4, .int 1, .ref (g31 9), .int 0])), ((g31 9), .inl (xI G, 4, .inl (fun _ => 0))), ((g31 10), .inr (3, [.int 6, .int 2, .ref (g31 11), .int 0])), ((g31 11), .inl (xI G, 12, .inl (fun _ => 0))), ((g31 12), .inr (3, [.int 6, .int 5, .ref (g31 13), .int 0])), ((g31 13), .inl (xI G, 30, .inl (fun _ => 0))), ((g31 14), .inr (3, [.int 6, .int 6, .ref (g31 15), .int 0])), ((g31 15), .inl (xI G, 36, .inl (fun _ => 0)))]) rfl fl_RX8_19 dH_init_34 ?_
  refine cR_aln 37 0 dH_init_37 rfl rfl ?_
  refine cR_new 38 xcf0 [.null, .int 0] kl_RX8_22 ki_RX0 kn_RX0 (fun j hj => by rcases (show j = 0 ∨ j = 1 by omega) with rfl | rfl <;> rfl) ⟨Nat.le_of_ble_eq_true rfl, Nat.le_of_ble_eq_true rfl⟩ dH_init_38 (fun q38 => ?_)
  refine cR_dup 41 dH_init_41 rfl ?_
  refine cR_callIN (host := RX8) 42 ck_B_init cn_B_init rfl rfl (by decide +kernel) ⟨Nat.le_of_ble_eq_true rfl, Nat.le_of_ble_eq_true rfl⟩ ⟨Nat.le_of_ble_eq_true rfl, Nat.le_of_ble_eq_true rfl⟩ [] rfl rfl (Nat.le_of_ble_eq_true rfl) dH_init_42 (wr := [(h0, .inr (6, [.ref (g9 0), .ref (g20 0), .ref (g31 0), .null, .null, .null, .null, .null, .null, .int 0, .int 0, .long 0, .long 0, .int 0, .int 0, .int 0])), ((g9 0), .inr (5, [.ref (g9 1), .ref (g9 4), .ref (g9 6), .ref (g9 8), .ref (g9 10), .ref (g9 12), .ref (g9 14)])), ((g9 1), .inr (0, [.ref (g9 2), .int 0])), ((g9 2), .inr (3, [.int 6, .int 6, .ref (g9 3), .int 0])), ((g9 3), .inl (xI G, 36, .inl (fun _ => 0))), ((g9 4), .inr (3, [.int 8, .int 37, .ref (g9 5), .int 0])), ((g9 5), .inl (xI G, 296, .inl (fun _ => 0))), ((g9 6), .inr (3, [.int 5, .int 1, .ref (g9 7), .int 5])), ((g9 7), .inl (xI G, 5, .inl (fun _ => 0))), ((g9 8), .inr (3, [.int 4, .int 1, .ref (g9 9), .int 0])), ((g9 9), .inl (xI G, 4, .inl (fun _ => 0))), ((g9 10), .inr (3, [.int 6, .int 2, .ref (g9 11), .int 0])), ((g9 11), .inl (xI G, 12, .inl (fun _ => 0))), ((g9 12), .inr (3, [.int 6, .int 5, .ref (g9 13), .int 0])), ((g9 13), .inl (xI G, 30, .inl (fun _ => 0))), ((g9 14), .inr (3, [.int 6, .int 6, .ref (g9 15), .int 0])), ((g9 15), .inl (xI G, 36, .inl (fun _ => 0))), ((g20 0), .inr (5, [.ref (g20 1), .ref (g20 4), .ref (g20 6), .ref (g20 8), .ref (g20 10), .ref (g20 12), .ref (g20 14)])), ((g20 1), .inr (0, [.ref (g20 2), .int 0])), ((g20 2), .inr (3, [.int 6, .int 6, .ref (g20 3), .int 0])), ((g20 3), .inl (xI G, 36, .inl (fun _ => 0))), ((g20 4), .inr (3, [.int 8, .int 37, .ref (g20 5), .int 0])), ((g20 5), .inl (xI G, 296, .inl (fun _ => 0))), ((g20 6), .inr (3, [.int 5, .int 1, .ref (g20 7), .int 5])), ((g20 7), .inl (xI G, 5, .inl (fun _ => 0))), ((g20 8), .inr (3, [.int 4, .int 1, .ref (g20 9), .int 0])), ((g20 9), .inl (xI G, 4, .inl (fun _ => 0))), ((g20 10), .inr (3, [.int 6, .int 2, .ref (g20 11), .int 0])), ((g20 11), .inl (xI G, 12, .inl (fun _ => 0))), ((g20 12), .inr (3, [.int 6, .int 5, .ref (g20 13), .int 0])), ((g20 13), .inl (xI G, 30, .inl (fun _ => 0))), ((g20 14), .inr (3, [.int 6, .int 6, .ref (g20 15), .int 0])), ((g20 15), .inl (xI G, 36, .inl (fun _ => 0))), ((g31 0), .inr (5, [.ref (g31 1), .ref (g31 4), .ref (g31 6), .ref (g31 8), .ref (g31 10), .ref (g31 12), .ref (g31 14)])), ((g31 1), .inr (0, [.ref (g31 2), .int 0])), ((g31 2), .inr (3, [.int 6, .int 6, .ref (g31 3), .int 0])), ((g31 3), .inl (xI G, 36, .inl (fun _ => 0))), ((g31 4), .inr (3, [.int 8, .int 37, .ref (g31 5), .int 0])), ((g31 5), .inl (xI G, 296, .inl (fun _ => 0))), ((g31 6), .inr (3, [.int 5, .int 1, .ref (g31 7), .int 5])), ((g31 7), .inl (xI G, 5, .inl (fun _ => 0))), ((g31 8), .inr (3, [.int 4, .int 1, .ref (g31 9), .int 0])), ((g31 9), .inl (xI G, 4, .inl (fun _ => 0))), ((g31 10), .inr (3, [.int 6, .int 2, .ref (g31 11), .int 0])), ((g31 11), .inl (xI G, 12, .inl (fun _ => 0))), ((g31 12), .inr (3, [.int 6, .int 5, .ref (g31 13), .int 0])), ((g31 13), .inl (xI G, 30, .inl (fun _ => 0))), ((g31 14), .inr (3, [.int 6, .int 6, .ref (g31 15), .int 0])), ((g31 15), .inl (xI G, 36, .inl (fun _ => 0)))]) (cB_init G q38) [49] [0, 1, 2, 3, 4, 5, 6, 7, 8, 9, 10, 11, 12, 13, 14, 15, 16, 17, 18, 19, 20, 21, 22, 23, 24, 25, 26, 27, 28, 29, 30, 31, 32, 33, 34, 35, 36, 37, 38, 39, 40, 41, 42, 43, 44, 45, 46, 47, 48] rfl rfl rfl (by decide) (by decide) (fun w1 hw1 => ?_)
  obtain ⟨g42, e42, rfl⟩ := hw1
  subst e42
  refine cR_world [0, 1, 2, 3, 4, 5, 6, 7, 8, 9, 10, 11, 12, 13, 14, 15, 16, 17, 18, 19, 20, 21, 22, 23, 24, 25, 26, 27, 28, 29, 30, 31, 32, 33, 34, 35, 36, 37, 38, 39, 40, 41, 42, 43, 44, 45, 46, 47, 48, 49, 50, 51] ([(h0, .inr (6, [.ref (g9 0), .ref (g20 0), .ref (g31 0), .null, .null, .null, .null, .null, .null, .int 0, .int 0, .long 0, .long 0, .int 0, .int 0, .int 0])), ((g9 0), .inr (5, [.ref (g9 1), .ref (g9 4), .ref (g9 6), .ref (g9 8), .ref (g9 10), .ref (g9 12), .ref (g9 14)])), ((g9 1), .inr (0, [.ref (g9 2), .int 0])), ((g9 2), .inr (3, [.int 6, .int 6, .ref (g9 3), .int 0])), ((g9 3), .inl (xI G, 36, .inl (fun _ => 0))), ((g9 4), .inr (3, [.int 8, .int 37, .ref (g9 5), .int 0])), ((g9 5), .inl (xI G, 296, .inl (fun _ => 0))), ((g9 6), .inr (3, [.int 5, .int 1, .ref (g9 7), .int 5])), ((g9 7), .inl (xI G, 5, .inl (fun _ => 0))), ((g9 8), .inr (3, [.int 4, .int 1, .ref (g9 9), .int 0])), ((g9 9), .inl (xI G, 4, .inl (fun _ => 0))), ((g9 10), .inr (3, [.int 6, .int 2, .ref (g9 11), .int 0])), ((g9 11), .inl (xI G, 12, .inl (fun _ => 0))), ((g9 12), .inr (3, [.int 6, .int 5, .ref (g9 13), .int 0])), ((g9 13), .inl (xI G, 30, .inl (fun _ => 0))), ((g9 14), .inr (3, [.int 6, .int 6, .ref (g9 15), .int 0])), ((g9 15), .inl (xI G, 36, .inl (fun _ => 0))), ((g20 0), .inr (5, [.ref (g20 1), .ref (g20 4), .ref (g20 6), .ref (g20 8), .ref (g20 10), .ref (g20 12), .ref (g20 14)])), ((g20 1), .inr (0, [.ref (g20 2), .int 0])), ((g20 2), .inr (3, [.int 6, .int 6, .ref (g20 3), .int 0])), ((g20 3), .inl (xI G, 36, .inl (fun _ => 0))), ((g20 4), .inr (3, [.int 8, .int 37, .ref (g20 5), .int 0])), ((g20 5), .inl (xI G, 296, .inl (fun _ => 0))), ((g20 6), .inr (3, [.int 5, .int 1, .ref (g20 7), .int 5])), ((g20 7), .inl (xI G, 5, .inl (fun _ => 0))), ((g20 8), .inr (3, [.int 4, .int 1, .ref (g20 9), .int 0])), ((g20 9), .inl (xI G, 4, .inl (fun _ => 0))), ((g20 10), .inr (3, [.int 6, .int 2, .ref (g20 11), .int 0])), ((g20 11), .inl (xI G, 12, .inl (fun _ => 0))), ((g20 12), .inr (3, [.int 6, .int 5, .ref (g20 13), .int 0])), ((g20 13), .inl (xI G, 30, .inl (fun _ => 0))), ((g20 14), .inr (3, [.int 6, .int 6, .ref (g20 15), .int 0])), ((g20 15), .inl (xI G, 36, .inl (fun _ => 0))), ((g31 0), .inr (5, [.ref (g31 1), .ref (g31 4), .ref (g31 6), .ref (g31 8), .ref (g31 10), .ref (g31 12), .ref (g31 14)])), ((g31 1), .inr (0, [.ref (g31 2), .int 0])), ((g31 2), .inr (3, [.int 6, .int 6, .ref (g31 3), .int 0])), ((g31 3), .inl (xI G, 36, .inl (fun _ => 0))), ((g31 4), .inr (3, [.int 8, .int 37, .ref (g31 5), .int 0])), ((g31 5), .inl (xI G, 296, .inl (fun _ => 0))), ((g31 6), .inr (3, [.int 5, .int 1, .ref (g31 7), .int 5])), ((g31 7), .inl (xI G, 5, .inl (fun _ => 0))), ((g31 8), .inr (3, [.int 4, .int 1, .ref (g31 9), .int 0])), ((g31 9), .inl (xI G, 4, .inl (fun _ => 0))), ((g31 10), .inr (3, [.int 6, .int 2, .ref (g31 11), .int 0])), ((g31 11), .inl (xI G, 12, .inl (fun _ => 0))), ((g31 12), .inr (3, [.int 6, .int 5, .ref (g31 13), .int 0])), ((g31 13), .inl (xI G, 30, .inl (fun _ => 0))), ((g31 14), .inr (3, [.int 6, .int 6, .ref (g31 15), .int 0])), ((g31 15), .inl (xI G, 36, .inl (fun _ => 0))), ((g42 0), .inr (0, [.ref (g42 1), .int 0])), ((g42 1), .inr (3, [.int 6, .int 6, .ref (g42 2), .int 0])), ((g42 2), .inl (xI G, 36, .inl (fun _ => 0)))]) rfl rfl ?_
  refine cR_putF 45 xcf6 3 0 (by decide) rfl rfl rfl rfl rfl rfl (Nat.le_of_ble_eq_true rfl) ([(h0, .inr (6, [.ref (g9 0), .ref (g20 0), .ref (g31 0), .ref (g42 0), .null, .null, .null, .null, .null, .int 0, .int 0, .long 0, .long 0, .int 0, .int 0, .int 0])), ((g9 0), .inr (5, [.ref (g9 1), .ref (g9 4), .ref (g9 6), .ref (g9 8), .ref (g9 10), .ref (g9 12), .ref (g9 14)])), ((g9 1), .inr (0, [.ref (g9 2), .int 0])), ((g9 2), .inr (3, [.int 6, .int 6, .ref (g9 3), .int 0])), ((g9 3), .inl (xI G, 36, .inl (fun _ => 0))), ((g9 4), .inr (3, [.int 8, .int 37, .ref (g9 5), .int 0])), ((g9 5), .inl (xI G, 296, .inl (fun _ => 0))), ((g9 6), .inr (3, [.int 5, .int 1, .ref (g9 7), .int 5])), ((g9 7), .inl (xI G, 5, .inl (fun _ => 0))), ((g9 8), .inr (3, [.int 4, .int 1, .ref (g9 9), .int 0])), ((g9 9), .inl (xI G, 4, .inl (fun _ => 0))), ((g9 10), .inr (3, [.int 6, .int 2, .ref (g9 11), .int 0])), ((g9 11), .inl (xI G, 12, .inl (fun _ => 0))), ((g9 12), .inr (3, [.int 6, .int 5, .ref (g9 13), .int 0])), ((g9 13), .inl (xI G, 30, .inl (fun _ => 0))), ((g9 14), .inr (3, [.int 6, .int 6, .ref (g9 15), .int 0])), ((g9 15), .inl (xI G, 36, .inl (fun _ => 0))), ((g20 0), .inr (5, [.ref (g20 1), .ref (g20 4), .ref (g20 6), .ref (g20 8), .ref (g20 10), .ref (g20 12), .ref (g20 14)])), ((g20 1), .inr (0, [.ref (g20 2), .int 0])), ((g20 2), .inr (3, [.int 6, .int 6, .ref (g20 3), .int 0])), ((g20 3), .inl (xI G, 36, .inl (fun _ => 0))), ((g20 4), .inr (3, [.int 8, .int 37, .ref (g20 5), .int 0])), ((g20 5), .inl (xI G, 296, .inl (fun _ => 0))), ((g20 6), .inr (3, [.int 5, .int 1, .ref (g20 7), .int 5])), ((g20 7), .inl (xI G, 5, .inl (fun _ => 0))), ((g20 8), .inr (3, [.int 4, .int 1, .ref (g20 9), .int 0])), ((g20 9), .inl (xI G, 4, .inl (fun _ => 0))), ((g20 10), .inr (3, [.int 6, .int 2, .ref (g20 11), .int 0])), ((g20 11), .inl (xI G, 12, .inl (fun _ => 0))), ((g20 12), .inr (3, [.int 6, .int 5, .ref (g20 13), .int 0])), ((g20 13), .inl (xI G, 30, .inl (fun _ => 0))), ((g20 14), .inr (3, [.int 6, .int 6, .ref (g20 15), .int 0])), ((g20 15), .inl (xI G, 36, .inl (fun _ => 0))), ((g31 0), .inr (5, [.ref (g31 1), .ref (g31 4), .ref (g31 6), .ref (g31 8), .ref (g31 10), .ref (g31 12), .ref (g31 14)])), ((g31 1), .inr (0, [.ref (g31 2), .int 0])), ((g31 2), .inr (3, [.int 6, .int 6, .ref (g31 3), .int 0])), ((g31 3), .inl (xI G, 36, .inl (fun _ => 0))), ((g31 4), .inr (3, [.int 8, .int 37, .ref (g31 5), .int 0])), ((g31 5), .inl (xI G, 296, .inl (fun _ => 0))), ((g31 6), .inr (3, [.int 5, .int 1, .ref (g31 7), .int 5])), ((g31 7), .inl (xI G, 5, .inl (fun _ => 0))), ((g31 8), .inr (3, [.int 4, .int 1, .ref (g31 9), .int 0])), ((g31 9), .inl (xI G, 4, .inl (fun _ => 0))), ((g31 10), .inr (3, [.int 6, .int 2, .ref (g31 11), .int 0])), ((g31 11), .inl (xI G, 12, .inl (fun _ => 0))), ((g31 12), .inr (3, [.int 6, .int 5, .ref (g31 13), .int 0])), ((g31 13), .inl (xI G, 30, .inl (fun _ => 0))), ((g31 14), .inr (3, [.int 6, .int 6, .ref (g31 15), .int 0])), ((g31 15), .inl (xI G, 36, .inl (fun _ => 0))), ((g42 0), .inr (0, [.ref (g42 1), .int 0])), ((g42 1), .inr (3, [.int 6, .int 6, .ref (g42 2), .int 0])), ((g42 2), .inl (xI G, 36, .inl (fun _ => 0)))]) rfl fl_RX8_25 dH_init_45 ?_
  refine cR_aln 48 0 dH_init_48 rfl rfl ?_
  refine cR_new 49 xcf3 [.int 0, .int 0, .null, .int 0] kl_RX8_29 ki_RX4 kn_RX4 (fun j hj => by rcases (show j = 0 ∨ j = 1 ∨ j = 2 ∨ j = 3 by omega) with rfl | rfl | rfl | rfl <;> rfl) ⟨Nat.le_of_ble_eq_true rfl, Nat.le_of_ble_eq_true rfl⟩ dH_init_49 (fun q49 => ?_)
  refine cR_dup 52 dH_init_52 rfl ?_
  refine cR_sp 53 (150 : Int32) dH_init_53 (by decide) ?_
  refine cR_ic 56 (1 : Int32) dH_init_56 (by decide) ?_
  refine cR_callI 57 ck_T_init cn_T_init rfl rfl ml_RX8_31 ⟨Nat.le_of_ble_eq_true rfl, Nat.le_of_ble_eq_true rfl⟩ ⟨Nat.le_of_ble_eq_true rfl, Nat.le_of_ble_eq_true rfl⟩ [.int (150 : Int32), .int (1 : Int32)] rfl rfl (Nat.le_of_ble_eq_true rfl) dH_init_57 (wr := [(h0, .inr (6, [.ref (g9 0), .ref (g20 0), .ref (g31 0), .ref (g42 0), .null, .null, .null, .null, .null, .int 0, .int 0, .long 0, .long 0, .int 0, .int 0, .int 0])), ((g9 0), .inr (5, [.ref (g9 1), .ref (g9 4), .ref (g9 6), .ref (g9 8), .ref (g9 10), .ref (g9 12), .ref (g9 14)])), ((g9 1), .inr (0, [.ref (g9 2), .int 0])), ((g9 2), .inr (3, [.int 6, .int 6, .ref (g9 3), .int 0])), ((g9 3), .inl (xI G, 36, .inl (fun _ => 0))), ((g9 4), .inr (3, [.int 8, .int 37, .ref (g9 5), .int 0])), ((g9 5), .inl (xI G, 296, .inl (fun _ => 0))), ((g9 6), .inr (3, [.int 5, .int 1, .ref (g9 7), .int 5])), ((g9 7), .inl (xI G, 5, .inl (fun _ => 0))), ((g9 8), .inr (3, [.int 4, .int 1, .ref (g9 9), .int 0])), ((g9 9), .inl (xI G, 4, .inl (fun _ => 0))), ((g9 10), .inr (3, [.int 6, .int 2, .ref (g9 11), .int 0])), ((g9 11), .inl (xI G, 12, .inl (fun _ => 0))), ((g9 12), .inr (3, [.int 6, .int 5, .ref (g9 13), .int 0])), ((g9 13), .inl (xI G, 30, .inl (fun _ => 0))), ((g9 14), .inr (3, [.int 6, .int 6, .ref (g9 15), .int 0])), ((g9 15), .inl (xI G, 36, .inl (fun _ => 0))), ((g20 0), .inr (5, [.ref (g20 1), .ref (g20 4), .ref (g20 6), .ref (g20 8), .ref (g20 10), .ref (g20 12), .ref (g20 14)])), ((g20 1), .inr (0, [.ref (g20 2), .int 0])), ((g20 2), .inr (3, [.int 6, .int 6, .ref (g20 3), .int 0])), ((g20 3), .inl (xI G, 36, .inl (fun _ => 0))), ((g20 4), .inr (3, [.int 8, .int 37, .ref (g20 5), .int 0])), ((g20 5), .inl (xI G, 296, .inl (fun _ => 0))), ((g20 6), .inr (3, [.int 5, .int 1, .ref (g20 7), .int 5])), ((g20 7), .inl (xI G, 5, .inl (fun _ => 0))), ((g20 8), .inr (3, [.int 4, .int 1, .ref (g20 9), .int 0])), ((g20 9), .inl (xI G, 4, .inl (fun _ => 0))), ((g20 10), .inr (3, [.int 6, .int 2, .ref (g20 11), .int 0])), ((g20 11), .inl (xI G, 12, .inl (fun _ => 0))), ((g20 12), .inr (3, [.int 6, .int 5, .ref (g20 13), .int 0])), ((g20 13), .inl (xI G, 30, .inl (fun _ => 0))), ((g20 14), .inr (3, [.int 6, .int 6, .ref (g20 15), .int 0])), ((g20 15), .inl (xI G, 36, .inl (fun _ => 0))), ((g31 0), .inr (5, [.ref (g31 1), .ref (g31 4), .ref (g31 6), .ref (g31 8), .ref (g31 10), .ref (g31 12), .ref (g31 14)])), ((g31 1), .inr (0, [.ref (g31 2), .int 0])), ((g31 2), .inr (3, [.int 6, .int 6, .ref (g31 3), .int 0])), ((g31 3), .inl (xI G, 36, .inl (fun _ => 0))), ((g31 4), .inr (3, [.int 8, .int 37, .ref (g31 5), .int 0])), ((g31 5), .inl (xI G, 296, .inl (fun _ => 0))), ((g31 6), .inr (3, [.int 5, .int 1, .ref (g31 7), .int 5])), ((g31 7), .inl (xI G, 5, .inl (fun _ => 0))), ((g31 8), .inr (3, [.int 4, .int 1, .ref (g31 9), .int 0])), ((g31 9), .inl (xI G, 4, .inl (fun _ => 0))), ((g31 10), .inr (3, [.int 6, .int 2, .ref (g31 11), .int 0])), ((g31 11), .inl (xI G, 12, .inl (fun _ => 0))), ((g31 12), .inr (3, [.int 6, .int 5, .ref (g31 13), .int 0])), ((g31 13), .inl (xI G, 30, .inl (fun _ => 0))), ((g31 14), .inr (3, [.int 6, .int 6, .ref (g31 15), .int 0])), ((g31 15), .inl (xI G, 36, .inl (fun _ => 0))), ((g42 0), .inr (0, [.ref (g42 1), .int 0])), ((g42 1), .inr (3, [.int 6, .int 6, .ref (g42 2), .int 0])), ((g42 2), .inl (xI G, 36, .inl (fun _ => 0)))]) (cT_init G q49 (150 : Int32) (1 : Int32) 150 (by decide) (by decide) (by decide) (by decide) (by decide)) [52] [0, 1, 2, 3, 4, 5, 6, 7, 8, 9, 10, 11, 12, 13, 14, 15, 16, 17, 18, 19, 20, 21, 22, 23, 24, 25, 26, 27, 28, 29, 30, 31, 32, 33, 34, 35, 36, 37, 38, 39, 40, 41, 42, 43, 44, 45, 46, 47, 48, 49, 50, 51] rfl rfl rfl (by decide) (by decide) (fun w1 hw1 => ?_)
  obtain ⟨g57, e57, rfl⟩ := hw1
  subst e57
  refine cR_world [0, 1, 2, 3, 4, 5, 6, 7, 8, 9, 10, 11, 12, 13, 14, 15, 16, 17, 18, 19, 20, 21, 22, 23, 24, 25, 26, 27, 28, 29, 30, 31, 32, 33, 34, 35, 36, 37, 38, 39, 40, 41, 42, 43, 44, 45, 46, 47, 48, 49, 50, 51, 52, 53] ([(h0, .inr (6, [.ref (g9 0), .ref (g20 0), .ref (g31 0), .ref (g42 0), .null, .null, .null, .null, .null, .int 0, .int 0, .long 0, .long 0, .int 0, .int 0, .int 0])), ((g9 0), .inr (5, [.ref (g9 1), .ref (g9 4), .ref (g9 6), .ref (g9 8), .ref (g9 10), .ref (g9 12), .ref (g9 14)])), ((g9 1), .inr (0, [.ref (g9 2), .int 0])), ((g9 2), .inr (3, [.int 6, .int 6, .ref (g9 3), .int 0])), ((g9 3), .inl (xI G, 36, .inl (fun _ => 0))), ((g9 4), .inr (3, [.int 8, .int 37, .ref (g9 5), .int 0])), ((g9 5), .inl (xI G, 296, .inl (fun _ => 0))), ((g9 6), .inr (3, [.int 5, .int 1, .ref (g9 7), .int 5])), ((g9 7), .inl (xI G, 5, .inl (fun _ => 0))), ((g9 8), .inr (3, [.int 4, .int 1, .ref (g9 9), .int 0])), ((g9 9), .inl (xI G, 4, .inl (fun _ => 0))), ((g9 10), .inr (3, [.int 6, .int 2, .ref (g9 11), .int 0])), ((g9 11), .inl (xI G, 12, .inl (fun _ => 0))), ((g9 12), .inr (3, [.int 6, .int 5, .ref (g9 13), .int 0])), ((g9 13), .inl (xI G, 30, .inl (fun _ => 0))), ((g9 14), .inr (3, [.int 6, .int 6, .ref (g9 15), .int 0])), ((g9 15), .inl (xI G, 36, .inl (fun _ => 0))), ((g20 0), .inr (5, [.ref (g20 1), .ref (g20 4), .ref (g20 6), .ref (g20 8), .ref (g20 10), .ref (g20 12), .ref (g20 14)])), ((g20 1), .inr (0, [.ref (g20 2), .int 0])), ((g20 2), .inr (3, [.int 6, .int 6, .ref (g20 3), .int 0])), ((g20 3), .inl (xI G, 36, .inl (fun _ => 0))), ((g20 4), .inr (3, [.int 8, .int 37, .ref (g20 5), .int 0])), ((g20 5), .inl (xI G, 296, .inl (fun _ => 0))), ((g20 6), .inr (3, [.int 5, .int 1, .ref (g20 7), .int 5])), ((g20 7), .inl (xI G, 5, .inl (fun _ => 0))), ((g20 8), .inr (3, [.int 4, .int 1, .ref (g20 9), .int 0])), ((g20 9), .inl (xI G, 4, .inl (fun _ => 0))), ((g20 10), .inr (3, [.int 6, .int 2, .ref (g20 11), .int 0])), ((g20 11), .inl (xI G, 12, .inl (fun _ => 0))), ((g20 12), .inr (3, [.int 6, .int 5, .ref (g20 13), .int 0])), ((g20 13), .inl (xI G, 30, .inl (fun _ => 0))), ((g20 14), .inr (3, [.int 6, .int 6, .ref (g20 15), .int 0])), ((g20 15), .inl (xI G, 36, .inl (fun _ => 0))), ((g31 0), .inr (5, [.ref (g31 1), .ref (g31 4), .ref (g31 6), .ref (g31 8), .ref (g31 10), .ref (g31 12), .ref (g31 14)])), ((g31 1), .inr (0, [.ref (g31 2), .int 0])), ((g31 2), .inr (3, [.int 6, .int 6, .ref (g31 3), .int 0])), ((g31 3), .inl (xI G, 36, .inl (fun _ => 0))), ((g31 4), .inr (3, [.int 8, .int 37, .ref (g31 5), .int 0])), ((g31 5), .inl (xI G, 296, .inl (fun _ => 0))), ((g31 6), .inr (3, [.int 5, .int 1, .ref (g31 7), .int 5])), ((g31 7), .inl (xI G, 5, .inl (fun _ => 0))), ((g31 8), .inr (3, [.int 4, .int 1, .ref (g31 9), .int 0])), ((g31 9), .inl (xI G, 4, .inl (fun _ => 0))), ((g31 10), .inr (3, [.int 6, .int 2, .ref (g31 11), .int 0])), ((g31 11), .inl (xI G, 12, .inl (fun _ => 0))), ((g31 12), .inr (3, [.int 6, .int 5, .ref (g31 13), .int 0])), ((g31 13), .inl (xI G, 30, .inl (fun _ => 0))), ((g31 14), .inr (3, [.int 6, .int 6, .ref (g31 15), .int 0])), ((g31 15), .inl (xI G, 36, .inl (fun _ => 0))), ((g42 0), .inr (0, [.ref (g42 1), .int 0])), ((g42 1), .inr (3, [.int 6, .int 6, .ref (g42 2), .int 0])), ((g42 2), .inl (xI G, 36, .inl (fun _ => 0))), ((g57 0), .inr (3, [.int (150 : Int32), .int (1 : Int32), .ref (g57 1), .int 0])), ((g57 1), .inl (xI G, 150, .inl (fun _ => 0)))]) rfl rfl ?_
  refine cR_putF 60 xcf6 4 0 (by decide) rfl rfl rfl rfl rfl rfl (Nat.le_of_ble_eq_true rfl) ([(h0, .inr (6, [.ref (g9 0), .ref (g20 0), .ref (g31 0), .ref (g42 0), .ref (g57 0), .null, .null, .null, .null, .int 0, .int 0, .long 0, .long 0, .int 0, .int 0, .int 0])), ((g9 0), .inr (5, [.ref (g9 1), .ref (g9 4), .ref (g9 6), .ref (g9 8), .ref (g9 10), .ref (g9 12), .ref (g9 14)])), ((g9 1), .inr (0, [.ref (g9 2), .int 0])), ((g9 2), .inr (3, [.int 6, .int 6, .ref (g9 3), .int 0])), ((g9 3), .inl (xI G, 36, .inl (fun _ => 0))), ((g9 4), .inr (3, [.int 8, .int 37, .ref (g9 5), .int 0])), ((g9 5), .inl (xI G, 296, .inl (fun _ => 0))), ((g9 6), .inr (3, [.int 5, .int 1, .ref (g9 7), .int 5])), ((g9 7), .inl (xI G, 5, .inl (fun _ => 0))), ((g9 8), .inr (3, [.int 4, .int 1, .ref (g9 9), .int 0])), ((g9 9), .inl (xI G, 4, .inl (fun _ => 0))), ((g9 10), .inr (3, [.int 6, .int 2, .ref (g9 11), .int 0])), ((g9 11), .inl (xI G, 12, .inl (fun _ => 0))), ((g9 12), .inr (3, [.int 6, .int 5, .ref (g9 13), .int 0])), ((g9 13), .inl (xI G, 30, .inl (fun _ => 0))), ((g9 14), .inr (3, [.int 6, .int 6, .ref (g9 15), .int 0])), ((g9 15), .inl (xI G, 36, .inl (fun _ => 0))), ((g20 0), .inr (5, [.ref (g20 1), .ref (g20 4), .ref (g20 6), .ref (g20 8), .ref (g20 10), .ref (g20 12), .ref (g20 14)])), ((g20 1), .inr (0, [.ref (g20 2), .int 0])), ((g20 2), .inr (3, [.int 6, .int 6, .ref (g20 3), .int 0])), ((g20 3), .inl (xI G, 36, .inl (fun _ => 0))), ((g20 4), .inr (3, [.int 8, .int 37, .ref (g20 5), .int 0])), ((g20 5), .inl (xI G, 296, .inl (fun _ => 0))), ((g20 6), .inr (3, [.int 5, .int 1, .ref (g20 7), .int 5])), ((g20 7), .inl (xI G, 5, .inl (fun _ => 0))), ((g20 8), .inr (3, [.int 4, .int 1, .ref (g20 9), .int 0])), ((g20 9), .inl (xI G, 4, .inl (fun _ => 0))), ((g20 10), .inr (3, [.int 6, .int 2, .ref (g20 11), .int 0])), ((g20 11), .inl (xI G, 12, .inl (fun _ => 0))), ((g20 12), .inr (3, [.int 6, .int 5, .ref (g20 13), .int 0])), ((g20 13), .inl (xI G, 30, .inl (fun _ => 0))), ((g20 14), .inr (3, [.int 6, .int 6, .ref (g20 15), .int 0])), ((g20 15), .inl (xI G, 36, .inl (fun _ => 0))), ((g31 0), .inr (5, [.ref (g31 1), .ref (g31 4), .ref (g31 6), .ref (g31 8), .ref (g31 10), .ref (g31 12), .ref (g31 14)])), ((g31 1), .inr (0, [.ref (g31 2), .int 0])), ((g31 2), .inr (3, [.int 6, .int 6, .ref (g31 3), .int 0])), ((g31 3), .inl (xI G, 36, .inl (fun _ => 0))), ((g31 4), .inr (3, [.int 8, .int 37, .ref (g31 5), .int 0])), ((g31 5), .inl (xI G, 296, .inl (fun _ => 0))), ((g31 6), .inr (3, [.int 5, .int 1, .ref (g31 7), .int 5])), ((g31 7), .inl (xI G, 5, .inl (fun _ => 0))), ((g31 8), .inr (3, [.int 4, .int 1, .ref (g31 9), .int 0])), ((g31 9), .inl (xI G, 4, .inl (fun _ => 0))), ((g31 10), .inr (3, [.int 6, .int 2, .ref (g31 11), .int 0])), ((g31 11), .inl (xI G, 12, .inl (fun _ => 0))), ((g31 12), .inr (3, [.int 6, .int 5, .ref (g31 13), .int 0])), ((g31 13), .inl (xI G, 30, .inl (fun _ => 0))), ((g31 14), .inr (3, [.int 6, .int 6, .ref (g31 15), .int 0])), ((g31 15), .inl (xI G, 36, .inl (fun _ => 0))), ((g42 0), .inr (0, [.ref (g42 1), .int 0])), ((g42 1), .inr (3, [.int 6, .int 6, .ref (g42 2), .int 0])), ((g42 2), .inl (xI G, 36, .inl (fun _ => 0))), ((g57 0), .inr (3, [.int (150 : Int32), .int (1 : Int32), .ref (g57 1), .int 0])), ((g57 1), .inl (xI G, 150, .inl (fun _ => 0)))]) rfl fl_RX8_34 dH_init_60 ?_
  refine cR_aln 63 0 dH_init_63 rfl rfl ?_
  refine cR_new 64 xcf2 [.null, .null, .int 0, .int 0, .int 0] kl_RX8_38 ki_RX2 kn_RX2 (fun j hj => by rcases (show j = 0 ∨ j = 1 ∨ j = 2 ∨ j = 3 ∨ j = 4 by omega) with rfl | rfl | rfl | rfl | rfl <;> rfl) ⟨Nat.le_of_ble_eq_true rfl, Nat.le_of_ble_eq_true rfl⟩ dH_init_64 (fun q64 => ?_)
  refine cR_dup 67 dH_init_67 rfl ?_
  refine cR_callIN (host := RX8) 68 ck_R_init cn_R_init rfl rfl (by decide +kernel) ⟨Nat.le_of_ble_eq_true rfl, Nat.le_of_ble_eq_true rfl⟩ ⟨Nat.le_of_ble_eq_true rfl, Nat.le_of_ble_eq_true rfl⟩ [] rfl rfl (Nat.le_of_ble_eq_true rfl) dH_init_68 (wr := [(h0, .inr (6, [.ref (g9 0), .ref (g20 0), .ref (g31 0), .ref (g42 0), .ref (g57 0), .null, .null, .null, .null, .int 0, .int 0, .long 0, .long 0, .int 0, .int 0, .int 0])), ((g9 0), .inr (5, [.ref (g9 1), .ref (g9 4), .ref (g9 6), .ref (g9 8), .ref (g9 10), .ref (g9 12), .ref (g9 14)])), ((g9 1), .inr (0, [.ref (g9 2), .int 0])), ((g9 2), .inr (3, [.int 6, .int 6, .ref (g9 3), .int 0])), ((g9 3), .inl (xI G, 36, .inl (fun _ => 0))), ((g9 4), .inr (3, [.int 8, .int 37, .ref (g9 5), .int 0])), ((g9 5), .inl (xI G, 296, .inl (fun _ => 0))), ((g9 6), .inr (3, [.int 5, .int 1, .ref (g9 7), .int 5])), ((g9 7), .inl (xI G, 5, .inl (fun _ => 0))), ((g9 8), .inr (3, [.int 4, .int 1, .ref (g9 9), .int 0])), ((g9 9), .inl (xI G, 4, .inl (fun _ => 0))), ((g9 10), .inr (3, [.int 6, .int 2, .ref (g9 11), .int 0])), ((g9 11), .inl (xI G, 12, .inl (fun _ => 0))), ((g9 12), .inr (3, [.int 6, .int 5, .ref (g9 13), .int 0])), ((g9 13), .inl (xI G, 30, .inl (fun _ => 0))), ((g9 14), .inr (3, [.int 6, .int 6, .ref (g9 15), .int 0])), ((g9 15), .inl (xI G, 36, .inl (fun _ => 0))), ((g20 0), .inr (5, [.ref (g20 1), .ref (g20 4), .ref (g20 6), .ref (g20 8), .ref (g20 10), .ref (g20 12), .ref (g20 14)])), ((g20 1), .inr (0, [.ref (g20 2), .int 0])), ((g20 2), .inr (3, [.int 6, .int 6, .ref (g20 3), .int 0])), ((g20 3), .inl (xI G, 36, .inl (fun _ => 0))), ((g20 4), .inr (3, [.int 8, .int 37, .ref (g20 5), .int 0])), ((g20 5), .inl (xI G, 296, .inl (fun _ => 0))), ((g20 6), .inr (3, [.int 5, .int 1, .ref (g20 7), .int 5])), ((g20 7), .inl (xI G, 5, .inl (fun _ => 0))), ((g20 8), .inr (3, [.int 4, .int 1, .ref (g20 9), .int 0])), ((g20 9), .inl (xI G, 4, .inl (fun _ => 0))), ((g20 10), .inr (3, [.int 6, .int 2, .ref (g20 11), .int 0])), ((g20 11), .inl (xI G, 12, .inl (fun _ => 0))), ((g20 12), .inr (3, [.int 6, .int 5, .ref (g20 13), .int 0])), ((g20 13), .inl (xI G, 30, .inl (fun _ => 0))), ((g20 14), .inr (3, [.int 6, .int 6, .ref (g20 15), .int 0])), ((g20 15), .inl (xI G, 36, .inl (fun _ => 0))), ((g31 0), .inr (5, [.ref (g31 1), .ref (g31 4), .ref (g31 6), .ref (g31 8), .ref (g31 10), .ref (g31 12), .ref (g31 14)])), ((g31 1), .inr (0, [.ref (g31 2), .int 0])), ((g31 2), .inr (3, [.int 6, .int 6, .ref (g31 3), .int 0])), ((g31 3), .inl (xI G, 36, .inl (fun _ => 0))), ((g31 4), .inr (3, [.int 8, .int 37, .ref (g31 5), .int 0])), ((g31 5), .inl (xI G, 296, .inl (fun _ => 0))), ((g31 6), .inr (3, [.int 5, .int 1, .ref (g31 7), .int 5])), ((g31 7), .inl (xI G, 5, .inl (fun _ => 0))), ((g31 8), .inr (3, [.int 4, .int 1, .ref (g31 9), .int 0])), ((g31 9), .inl (xI G, 4, .inl (fun _ => 0))), ((g31 10), .inr (3, [.int 6, .int 2, .ref (g31 11), .int 0])), ((g31 11), .inl (xI G, 12, .inl (fun _ => 0))), ((g31 12), .inr (3, [.int 6, .int 5, .ref (g31 13), .int 0])), ((g31 13), .inl (xI G, 30, .inl (fun _ => 0))), ((g31 14), .inr (3, [.int 6, .int 6, .ref (g31 15), .int 0])), ((g31 15), .inl (xI G, 36, .inl (fun _ => 0))), ((g42 0), .inr (0, [.ref (g42 1), .int 0])), ((g42 1), .inr (3, [.int 6, .int 6, .ref (g42 2), .int 0])), ((g42 2), .inl (xI G, 36, .inl (fun _ => 0))), ((g57 0), .inr (3, [.int (150 : Int32), .int (1 : Int32), .ref (g57 1), .int 0])), ((g57 1), .inl (xI G, 150, .inl (fun _ => 0)))]) (cR_init G q64) [54] [0, 1, 2, 3, 4, 5, 6, 7, 8, 9, 10, 11, 12, 13, 14, 15, 16, 17, 18, 19, 20, 21, 22, 23, 24, 25, 26, 27, 28, 29, 30, 31, 32, 33, 34, 35, 36, 37, 38, 39, 40, 41, 42, 43, 44, 45, 46, 47, 48, 49, 50, 51, 52, 53] rfl rfl rfl (by decide) (by decide) (fun w1 hw1 => ?_)
  obtain ⟨g68, e68, rfl⟩ := hw1
  subst e68
  refine cR_world [0, 1, 2, 3, 4, 5, 6, 7, 8, 9, 10, 11, 12, 13, 14, 15, 16, 17, 18, 19, 20, 21, 22, 23, 24, 25, 26, 27, 28, 29, 30, 31, 32, 33, 34, 35, 36, 37, 38, 39, 40, 41, 42, 43, 44, 45, 46, 47, 48, 49, 50, 51, 52, 53, 54, 55, 56, 57, 58, 59, 60, 61, 62, 63, 64, 65, 66, 67, 68, 69, 70, 71, 72, 73] ([(h0, .inr (6, [.ref (g9 0), .ref (g20 0), .ref (g31 0), .ref (g42 0), .ref (g57 0), .null, .null, .null, .null, .int 0, .int 0, .long 0, .long 0, .int 0, .int 0, .int 0])), ((g9 0), .inr (5, [.ref (g9 1), .ref (g9 4), .ref (g9 6), .ref (g9 8), .ref (g9 10), .ref (g9 12), .ref (g9 14)])), ((g9 1), .inr (0, [.ref (g9 2), .int 0])), ((g9 2), .inr (3, [.int 6, .int 6, .ref (g9 3), .int 0])), ((g9 3), .inl (xI G, 36, .inl (fun _ => 0))), ((g9 4), .inr (3, [.int 8, .int 37, .ref (g9 5), .int 0])), ((g9 5), .inl (xI G, 296, .inl (fun _ => 0))), ((g9 6), .inr (3, [.int 5, .int 1, .ref (g9 7), .int 5])), ((g9 7), .inl (xI G, 5, .inl (fun _ => 0))), ((g9 8), .inr (3, [.int 4, .int 1, .ref (g9 9), .int 0])), ((g9 9), .inl (xI G, 4, .inl (fun _ => 0))), ((g9 10), .inr (3, [.int 6, .int 2, .ref (g9 11), .int 0])), ((g9 11), .inl (xI G, 12, .inl (fun _ => 0))), ((g9 12), .inr (3, [.int 6, .int 5, .ref (g9 13), .int 0])), ((g9 13), .inl (xI G, 30, .inl (fun _ => 0))), ((g9 14), .inr (3, [.int 6, .int 6, .ref (g9 15), .int 0])), ((g9 15), .inl (xI G, 36, .inl (fun _ => 0))), ((g20 0), .inr (5, [.ref (g20 1), .ref (g20 4), .ref (g20 6), .ref (g20 8), .ref (g20 10), .ref (g20 12), .ref (g20 14)])), ((g20 1), .inr (0, [.ref (g20 2), .int 0])), ((g20 2), .inr (3, [.int 6, .int 6, .ref (g20 3), .int 0])), ((g20 3), .inl (xI G, 36, .inl (fun _ => 0))), ((g20 4), .inr (3, [.int 8, .int 37, .ref (g20 5), .int 0])), ((g20 5), .inl (xI G, 296, .inl (fun _ => 0))), ((g20 6), .inr (3, [.int 5, .int 1, .ref (g20 7), .int 5])), ((g20 7), .inl (xI G, 5, .inl (fun _ => 0))), ((g20 8), .inr (3, [.int 4, .int 1, .ref (g20 9), .int 0])), ((g20 9), .inl (xI G, 4, .inl (fun _ => 0))), ((g20 10), .inr (3, [.int 6, .int 2, .ref (g20 11), .int 0])), ((g20 11), .inl (xI G, 12, .inl (fun _ => 0))), ((g20 12), .inr (3, [.int 6, .int 5, .ref (g20 13), .int 0])), ((g20 13), .inl (xI G, 30, .inl (fun _ => 0))), ((g20 14), .inr (3, [.int 6, .int 6, .ref (g20 15), .int 0])), ((g20 15), .inl (xI G, 36, .inl (fun _ => 0))), ((g31 0), .inr (5, [.ref (g31 1), .ref (g31 4), .ref (g31 6), .ref (g31 8), .ref (g31 10), .ref (g31 12), .ref (g31 14)])), ((g31 1), .inr (0, [.ref (g31 2), .int 0])), ((g31 2), .inr (3, [.int 6, .int 6, .ref (g31 3), .int 0])), ((g31 3), .inl (xI G, 36, .inl (fun _ => 0))), ((g31 4), .inr (3, [.int 8, .int 37, .ref (g31 5), .int 0])), ((g31 5), .inl (xI G, 296, .inl (fun _ => 0))), ((g31 6), .inr (3, [.int 5, .int 1, .ref (g31 7), .int 5])), ((g31 7), .inl (xI G, 5, .inl (fun _ => 0))), ((g31 8), .inr (3, [.int 4, .int 1, .ref (g31 9), .int 0])), ((g31 9), .inl (xI G, 4, .inl (fun _ => 0))), ((g31 10), .inr (3, [.int 6, .int 2, .ref (g31 11), .int 0])), ((g31 11), .inl (xI G, 12, .inl (fun _ => 0))), ((g31 12), .inr (3, [.int 6, .int 5, .ref (g31 13), .int 0])), ((g31 13), .inl (xI G, 30, .inl (fun _ => 0))), ((g31 14), .inr (3, [.int 6, .int 6, .ref (g31 15), .int 0])), ((g31 15), .inl (xI G, 36, .inl (fun _ => 0))), ((g42 0), .inr (0, [.ref (g42 1), .int 0])), ((g42 1), .inr (3, [.int 6, .int 6, .ref (g42 2), .int 0])), ((g42 2), .inl (xI G, 36, .inl (fun _ => 0))), ((g57 0), .inr (3, [.int (150 : Int32), .int (1 : Int32), .ref (g57 1), .int 0])), ((g57 1), .inl (xI G, 150, .inl (fun _ => 0))), ((g68 0), .inr (2, [.ref (g68 1), .ref (g68 4), .int 0, .int 0, .int 0])), ((g68 1), .inr (4, [.ref (g68 2), .int 0])), ((g68 2), .inr (3, [.int 151, .int 3, .ref (g68 3), .int 0])), ((g68 3), .inl (xI G, 453, .inl (fun _ => 0))), ((g68 4), .inr (5, [.ref (g68 5), .ref (g68 8), .ref (g68 10), .ref (g68 12), .ref (g68 14), .ref (g68 16), .ref (g68 18)])), ((g68 5), .inr (0, [.ref (g68 6), .int 0])), ((g68 6), .inr (3, [.int 6, .int 6, .ref (g68 7), .int 0])), ((g68 7), .inl (xI G, 36, .inl (fun _ => 0))), ((g68 8), .inr (3, [.int 8, .int 37, .ref (g68 9), .int 0])), ((g68 9), .inl (xI G, 296, .inl (fun _ => 0))), ((g68 10), .inr (3, [.int 5, .int 1, .ref (g68 11), .int 5])), ((g68 11), .inl (xI G, 5, .inl (fun _ => 0))), ((g68 12), .inr (3, [.int 4, .int 1, .ref (g68 13), .int 0])), ((g68 13), .inl (xI G, 4, .inl (fun _ => 0))), ((g68 14), .inr (3, [.int 6, .int 2, .ref (g68 15), .int 0])), ((g68 15), .inl (xI G, 12, .inl (fun _ => 0))), ((g68 16), .inr (3, [.int 6, .int 5, .ref (g68 17), .int 0])), ((g68 17), .inl (xI G, 30, .inl (fun _ => 0))), ((g68 18), .inr (3, [.int 6, .int 6, .ref (g68 19), .int 0])), ((g68 19), .inl (xI G, 36, .inl (fun _ => 0)))]) rfl rfl ?_
  refine cR_putF 71 xcf6 5 0 (by decide) rfl rfl rfl rfl rfl rfl (Nat.le_of_ble_eq_true rfl) ([(h0, .inr (6, [.ref (g9 0), .ref (g20 0), .ref (g31 0), .ref (g42 0), .ref (g57 0), .ref (g68 0), .null, .null, .null, .int 0, .int 0, .long 0, .long 0, .int 0, .int 0, .int 0])), ((g9 0), .inr (5, [.ref (g9 1), .ref (g9 4), .ref (g9 6), .ref (g9 8), .ref (g9 10), .ref (g9 12), .ref (g9 14)])), ((g9 1), .inr (0, [.ref (g9 2), .int 0])), ((g9 2), .inr (3, [.int 6, .int 6, .ref (g9 3), .int 0])), ((g9 3), .inl (xI G, 36, .inl (fun _ => 0))), ((g9 4), .inr (3, [.int 8, .int 37, .ref (g9 5), .int 0])), ((g9 5), .inl (xI G, 296, .inl (fun _ => 0))), ((g9 6), .inr (3, [.int 5, .int 1, .ref (g9 7), .int 5])), ((g9 7), .inl (xI G, 5, .inl (fun _ => 0))), ((g9 8), .inr (3, [.int 4, .int 1, .ref (g9 9), .int 0])), ((g9 9), .inl (xI G, 4, .inl (fun _ => 0))), ((g9 10), .inr (3, [.int 6, .int 2, .ref (g9 11), .int 0])), ((g9 11), .inl (xI G, 12, .inl (fun _ => 0))), ((g9 12), .inr (3, [.int 6, .int 5, .ref (g9 13), .int 0])), ((g9 13), .inl (xI G, 30, .inl (fun _ => 0))), ((g9 14), .inr (3, [.int 6, .int 6, .ref (g9 15), .int 0])), ((g9 15), .inl (xI G, 36, .inl (fun _ => 0))), ((g20 0), .inr (5, [.ref (g20 1), .ref (g20 4), .ref (g20 6), .ref (g20 8), .ref (g20 10), .ref (g20 12), .ref (g20 14)])), ((g20 1), .inr (0, [.ref (g20 2), .int 0])), ((g20 2), .inr (3, [.int 6, .int 6, .ref (g20 3), .int 0])), ((g20 3), .inl (xI G, 36, .inl (fun _ => 0))), ((g20 4), .inr (3, [.int 8, .int 37, .ref (g20 5), .int 0])), ((g20 5), .inl (xI G, 296, .inl (fun _ => 0))), ((g20 6), .inr (3, [.int 5, .int 1, .ref (g20 7), .int 5])), ((g20 7), .inl (xI G, 5, .inl (fun _ => 0))), ((g20 8), .inr (3, [.int 4, .int 1, .ref (g20 9), .int 0])), ((g20 9), .inl (xI G, 4, .inl (fun _ => 0))), ((g20 10), .inr (3, [.int 6, .int 2, .ref (g20 11), .int 0])), ((g20 11), .inl (xI G, 12, .inl (fun _ => 0))), ((g20 12), .inr (3, [.int 6, .int 5, .ref (g20 13), .int 0])), ((g20 13), .inl (xI G, 30, .inl (fun _ => 0))), ((g20 14), .inr (3, [.int 6, .int 6, .ref (g20 15), .int 0])), ((g20 15), .inl (xI G, 36, .inl (fun _ => 0))), ((g31 0), .inr (5, [.ref (g31 1), .ref (g31 4), .ref (g31 6), .ref (g31 8), .ref (g31 10), .ref (g31 12), .ref (g31 14)])), ((g31 1), .inr (0, [.ref (g31 2), .int 0])), ((g31 2), .inr (3, [.int 6, .int 6, .ref (g31 3), .int 0])), ((g31 3), .inl (xI G, 36, .inl (fun _ => 0))), ((g31 4), .inr (3, [.int 8, .int 37, .ref (g31 5), .int 0])), ((g31 5), .inl (xI G, 296, .inl (fun _ => 0))), ((g31 6), .inr (3, [.int 5, .int 1, .ref (g31 7), .int 5])), ((g31 7), .inl (xI G, 5, .inl (fun _ => 0))), ((g31 8), .inr (3, [.int 4, .int 1, .ref (g31 9), .int 0])), ((g31 9), .inl (xI G, 4, .inl (fun _ => 0))), ((g31 10), .inr (3, [.int 6, .int 2, .ref (g31 11), .int 0])), ((g31 11), .inl (xI G, 12, .inl (fun _ => 0))), ((g31 12), .inr (3, [.int 6, .int 5, .ref (g31 13), .int 0])), ((g31 13), .inl (xI G, 30, .inl (fun _ => 0))), ((g31 14), .inr (3, [.int 6, .int 6, .ref (g31 15), .int 0])), ((g31 15), .inl (xI G, 36, .inl (fun _ => 0))), ((g42 0), .inr (0, [.ref (g42 1), .int 0])), ((g42 1), .inr (3, [.int 6, .int 6, .ref (g42 2), .int 0])), ((g42 2), .inl (xI G, 36, .inl (fun _ => 0))), ((g57 0), .inr (3, [.int (150 : Int32), .int (1 : Int32), .ref (g57 1), .int 0])), ((g57 1), .inl (xI G, 150, .inl (fun _ => 0))), ((g68 0), .inr (2, [.ref (g68 1), .ref (g68 4), .int 0, .int 0, .int 0])), ((g68 1), .inr (4, [.ref (g68 2), .int 0])), ((g68 2), .inr (3, [.int 151, .int 3, .ref (g68 3), .int 0])), ((g68 3), .inl (xI G, 453, .inl (fun _ => 0))), ((g68 4), .inr (5, [.ref (g68 5), .ref (g68 8), .ref (g68 10), .ref (g68 12), .ref (g68 14), .ref (g68 16), .ref (g68 18)])), ((g68 5), .inr (0, [.ref (g68 6), .int 0])), ((g68 6), .inr (3, [.int 6, .int 6, .ref (g68 7), .int 0])), ((g68 7), .inl (xI G, 36, .inl (fun _ => 0))), ((g68 8), .inr (3, [.int 8, .int 37, .ref (g68 9), .int 0])), ((g68 9), .inl (xI G, 296, .inl (fun _ => 0))), ((g68 10), .inr (3, [.int 5, .int 1, .ref (g68 11), .int 5])), ((g68 11), .inl (xI G, 5, .inl (fun _ => 0))), ((g68 12), .inr (3, [.int 4, .int 1, .ref (g68 13), .int 0])), ((g68 13), .inl (xI G, 4, .inl (fun _ => 0))), ((g68 14), .inr (3, [.int 6, .int 2, .ref (g68 15), .int 0])), ((g68 15), .inl (xI G, 12, .inl (fun _ => 0))), ((g68 16), .inr (3, [.int 6, .int 5, .ref (g68 17), .int 0])), ((g68 17), .inl (xI G, 30, .inl (fun _ => 0))), ((g68 18), .inr (3, [.int 6, .int 6, .ref (g68 19), .int 0])), ((g68 19), .inl (xI G, 36, .inl (fun _ => 0)))]) rfl fl_RX8_41 dH_init_71 ?_
  refine cR_aln 74 0 dH_init_74 rfl rfl ?_
  refine cR_new 75 xcf1 [.null, .null, .null, .int 0, .int 0] kl_RX8_45 ki_RX1 kn_RX1 (fun j hj => by rcases (show j = 0 ∨ j = 1 ∨ j = 2 ∨ j = 3 ∨ j = 4 by omega) with rfl | rfl | rfl | rfl | rfl <;> rfl) ⟨Nat.le_of_ble_eq_true rfl, Nat.le_of_ble_eq_true rfl⟩ dH_init_75 (fun q75 => ?_)
  refine cR_dup 78 dH_init_78 rfl ?_
  refine cR_callIN (host := RX8) 79 ck_K_init cn_K_init rfl rfl (by decide +kernel) ⟨Nat.le_of_ble_eq_true rfl, Nat.le_of_ble_eq_true rfl⟩ ⟨Nat.le_of_ble_eq_true rfl, Nat.le_of_ble_eq_true rfl⟩ [] rfl rfl (Nat.le_of_ble_eq_true rfl) dH_init_79 (wr := [(h0, .inr (6, [.ref (g9 0), .ref (g20 0), .ref (g31 0), .ref (g42 0), .ref (g57 0), .ref (g68 0), .null, .null, .null, .int 0, .int 0, .long 0, .long 0, .int 0, .int 0, .int 0])), ((g9 0), .inr (5, [.ref (g9 1), .ref (g9 4), .ref (g9 6), .ref (g9 8), .ref (g9 10), .ref (g9 12), .ref (g9 14)])), ((g9 1), .inr (0, [.ref (g9 2), .int 0])), ((g9 2), .inr (3, [.int 6, .int 6, .ref (g9 3), .int 0])), ((g9 3), .inl (xI G, 36, .inl (fun _ => 0))), ((g9 4), .inr (3, [.int 8, .int 37, .ref (g9 5), .int 0])), ((g9 5), .inl (xI G, 296, .inl (fun _ => 0))), ((g9 6), .inr (3, [.int 5, .int 1, .ref (g9 7), .int 5])), ((g9 7), .inl (xI G, 5, .inl (fun _ => 0))), ((g9 8), .inr (3, [.int 4, .int 1, .ref (g9 9), .int 0])), ((g9 9), .inl (xI G, 4, .inl (fun _ => 0))), ((g9 10), .inr (3, [.int 6, .int 2, .ref (g9 11), .int 0])), ((g9 11), .inl (xI G, 12, .inl (fun _ => 0))), ((g9 12), .inr (3, [.int 6, .int 5, .ref (g9 13), .int 0])), ((g9 13), .inl (xI G, 30, .inl (fun _ => 0))), ((g9 14), .inr (3, [.int 6, .int 6, .ref (g9 15), .int 0])), ((g9 15), .inl (xI G, 36, .inl (fun _ => 0))), ((g20 0), .inr (5, [.ref (g20 1), .ref (g20 4), .ref (g20 6), .ref (g20 8), .ref (g20 10), .ref (g20 12), .ref (g20 14)])), ((g20 1), .inr (0, [.ref (g20 2), .int 0])), ((g20 2), .inr (3, [.int 6, .int 6, .ref (g20 3), .int 0])), ((g20 3), .inl (xI G, 36, .inl (fun _ => 0))), ((g20 4), .inr (3, [.int 8, .int 37, .ref (g20 5), .int 0])), ((g20 5), .inl (xI G, 296, .inl (fun _ => 0))), ((g20 6), .inr (3, [.int 5, .int 1, .ref (g20 7), .int 5])), ((g20 7), .inl (xI G, 5, .inl (fun _ => 0))), ((g20 8), .inr (3, [.int 4, .int 1, .ref (g20 9), .int 0])), ((g20 9), .inl (xI G, 4, .inl (fun _ => 0))), ((g20 10), .inr (3, [.int 6, .int 2, .ref (g20 11), .int 0])), ((g20 11), .inl (xI G, 12, .inl (fun _ => 0))), ((g20 12), .inr (3, [.int 6, .int 5, .ref (g20 13), .int 0])), ((g20 13), .inl (xI G, 30, .inl (fun _ => 0))), ((g20 14), .inr (3, [.int 6, .int 6, .ref (g20 15), .int 0])), ((g20 15), .inl (xI G, 36, .inl (fun _ => 0))), ((g31 0), .inr (5, [.ref (g31 1), .ref (g31 4), .ref (g31 6), .ref (g31 8), .ref (g31 10), .ref (g31 12), .ref (g31 14)])), ((g31 1), .inr (0, [.ref (g31 2), .int 0])), ((g31 2), .inr (3, [.int 6, .int 6, .ref (g31 3), .int 0])), ((g31 3), .inl (xI G, 36, .inl (fun _ => 0))), ((g31 4), .inr (3, [.int 8, .int 37, .ref (g31 5), .int 0])), ((g31 5), .inl (xI G, 296, .inl (fun _ => 0))), ((g31 6), .inr (3, [.int 5, .int 1, .ref (g31 7), .int 5])), ((g31 7), .inl (xI G, 5, .inl (fun _ => 0))), ((g31 8), .inr (3, [.int 4, .int 1, .ref (g31 9), .int 0])), ((g31 9), .inl (xI G, 4, .inl (fun _ => 0))), ((g31 10), .inr (3, [.int 6, .int 2, .ref (g31 11), .int 0])), ((g31 11), .inl (xI G, 12, .inl (fun _ => 0))), ((g31 12), .inr (3, [.int 6, .int 5, .ref (g31 13), .int 0])), ((g31 13), .inl (xI G, 30, .inl (fun _ => 0))), ((g31 14), .inr (3, [.int 6, .int 6, .ref (g31 15), .int 0])), ((g31 15), .inl (xI G, 36, .inl (fun _ => 0))), ((g42 0), .inr (0, [.ref (g42 1), .int 0])), ((g42 1), .inr (3, [.int 6, .int 6, .ref (g42 2), .int 0])), ((g42 2), .inl (xI G, 36, .inl (fun _ => 0))), ((g57 0), .inr (3, [.int (150 : Int32), .int (1 : Int32), .ref (g57 1), .int 0])), ((g57 1), .inl (xI G, 150, .inl (fun _ => 0))), ((g68 0), .inr (2, [.ref (g68 1), .ref (g68 4), .int 0, .int 0, .int 0])), ((g68 1), .inr (4, [.ref (g68 2), .int 0])), ((g68 2), .inr (3, [.int 151, .int 3, .ref (g68 3), .int 0])), ((g68 3), .inl (xI G, 453, .inl (fun _ => 0))), ((g68 4), .inr (5, [.ref (g68 5), .ref (g68 8), .ref (g68 10), .ref (g68 12), .ref (g68 14), .ref (g68 16), .ref (g68 18)])), ((g68 5), .inr (0, [.ref (g68 6), .int 0])), ((g68 6), .inr (3, [.int 6, .int 6, .ref (g68 7), .int 0])), ((g68 7), .inl (xI G, 36, .inl (fun _ => 0))), ((g68 8), .inr (3, [.int 8, .int 37, .ref (g68 9), .int 0])), ((g68 9), .inl (xI G, 296, .inl (fun _ => 0))), ((g68 10), .inr (3, [.int 5, .int 1, .ref (g68 11), .int 5])), ((g68 11), .inl (xI G, 5, .inl (fun _ => 0))), ((g68 12), .inr (3, [.int 4, .int 1, .ref (g68 13), .int 0])), ((g68 13), .inl (xI G, 4, .inl (fun _ => 0))), ((g68 14), .inr (3, [.int 6, .int 2, .ref (g68 15), .int 0])), ((g68 15), .inl (xI G, 12, .inl (fun _ => 0))), ((g68 16), .inr (3, [.int 6, .int 5, .ref (g68 17), .int 0])), ((g68 17), .inl (xI G, 30, .inl (fun _ => 0))), ((g68 18), .inr (3, [.int 6, .int 6, .ref (g68 19), .int 0])), ((g68 19), .inl (xI G, 36, .inl (fun _ => 0)))]) (cK_init G q75) [74] [0, 1, 2, 3, 4, 5, 6, 7, 8, 9, 10, 11, 12, 13, 14, 15, 16, 17, 18, 19, 20, 21, 22, 23, 24, 25, 26, 27, 28, 29, 30, 31, 32, 33, 34, 35, 36, 37, 38, 39, 40, 41, 42, 43, 44, 45, 46, 47, 48, 49, 50, 51, 52, 53, 54, 55, 56, 57, 58, 59, 60, 61, 62, 63, 64, 65, 66, 67, 68, 69, 70, 71, 72, 73] rfl rfl rfl (by decide) (by decide) (fun w1 hw1 => ?_)
  obtain ⟨g79, e79, rfl⟩ := hw1
  subst e79
  refine cR_world [0, 1, 2, 3, 4, 5, 6, 7, 8, 9, 10, 11, 12, 13, 14, 15, 16, 17, 18, 19, 20, 21, 22, 23, 24, 25, 26, 27, 28, 29, 30, 31, 32, 33, 34, 35, 36, 37, 38, 39, 40, 41, 42, 43, 44, 45, 46, 47, 48, 49, 50, 51, 52, 53, 54, 55, 56, 57, 58, 59, 60, 61, 62, 63, 64, 65, 66, 67, 68, 69, 70, 71, 72, 73, 74, 75, 76, 77, 78, 79, 80] ([(h0, .inr (6, [.ref (g9 0), .ref (g20 0), .ref (g31 0), .ref (g42 0), .ref (g57 0), .ref (g68 0), .null, .null, .null, .int 0, .int 0, .long 0, .long 0, .int 0, .int 0, .int 0])), ((g9 0), .inr (5, [.ref (g9 1), .ref (g9 4), .ref (g9 6), .ref (g9 8), .ref (g9 10), .ref (g9 12), .ref (g9 14)])), ((g9 1), .inr (0, [.ref (g9 2), .int 0])), ((g9 2), .inr (3, [.int 6, .int 6, .ref (g9 3), .int 0])), ((g9 3), .inl (xI G, 36, .inl (fun _ => 0))), ((g9 4), .inr (3, [.int 8, .int 37, .ref (g9 5), .int 0])), ((g9 5), .inl (xI G, 296, .inl (fun _ => 0))), ((g9 6), .inr (3, [.int 5, .int 1, .ref (g9 7), .int 5])), ((g9 7), .inl (xI G, 5, .inl (fun _ => 0))), ((g9 8), .inr (3, [.int 4, .int 1, .ref (g9 9), .int 0])), ((g9 9), .inl (xI G, 4, .inl (fun _ => 0))), ((g9 10), .inr (3, [.int 6, .int 2, .ref (g9 11), .int 0])), ((g9 11), .inl (xI G, 12, .inl (fun _ => 0))), ((g9 12), .inr (3, [.int 6, .int 5, .ref (g9 13), .int 0])), ((g9 13), .inl (xI G, 30, .inl (fun _ => 0))), ((g9 14), .inr (3, [.int 6, .int 6, .ref (g9 15), .int 0])), ((g9 15), .inl (xI G, 36, .inl (fun _ => 0))), ((g20 0), .inr (5, [.ref (g20 1), .ref (g20 4), .ref (g20 6), .ref (g20 8), .ref (g20 10), .ref (g20 12), .ref (g20 14)])), ((g20 1), .inr (0, [.ref (g20 2), .int 0])), ((g20 2), .inr (3, [.int 6, .int 6, .ref (g20 3), .int 0])), ((g20 3), .inl (xI G, 36, .inl (fun _ => 0))), ((g20 4), .inr (3, [.int 8, .int 37, .ref (g20 5), .int 0])), ((g20 5), .inl (xI G, 296, .inl (fun _ => 0))), ((g20 6), .inr (3, [.int 5, .int 1, .ref (g20 7), .int 5])), ((g20 7), .inl (xI G, 5, .inl (fun _ => 0))), ((g20 8), .inr (3, [.int 4, .int 1, .ref (g20 9), .int 0])), ((g20 9), .inl (xI G, 4, .inl (fun _ => 0))), ((g20 10), .inr (3, [.int 6, .int 2, .ref (g20 11), .int 0])), ((g20 11), .inl (xI G, 12, .inl (fun _ => 0))), ((g20 12), .inr (3, [.int 6, .int 5, .ref (g20 13), .int 0])), ((g20 13), .inl (xI G, 30, .inl (fun _ => 0))), ((g20 14), .inr (3, [.int 6, .int 6, .ref (g20 15), .int 0])), ((g20 15), .inl (xI G, 36, .inl (fun _ => 0))), ((g31 0), .inr (5, [.ref (g31 1), .ref (g31 4), .ref (g31 6), .ref (g31 8), .ref (g31 10), .ref (g31 12), .ref (g31 14)])), ((g31 1), .inr (0, [.ref (g31 2), .int 0])), ((g31 2), .inr (3, [.int 6, .int 6, .ref (g31 3), .int 0])), ((g31 3), .inl (xI G, 36, .inl (fun _ => 0))), ((g31 4), .inr (3, [.int 8, .int 37, .ref (g31 5), .int 0])), ((g31 5), .inl (xI G, 296, .inl (fun _ => 0))), ((g31 6), .inr (3, [.int 5, .int 1, .ref (g31 7), .int 5])), ((g31 7), .inl (xI G, 5, .inl (fun _ => 0))), ((g31 8), .inr (3, [.int 4, .int 1, .ref (g31 9), .int 0])), ((g31 9), .inl (xI G, 4, .inl (fun _ => 0))), ((g31 10), .inr (3, [.int 6, .int 2, .ref (g31 11), .int 0])), ((g31 11), .inl (xI G, 12, .inl (fun _ => 0))), ((g31 12), .inr (3, [.int 6, .int 5, .ref (g31 13), .int 0])), ((g31 13), .inl (xI G, 30, .inl (fun _ => 0))), ((g31 14), .inr (3, [.int 6, .int 6, .ref (g31 15), .int 0])), ((g31 15), .inl (xI G, 36, .inl (fun _ => 0))), ((g42 0), .inr (0, [.ref (g42 1), .int 0])), ((g42 1), .inr (3, [.int 6, .int 6, .ref (g42 2), .int 0])), ((g42 2), .inl (xI G, 36, .inl (fun _ => 0))), ((g57 0), .inr (3, [.int (150 : Int32), .int (1 : Int32), .ref (g57 1), .int 0])), ((g57 1), .inl (xI G, 150, .inl (fun _ => 0))), ((g68 0), .inr (2, [.ref (g68 1), .ref (g68 4), .int 0, .int 0, .int 0])), ((g68 1), .inr (4, [.ref (g68 2), .int 0])), ((g68 2), .inr (3, [.int 151, .int 3, .ref (g68 3), .int 0])), ((g68 3), .inl (xI G, 453, .inl (fun _ => 0))), ((g68 4), .inr (5, [.ref (g68 5), .ref (g68 8), .ref (g68 10), .ref (g68 12), .ref (g68 14), .ref (g68 16), .ref (g68 18)])), ((g68 5), .inr (0, [.ref (g68 6), .int 0])), ((g68 6), .inr (3, [.int 6, .int 6, .ref (g68 7), .int 0])), ((g68 7), .inl (xI G, 36, .inl (fun _ => 0))), ((g68 8), .inr (3, [.int 8, .int 37, .ref (g68 9), .int 0])), ((g68 9), .inl (xI G, 296, .inl (fun _ => 0))), ((g68 10), .inr (3, [.int 5, .int 1, .ref (g68 11), .int 5])), ((g68 11), .inl (xI G, 5, .inl (fun _ => 0))), ((g68 12), .inr (3, [.int 4, .int 1, .ref (g68 13), .int 0])), ((g68 13), .inl (xI G, 4, .inl (fun _ => 0))), ((g68 14), .inr (3, [.int 6, .int 2, .ref (g68 15), .int 0])), ((g68 15), .inl (xI G, 12, .inl (fun _ => 0))), ((g68 16), .inr (3, [.int 6, .int 5, .ref (g68 17), .int 0])), ((g68 17), .inl (xI G, 30, .inl (fun _ => 0))), ((g68 18), .inr (3, [.int 6, .int 6, .ref (g68 19), .int 0])), ((g68 19), .inl (xI G, 36, .inl (fun _ => 0))), ((g79 0), .inr (1, [.ref (g79 1), .ref (g79 3), .ref (g79 5), .int 0, .int 0])), ((g79 1), .inr (3, [.int 4, .int 64, .ref (g79 2), .int 0])), ((g79 2), .inl (xI G, 256, .inl (fun _ => 0))), ((g79 3), .inr (3, [.int 64, .int 1, .ref (g79 4), .int 0])), ((g79 4), .inl (xI G, 64, .inl (fun _ => 0))), ((g79 5), .inr (3, [.int 4, .int 1, .ref (g79 6), .int 0])), ((g79 6), .inl (xI G, 4, .inl (fun _ => 0)))]) rfl rfl ?_
  refine cR_putF 82 xcf6 6 0 (by decide) rfl rfl rfl rfl rfl rfl (Nat.le_of_ble_eq_true rfl) ([(h0, .inr (6, [.ref (g9 0), .ref (g20 0), .ref (g31 0), .ref (g42 0), .ref (g57 0), .ref (g68 0), .ref (g79 0), .null, .null, .int 0, .int 0, .long 0, .long 0, .int 0, .int 0, .int 0])), ((g9 0), .inr (5, [.ref (g9 1), .ref (g9 4), .ref (g9 6), .ref (g9 8), .ref (g9 10), .ref (g9 12), .ref (g9 14)])), ((g9 1), .inr (0, [.ref (g9 2), .int 0])), ((g9 2), .inr (3, [.int 6, .int 6, .ref (g9 3), .int 0])), ((g9 3), .inl (xI G, 36, .inl (fun _ => 0))), ((g9 4), .inr (3, [.int 8, .int 37, .ref (g9 5), .int 0])), ((g9 5), .inl (xI G, 296, .inl (fun _ => 0))), ((g9 6), .inr (3, [.int 5, .int 1, .ref (g9 7), .int 5])), ((g9 7), .inl (xI G, 5, .inl (fun _ => 0))), ((g9 8), .inr (3, [.int 4, .int 1, .ref (g9 9), .int 0])), ((g9 9), .inl (xI G, 4, .inl (fun _ => 0))), ((g9 10), .inr (3, [.int 6, .int 2, .ref (g9 11), .int 0])), ((g9 11), .inl (xI G, 12, .inl (fun _ => 0))), ((g9 12), .inr (3, [.int 6, .int 5, .ref (g9 13), .int 0])), ((g9 13), .inl (xI G, 30, .inl (fun _ => 0))), ((g9 14), .inr (3, [.int 6, .int 6, .ref (g9 15), .int 0])), ((g9 15), .inl (xI G, 36, .inl (fun _ => 0))), ((g20 0), .inr (5, [.ref (g20 1), .ref (g20 4), .ref (g20 6), .ref (g20 8), .ref (g20 10), .ref (g20 12), .ref (g20 14)])), ((g20 1), .inr (0, [.ref (g20 2), .int 0])), ((g20 2), .inr (3, [.int 6, .int 6, .ref (g20 3), .int 0])), ((g20 3), .inl (xI G, 36, .inl (fun _ => 0))), ((g20 4), .inr (3, [.int 8, .int 37, .ref (g20 5), .int 0])), ((g20 5), .inl (xI G, 296, .inl (fun _ => 0))), ((g20 6), .inr (3, [.int 5, .int 1, .ref (g20 7), .int 5])), ((g20 7), .inl (xI G, 5, .inl (fun _ => 0))), ((g20 8), .inr (3, [.int 4, .int 1, .ref (g20 9), .int 0])), ((g20 9), .inl (xI G, 4, .inl (fun _ => 0))), ((g20 10), .inr (3, [.int 6, .int 2, .ref (g20 11), .int 0])), ((g20 11), .inl (xI G, 12, .inl (fun _ => 0))), ((g20 12), .inr (3, [.int 6, .int 5, .ref (g20 13), .int 0])), ((g20 13), .inl (xI G, 30, .inl (fun _ => 0))), ((g20 14), .inr (3, [.int 6, .int 6, .ref (g20 15), .int 0])), ((g20 15), .inl (xI G, 36, .inl (fun _ => 0))), ((g31 0), .inr (5, [.ref (g31 1), .ref (g31 4), .ref (g31 6), .ref (g31 8), .ref (g31 10), .ref (g31 12), .ref (g31 14)])), ((g31 1), .inr (0, [.ref (g31 2), .int 0])), ((g31 2), .inr (3, [.int 6, .int 6, .ref (g31 3), .int 0])), ((g31 3), .inl (xI G, 36, .inl (fun _ => 0))), ((g31 4), .inr (3, [.int 8, .int 37, .ref (g31 5), .int 0])), ((g31 5), .inl (xI G, 296, .inl (fun _ => 0))), ((g31 6), .inr (3, [.int 5, .int 1, .ref (g31 7), .int 5])), ((g31 7), .inl (xI G, 5, .inl (fun _ => 0))), ((g31 8), .inr (3, [.int 4, .int 1, .ref (g31 9), .int 0])), ((g31 9), .inl (xI G, 4, .inl (fun _ => 0))), ((g31 10), .inr (3, [.int 6, .int 2, .ref (g31 11), .int 0])), ((g31 11), .inl (xI G, 12, .inl (fun _ => 0))), ((g31 12), .inr (3, [.int 6, .int 5, .ref (g31 13), .int 0])), ((g31 13), .inl (xI G, 30, .inl (fun _ => 0))), ((g31 14), .inr (3, [.int 6, .int 6, .ref (g31 15), .int 0])), ((g31 15), .inl (xI G, 36, .inl (fun _ => 0))), ((g42 0), .inr (0, [.ref (g42 1), .int 0])), ((g42 1), .inr (3, [.int 6, .int 6, .ref (g42 2), .int 0])), ((g42 2), .inl (xI G, 36, .inl (fun _ => 0))), ((g57 0), .inr (3, [.int (150 : Int32), .int (1 : Int32), .ref (g57 1), .int 0])), ((g57 1), .inl (xI G, 150, .inl (fun _ => 0))), ((g68 0), .inr (2, [.ref (g68 1), .ref (g68 4), .int 0, .int 0, .int 0])), ((g68 1), .inr (4, [.ref (g68 2), .int 0])), ((g68 2), .inr (3, [.int 151, .int 3, .ref (g68 3), .int 0])), ((g68 3), .inl (xI G, 453, .inl (fun _ => 0))), ((g68 4), .inr (5, [.ref (g68 5), .ref (g68 8), .ref (g68 10), .ref (g68 12), .ref (g68 14), .ref (g68 16), .ref (g68 18)])), ((g68 5), .inr (0, [.ref (g68 6), .int 0])), ((g68 6), .inr (3, [.int 6, .int 6, .ref (g68 7), .int 0])), ((g68 7), .inl (xI G, 36, .inl (fun _ => 0))), ((g68 8), .inr (3, [.int 8, .int 37, .ref (g68 9), .int 0])), ((g68 9), .inl (xI G, 296, .inl (fun _ => 0))), ((g68 10), .inr (3, [.int 5, .int 1, .ref (g68 11), .int 5])), ((g68 11), .inl (xI G, 5, .inl (fun _ => 0))), ((g68 12), .inr (3, [.int 4, .int 1, .ref (g68 13), .int 0])), ((g68 13), .inl (xI G, 4, .inl (fun _ => 0))), ((g68 14), .inr (3, [.int 6, .int 2, .ref (g68 15), .int 0])), ((g68 15), .inl (xI G, 12, .inl (fun _ => 0))), ((g68 16), .inr (3, [.int 6, .int 5, .ref (g68 17), .int 0])), ((g68 17), .inl (xI G, 30, .inl (fun _ => 0))), ((g68 18), .inr (3, [.int 6, .int 6, .ref (g68 19), .int 0])), ((g68 19), .inl (xI G, 36, .inl (fun _ => 0))), ((g79 0), .inr (1, [.ref (g79 1), .ref (g79 3), .ref (g79 5), .int 0, .int 0])), ((g79 1), .inr (3, [.int 4, .int 64, .ref (g79 2), .int 0])), ((g79 2), .inl (xI G, 256, .inl (fun _ => 0))), ((g79 3), .inr (3, [.int 64, .int 1, .ref (g79 4), .int 0])), ((g79 4), .inl (xI G, 64, .inl (fun _ => 0))), ((g79 5), .inr (3, [.int 4, .int 1, .ref (g79 6), .int 0])), ((g79 6), .inl (xI G, 4, .inl (fun _ => 0)))]) rfl fl_RX8_48 dH_init_82 ?_
  refine cR_aln 85 0 dH_init_85 rfl rfl ?_
  refine cR_new 86 xcf3 [.int 0, .int 0, .null, .int 0] kl_RX8_29 ki_RX4 kn_RX4 (fun j hj => by rcases (show j = 0 ∨ j = 1 ∨ j = 2 ∨ j = 3 by omega) with rfl | rfl | rfl | rfl <;> rfl) ⟨Nat.le_of_ble_eq_true rfl, Nat.le_of_ble_eq_true rfl⟩ dH_init_86 (fun q86 => ?_)
  refine cR_dup 89 dH_init_89 rfl ?_
  refine cR_bp 90 (6 : Int32) dH_init_90 (by decide) ?_
  refine cR_bp 92 (6 : Int32) dH_init_92 (by decide) ?_
  refine cR_mmax 94 ml_RX8_52 ⟨Nat.le_of_ble_eq_true rfl, Nat.le_of_ble_eq_true rfl⟩ ⟨Nat.le_of_ble_eq_true rfl, Nat.le_of_ble_eq_true rfl⟩ dH_init_94 ?_
  rw [show xmax (6 : Int32) 6 = 6 from by decide]
  refine cR_ic 97 (1 : Int32) dH_init_97 (by decide) ?_
  refine cR_callI 98 ck_T_init cn_T_init rfl rfl ml_RX8_31 ⟨Nat.le_of_ble_eq_true rfl, Nat.le_of_ble_eq_true rfl⟩ ⟨Nat.le_of_ble_eq_true rfl, Nat.le_of_ble_eq_true rfl⟩ [.int (6 : Int32), .int (1 : Int32)] rfl rfl (Nat.le_of_ble_eq_true rfl) dH_init_98 (wr := [(h0, .inr (6, [.ref (g9 0), .ref (g20 0), .ref (g31 0), .ref (g42 0), .ref (g57 0), .ref (g68 0), .ref (g79 0), .null, .null, .int 0, .int 0, .long 0, .long 0, .int 0, .int 0, .int 0])), ((g9 0), .inr (5, [.ref (g9 1), .ref (g9 4), .ref (g9 6), .ref (g9 8), .ref (g9 10), .ref (g9 12), .ref (g9 14)])), ((g9 1), .inr (0, [.ref (g9 2), .int 0])), ((g9 2), .inr (3, [.int 6, .int 6, .ref (g9 3), .int 0])), ((g9 3), .inl (xI G, 36, .inl (fun _ => 0))), ((g9 4), .inr (3, [.int 8, .int 37, .ref (g9 5), .int 0])), ((g9 5), .inl (xI G, 296, .inl (fun _ => 0))), ((g9 6), .inr (3, [.int 5, .int 1, .ref (g9 7), .int 5])), ((g9 7), .inl (xI G, 5, .inl (fun _ => 0))), ((g9 8), .inr (3, [.int 4, .int 1, .ref (g9 9), .int 0])), ((g9 9), .inl (xI G, 4, .inl (fun _ => 0))), ((g9 10), .inr (3, [.int 6, .int 2, .ref (g9 11), .int 0])), ((g9 11), .inl (xI G, 12, .inl (fun _ => 0))), ((g9 12), .inr (3, [.int 6, .int 5, .ref (g9 13), .int 0])), ((g9 13), .inl (xI G, 30, .inl (fun _ => 0))), ((g9 14), .inr (3, [.int 6, .int 6, .ref (g9 15), .int 0])), ((g9 15), .inl (xI G, 36, .inl (fun _ => 0))), ((g20 0), .inr (5, [.ref (g20 1), .ref (g20 4), .ref (g20 6), .ref (g20 8), .ref (g20 10), .ref (g20 12), .ref (g20 14)])), ((g20 1), .inr (0, [.ref (g20 2), .int 0])), ((g20 2), .inr (3, [.int 6, .int 6, .ref (g20 3), .int 0])), ((g20 3), .inl (xI G, 36, .inl (fun _ => 0))), ((g20 4), .inr (3, [.int 8, .int 37, .ref (g20 5), .int 0])), ((g20 5), .inl (xI G, 296, .inl (fun _ => 0))), ((g20 6), .inr (3, [.int 5, .int 1, .ref (g20 7), .int 5])), ((g20 7), .inl (xI G, 5, .inl (fun _ => 0))), ((g20 8), .inr (3, [.int 4, .int 1, .ref (g20 9), .int 0])), ((g20 9), .inl (xI G, 4, .inl (fun _ => 0))), ((g20 10), .inr (3, [.int 6, .int 2, .ref (g20 11), .int 0])), ((g20 11), .inl (xI G, 12, .inl (fun _ => 0))), ((g20 12), .inr (3, [.int 6, .int 5, .ref (g20 13), .int 0])), ((g20 13), .inl (xI G, 30, .inl (fun _ => 0))), ((g20 14), .inr (3, [.int 6, .int 6, .ref (g20 15), .int 0])), ((g20 15), .inl (xI G, 36, .inl (fun _ => 0))), ((g31 0), .inr (5, [.ref (g31 1), .ref (g31 4), .ref (g31 6), .ref (g31 8), .ref (g31 10), .ref (g31 12), .ref (g31 14)])), ((g31 1), .inr (0, [.ref (g31 2), .int 0])), ((g31 2), .inr (3, [.int 6, .int 6, .ref (g31 3), .int 0])), ((g31 3), .inl (xI G, 36, .inl (fun _ => 0))), ((g31 4), .inr (3, [.int 8, .int 37, .ref (g31 5), .int 0])), ((g31 5), .inl (xI G, 296, .inl (fun _ => 0))), ((g31 6), .inr (3, [.int 5, .int 1, .ref (g31 7), .int 5])), ((g31 7), .inl (xI G, 5, .inl (fun _ => 0))), ((g31 8), .inr (3, [.int 4, .int 1, .ref (g31 9), .int 0])), ((g31 9), .inl (xI G, 4, .inl (fun _ => 0))), ((g31 10), .inr (3, [.int 6, .int 2, .ref (g31 11), .int 0])), ((g31 11), .inl (xI G, 12, .inl (fun _ => 0))), ((g31 12), .inr (3, [.int 6, .int 5, .ref (g31 13), .int 0])), ((g31 13), .inl (xI G, 30, .inl (fun _ => 0))), ((g31 14), .inr (3, [.int 6, .int 6, .ref (g31 15), .int 0])), ((g31 15), .inl (xI G, 36, .inl (fun _ => 0))), ((g42 0), .inr (0, [.ref (g42 1), .int 0])), ((g42 1), .inr (3, [.int 6, .int 6, .ref (g42 2), .int 0])), ((g42 2), .inl (xI G, 36, .inl (fun _ => 0))), ((g57 0), .inr (3, [.int (150 : Int32), .int (1 : Int32), .ref (g57 1), .int 0])), ((g57 1), .inl (xI G, 150, .inl (fun _ => 0))), ((g68 0), .inr (2, [.ref (g68 1), .ref (g68 4), .int 0, .int 0, .int 0])), ((g68 1), .inr (4, [.ref (g68 2), .int 0])), ((g68 2), .inr (3, [.int 151, .int 3, .ref (g68 3), .int 0])), ((g68 3), .inl (xI G, 453, .inl (fun _ => 0))), ((g68 4), .inr (5, [.ref (g68 5), .ref (g68 8), .ref (g68 10), .ref (g68 12), .ref (g68 14), .ref (g68 16), .ref (g68 18)])), ((g68 5), .inr (0, [.ref (g68 6), .int 0])), ((g68 6), .inr (3, [.int 6, .int 6, .ref (g68 7), .int 0])), ((g68 7), .inl (xI G, 36, .inl (fun _ => 0))), ((g68 8), .inr (3, [.int 8, .int 37, .ref (g68 9), .int 0])), ((g68 9), .inl (xI G, 296, .inl (fun _ => 0))), ((g68 10), .inr (3, [.int 5, .int 1, .ref (g68 11), .int 5])), ((g68 11), .inl (xI G, 5, .inl (fun _ => 0))), ((g68 12), .inr (3, [.int 4, .int 1, .ref (g68 13), .int 0])), ((g68 13), .inl (xI G, 4, .inl (fun _ => 0))), ((g68 14), .inr (3, [.int 6, .int 2, .ref (g68 15), .int 0])), ((g68 15), .inl (xI G, 12, .inl (fun _ => 0))), ((g68 16), .inr (3, [.int 6, .int 5, .ref (g68 17), .int 0])), ((g68 17), .inl (xI G, 30, .inl (fun _ => 0))), ((g68 18), .inr (3, [.int 6, .int 6, .ref (g68 19), .int 0])), ((g68 19), .inl (xI G, 36, .inl (fun _ => 0))), ((g79 0), .inr (1, [.ref (g79 1), .ref (g79 3), .ref (g79 5), .int 0, .int 0])), ((g79 1), .inr (3, [.int 4, .int 64, .ref (g79 2), .int 0])), ((g79 2), .inl (xI G, 256, .inl (fun _ => 0))), ((g79 3), .inr (3, [.int 64, .int 1, .ref (g79 4), .int 0])), ((g79 4), .inl (xI G, 64, .inl (fun _ => 0))), ((g79 5), .inr (3, [.int 4, .int 1, .ref (g79 6), .int 0])), ((g79 6), .inl (xI G, 4, .inl (fun _ => 0)))]) (cT_init G q86 (6 : Int32) (1 : Int32) 6 (by decide) (by decide) (by decide) (by decide) (by decide)) [81] [0, 1, 2, 3, 4, 5, 6, 7, 8, 9, 10, 11, 12, 13, 14, 15, 16, 17, 18, 19, 20, 21, 22, 23, 24, 25, 26, 27, 28, 29, 30, 31, 32, 33, 34, 35, 36, 37, 38, 39, 40, 41, 42, 43, 44, 45, 46, 47, 48, 49, 50, 51, 52, 53, 54, 55, 56, 57, 58, 59, 60, 61, 62, 63, 64, 65, 66, 67, 68, 69, 70, 71, 72, 73, 74, 75, 76, 77, 78, 79, 80] rfl rfl rfl (by decide) (by decide) (fun w1 hw1 => ?_)
  obtain ⟨g98, e98, rfl⟩ := hw1
  subst e98
  refine cR_world [0, 1, 2, 3, 4, 5, 6, 7, 8, 9, 10, 11, 12, 13, 14, 15, 16, 17, 18, 19, 20, 21, 22, 23, 24, 25, 26, 27, 28, 29, 30, 31, 32, 33, 34, 35, 36, 37, 38, 39, 40, 41, 42, 43, 44, 45, 46, 47, 48, 49, 50, 51, 52, 53, 54, 55, 56, 57, 58, 59, 60, 61, 62, 63, 64, 65, 66, 67, 68, 69, 70, 71, 72, 73, 74, 75, 76, 77, 78, 79, 80, 81, 82] ([(h0, .inr (6, [.ref (g9 0), .ref (g20 0), .ref (g31 0), .ref (g42 0), .ref (g57 0), .ref (g68 0), .ref (g79 0), .null, .null, .int 0, .int 0, .long 0, .long 0, .int 0, .int 0, .int 0])), ((g9 0), .inr (5, [.ref (g9 1), .ref (g9 4), .ref (g9 6), .ref (g9 8), .ref (g9 10), .ref (g9 12), .ref (g9 14)])), ((g9 1), .inr (0, [.ref (g9 2), .int 0])), ((g9 2), .inr (3, [.int 6, .int 6, .ref (g9 3), .int 0])), ((g9 3), .inl (xI G, 36, .inl (fun _ => 0))), ((g9 4), .inr (3, [.int 8, .int 37, .ref (g9 5), .int 0])), ((g9 5), .inl (xI G, 296, .inl (fun _ => 0))), ((g9 6), .inr (3, [.int 5, .int 1, .ref (g9 7), .int 5])), ((g9 7), .inl (xI G, 5, .inl (fun _ => 0))), ((g9 8), .inr (3, [.int 4, .int 1, .ref (g9 9), .int 0])), ((g9 9), .inl (xI G, 4, .inl (fun _ => 0))), ((g9 10), .inr (3, [.int 6, .int 2, .ref (g9 11), .int 0])), ((g9 11), .inl (xI G, 12, .inl (fun _ => 0))), ((g9 12), .inr (3, [.int 6, .int 5, .ref (g9 13), .int 0])), ((g9 13), .inl (xI G, 30, .inl (fun _ => 0))), ((g9 14), .inr (3, [.int 6, .int 6, .ref (g9 15), .int 0])), ((g9 15), .inl (xI G, 36, .inl (fun _ => 0))), ((g20 0), .inr (5, [.ref (g20 1), .ref (g20 4), .ref (g20 6), .ref (g20 8), .ref (g20 10), .ref (g20 12), .ref (g20 14)])), ((g20 1), .inr (0, [.ref (g20 2), .int 0])), ((g20 2), .inr (3, [.int 6, .int 6, .ref (g20 3), .int 0])), ((g20 3), .inl (xI G, 36, .inl (fun _ => 0))), ((g20 4), .inr (3, [.int 8, .int 37, .ref (g20 5), .int 0])), ((g20 5), .inl (xI G, 296, .inl (fun _ => 0))), ((g20 6), .inr (3, [.int 5, .int 1, .ref (g20 7), .int 5])), ((g20 7), .inl (xI G, 5, .inl (fun _ => 0))), ((g20 8), .inr (3, [.int 4, .int 1, .ref (g20 9), .int 0])), ((g20 9), .inl (xI G, 4, .inl (fun _ => 0))), ((g20 10), .inr (3, [.int 6, .int 2, .ref (g20 11), .int 0])), ((g20 11), .inl (xI G, 12, .inl (fun _ => 0))), ((g20 12), .inr (3, [.int 6, .int 5, .ref (g20 13), .int 0])), ((g20 13), .inl (xI G, 30, .inl (fun _ => 0))), ((g20 14), .inr (3, [.int 6, .int 6, .ref (g20 15), .int 0])), ((g20 15), .inl (xI G, 36, .inl (fun _ => 0))), ((g31 0), .inr (5, [.ref (g31 1), .ref (g31 4), .ref (g31 6), .ref (g31 8), .ref (g31 10), .ref (g31 12), .ref (g31 14)])), ((g31 1), .inr (0, [.ref (g31 2), .int 0])), ((g31 2), .inr (3, [.int 6, .int 6, .ref (g31 3), .int 0])), ((g31 3), .inl (xI G, 36, .inl (fun _ => 0))), ((g31 4), .inr (3, [.int 8, .int 37, .ref (g31 5), .int 0])), ((g31 5), .inl (xI G, 296, .inl (fun _ => 0))), ((g31 6), .inr (3, [.int 5, .int 1, .ref (g31 7), .int 5])), ((g31 7), .inl (xI G, 5, .inl (fun _ => 0))), ((g31 8), .inr (3, [.int 4, .int 1, .ref (g31 9), .int 0])), ((g31 9), .inl (xI G, 4, .inl (fun _ => 0))), ((g31 10), .inr (3, [.int 6, .int 2, .ref (g31 11), .int 0])), ((g31 11), .inl (xI G, 12, .inl (fun _ => 0))), ((g31 12), .inr (3, [.int 6, .int 5, .ref (g31 13), .int 0])), ((g31 13), .inl (xI G, 30, .inl (fun _ => 0))), ((g31 14), .inr (3, [.int 6, .int 6, .ref (g31 15), .int 0])), ((g31 15), .inl (xI G, 36, .inl (fun _ => 0))), ((g42 0), .inr (0, [.ref (g42 1), .int 0])), ((g42 1), .inr (3, [.int 6, .int 6, .ref (g42 2), .int 0])), ((g42 2), .inl (xI G, 36, .inl (fun _ => 0))), ((g57 0), .inr (3, [.int (150 : Int32), .int (1 : Int32), .ref (g57 1), .int 0])), ((g57 1), .inl (xI G, 150, .inl (fun _ => 0))), ((g68 0), .inr (2, [.ref (g68 1), .ref (g68 4), .int 0, .int 0, .int 0])), ((g68 1), .inr (4, [.ref (g68 2), .int 0])), ((g68 2), .inr (3, [.int 151, .int 3, .ref (g68 3), .int 0])), ((g68 3), .inl (xI G, 453, .inl (fun _ => 0))), ((g68 4), .inr (5, [.ref (g68 5), .ref (g68 8), .ref (g68 10), .ref (g68 12), .ref (g68 14), .ref (g68 16), .ref (g68 18)])), ((g68 5), .inr (0, [.ref (g68 6), .int 0])), ((g68 6), .inr (3, [.int 6, .int 6, .ref (g68 7), .int 0])), ((g68 7), .inl (xI G, 36, .inl (fun _ => 0))), ((g68 8), .inr (3, [.int 8, .int 37, .ref (g68 9), .int 0])), ((g68 9), .inl (xI G, 296, .inl (fun _ => 0))), ((g68 10), .inr (3, [.int 5, .int 1, .ref (g68 11), .int 5])), ((g68 11), .inl (xI G, 5, .inl (fun _ => 0))), ((g68 12), .inr (3, [.int 4, .int 1, .ref (g68 13), .int 0])), ((g68 13), .inl (xI G, 4, .inl (fun _ => 0))), ((g68 14), .inr (3, [.int 6, .int 2, .ref (g68 15), .int 0])), ((g68 15), .inl (xI G, 12, .inl (fun _ => 0))), ((g68 16), .inr (3, [.int 6, .int 5, .ref (g68 17), .int 0])), ((g68 17), .inl (xI G, 30, .inl (fun _ => 0))), ((g68 18), .inr (3, [.int 6, .int 6, .ref (g68 19), .int 0])), ((g68 19), .inl (xI G, 36, .inl (fun _ => 0))), ((g79 0), .inr (1, [.ref (g79 1), .ref (g79 3), .ref (g79 5), .int 0, .int 0])), ((g79 1), .inr (3, [.int 4, .int 64, .ref (g79 2), .int 0])), ((g79 2), .inl (xI G, 256, .inl (fun _ => 0))), ((g79 3), .inr (3, [.int 64, .int 1, .ref (g79 4), .int 0])), ((g79 4), .inl (xI G, 64, .inl (fun _ => 0))), ((g79 5), .inr (3, [.int 4, .int 1, .ref (g79 6), .int 0])), ((g79 6), .inl (xI G, 4, .inl (fun _ => 0))), ((g98 0), .inr (3, [.int (6 : Int32), .int (1 : Int32), .ref (g98 1), .int 0])), ((g98 1), .inl (xI G, 6, .inl (fun _ => 0)))]) rfl rfl ?_
  refine cR_putF 101 xcf6 7 0 (by decide) rfl rfl rfl rfl rfl rfl (Nat.le_of_ble_eq_true rfl) ([(h0, .inr (6, [.ref (g9 0), .ref (g20 0), .ref (g31 0), .ref (g42 0), .ref (g57 0), .ref (g68 0), .ref (g79 0), .ref (g98 0), .null, .int 0, .int 0, .long 0, .long 0, .int 0, .int 0, .int 0])), ((g9 0), .inr (5, [.ref (g9 1), .ref (g9 4), .ref (g9 6), .ref (g9 8), .ref (g9 10), .ref (g9 12), .ref (g9 14)])), ((g9 1), .inr (0, [.ref (g9 2), .int 0])), ((g9 2), .inr (3, [.int 6, .int 6, .ref (g9 3), .int 0])), ((g9 3), .inl (xI G, 36, .inl (fun _ => 0))), ((g9 4), .inr (3, [.int 8, .int 37, .ref (g9 5), .int 0])), ((g9 5), .inl (xI G, 296, .inl (fun _ => 0))), ((g9 6), .inr (3, [.int 5, .int 1, .ref (g9 7), .int 5])), ((g9 7), .inl (xI G, 5, .inl (fun _ => 0))), ((g9 8), .inr (3, [.int 4, .int 1, .ref (g9 9), .int 0])), ((g9 9), .inl (xI G, 4, .inl (fun _ => 0))), ((g9 10), .inr (3, [.int 6, .int 2, .ref (g9 11), .int 0])), ((g9 11), .inl (xI G, 12, .inl (fun _ => 0))), ((g9 12), .inr (3, [.int 6, .int 5, .ref (g9 13), .int 0])), ((g9 13), .inl (xI G, 30, .inl (fun _ => 0))), ((g9 14), .inr (3, [.int 6, .int 6, .ref (g9 15), .int 0])), ((g9 15), .inl (xI G, 36, .inl (fun _ => 0))), ((g20 0), .inr (5, [.ref (g20 1), .ref (g20 4), .ref (g20 6), .ref (g20 8), .ref (g20 10), .ref (g20 12), .ref (g20 14)])), ((g20 1), .inr (0, [.ref (g20 2), .int 0])), ((g20 2), .inr (3, [.int 6, .int 6, .ref (g20 3), .int 0])), ((g20 3), .inl (xI G, 36, .inl (fun _ => 0))), ((g20 4), .inr (3, [.int 8, .int 37, .ref (g20 5), .int 0])), ((g20 5), .inl (xI G, 296, .inl (fun _ => 0))), ((g20 6), .inr (3, [.int 5, .int 1, .ref (g20 7), .int 5])), ((g20 7), .inl (xI G, 5, .inl (fun _ => 0))), ((g20 8), .inr (3, [.int 4, .int 1, .ref (g20 9), .int 0])), ((g20 9), .inl (xI G, 4, .inl (fun _ => 0))), ((g20 10), .inr (3, [.int 6, .int 2, .ref (g20 11), .int 0])), ((g20 11), .inl (xI G, 12, .inl (fun _ => 0))), ((g20 12), .inr (3, [.int 6, .int 5, .ref (g20 13), .int 0])), ((g20 13), .inl (xI G, 30, .inl (fun _ => 0))), ((g20 14), .inr (3, [.int 6, .int 6, .ref (g20 15), .int 0])), ((g20 15), .inl (xI G, 36, .inl (fun _ => 0))), ((g31 0), .inr (5, [.ref (g31 1), .ref (g31 4), .ref (g31 6), .ref (g31 8), .ref (g31 10), .ref (g31 12), .ref (g31 14)])), ((g31 1), .inr (0, [.ref (g31 2), .int 0])), ((g31 2), .inr (3, [.int 6, .int 6, .ref (g31 3), .int 0])), ((g31 3), .inl (xI G, 36, .inl (fun _ => 0))), ((g31 4), .inr (3, [.int 8, .int 37, .ref (g31 5), .int 0])), ((g31 5), .inl (xI G, 296, .inl (fun _ => 0))), ((g31 6), .inr (3, [.int 5, .int 1, .ref (g31 7), .int 5])), ((g31 7), .inl (xI G, 5, .inl (fun _ => 0))), ((g31 8), .inr (3, [.int 4, .int 1, .ref (g31 9), .int 0])), ((g31 9), .inl (xI G, 4, .inl (fun _ => 0))), ((g31 10), .inr (3, [.int 6, .int 2, .ref (g31 11), .int 0])), ((g31 11), .inl (xI G, 12, .inl (fun _ => 0))), ((g31 12), .inr (3, [.int 6, .int 5, .ref (g31 13), .int 0])), ((g31 13), .inl (xI G, 30, .inl (fun _ => 0))), ((g31 14), .inr (3, [.int 6, .int 6, .ref (g31 15), .int 0])), ((g31 15), .inl (xI G, 36, .inl (fun _ => 0))), ((g42 0), .inr (0, [.ref (g42 1), .int 0])), ((g42 1), .inr (3, [.int 6, .int 6, .ref (g42 2), .int 0])), ((g42 2), .inl (xI G, 36, .inl (fun _ => 0))), ((g57 0), .inr (3, [.int (150 : Int32), .int (1 : Int32), .ref (g57 1), .int 0])), ((g57 1), .inl (xI G, 150, .inl (fun _ => 0))), ((g68 0), .inr (2, [.ref (g68 1), .ref (g68 4), .int 0, .int 0, .int 0])), ((g68 1), .inr (4, [.ref (g68 2), .int 0])), ((g68 2), .inr (3, [.int 151, .int 3, .ref (g68 3), .int 0])), ((g68 3), .inl (xI G, 453, .inl (fun _ => 0))), ((g68 4), .inr (5, [.ref (g68 5), .ref (g68 8), .ref (g68 10), .ref (g68 12), .ref (g68 14), .ref (g68 16), .ref (g68 18)])), ((g68 5), .inr (0, [.ref (g68 6), .int 0])), ((g68 6), .inr (3, [.int 6, .int 6, .ref (g68 7), .int 0])), ((g68 7), .inl (xI G, 36, .inl (fun _ => 0))), ((g68 8), .inr (3, [.int 8, .int 37, .ref (g68 9), .int 0])), ((g68 9), .inl (xI G, 296, .inl (fun _ => 0))), ((g68 10), .inr (3, [.int 5, .int 1, .ref (g68 11), .int 5])), ((g68 11), .inl (xI G, 5, .inl (fun _ => 0))), ((g68 12), .inr (3, [.int 4, .int 1, .ref (g68 13), .int 0])), ((g68 13), .inl (xI G, 4, .inl (fun _ => 0))), ((g68 14), .inr (3, [.int 6, .int 2, .ref (g68 15), .int 0])), ((g68 15), .inl (xI G, 12, .inl (fun _ => 0))), ((g68 16), .inr (3, [.int 6, .int 5, .ref (g68 17), .int 0])), ((g68 17), .inl (xI G, 30, .inl (fun _ => 0))), ((g68 18), .inr (3, [.int 6, .int 6, .ref (g68 19), .int 0])), ((g68 19), .inl (xI G, 36, .inl (fun _ => 0))), ((g79 0), .inr (1, [.ref (g79 1), .ref (g79 3), .ref (g79 5), .int 0, .int 0])), ((g79 1), .inr (3, [.int 4, .int 64, .ref (g79 2), .int 0])), ((g79 2), .inl (xI G, 256, .inl (fun _ => 0))), ((g79 3), .inr (3, [.int 64, .int 1, .ref (g79 4), .int 0])), ((g79 4), .inl (xI G, 64, .inl (fun _ => 0))), ((g79 5), .inr (3, [.int 4, .int 1, .ref (g79 6), .int 0])), ((g79 6), .inl (xI G, 4, .inl (fun _ => 0))), ((g98 0), .inr (3, [.int (6 : Int32), .int (1 : Int32), .ref (g98 1), .int 0])), ((g98 1), .inl (xI G, 6, .inl (fun _ => 0)))]) rfl fl_RX8_58 dH_init_101 ?_
  refine cR_aln 104 0 dH_init_104 rfl rfl ?_
  refine cR_new 105 xcf3 [.int 0, .int 0, .null, .int 0] kl_RX8_29 ki_RX4 kn_RX4 (fun j hj => by rcases (show j = 0 ∨ j = 1 ∨ j = 2 ∨ j = 3 by omega) with rfl | rfl | rfl | rfl <;> rfl) ⟨Nat.le_of_ble_eq_true rfl, Nat.le_of_ble_eq_true rfl⟩ dH_init_105 (fun q105 => ?_)
  refine cR_dup 108 dH_init_108 rfl ?_
  refine cR_ic 109 (4 : Int32) dH_init_109 (by decide) ?_
  refine cR_ic 110 (1 : Int32) dH_init_110 (by decide) ?_
  refine cR_callI 111 ck_T_init cn_T_init rfl rfl ml_RX8_31 ⟨Nat.le_of_ble_eq_true rfl, Nat.le_of_ble_eq_true rfl⟩ ⟨Nat.le_of_ble_eq_true rfl, Nat.le_of_ble_eq_true rfl⟩ [.int (4 : Int32), .int (1 : Int32)] rfl rfl (Nat.le_of_ble_eq_true rfl) dH_init_111 (wr := [(h0, .inr (6, [.ref (g9 0), .ref (g20 0), .ref (g31 0), .ref (g42 0), .ref (g57 0), .ref (g68 0), .ref (g79 0), .ref (g98 0), .null, .int 0, .int 0, .long 0, .long 0, .int 0, .int 0, .int 0])), ((g9 0), .inr (5, [.ref (g9 1), .ref (g9 4), .ref (g9 6), .ref (g9 8), .ref (g9 10), .ref (g9 12), .ref (g9 14)])), ((g9 1), .inr (0, [.ref (g9 2), .int 0])), ((g9 2), .inr (3, [.int 6, .int 6, .ref (g9 3), .int 0])), ((g9 3), .inl (xI G, 36, .inl (fun _ => 0))), ((g9 4), .inr (3, [.int 8, .int 37, .ref (g9 5), .int 0])), ((g9 5), .inl (xI G, 296, .inl (fun _ => 0))), ((g9 6), .inr (3, [.int 5, .int 1, .ref (g9 7), .int 5])), ((g9 7), .inl (xI G, 5, .inl (fun _ => 0))), ((g9 8), .inr (3, [.int 4, .int 1, .ref (g9 9), .int 0])), ((g9 9), .inl (xI G, 4, .inl (fun _ => 0))), ((g9 10), .inr (3, [.int 6, .int 2, .ref (g9 11), .int 0])), ((g9 11), .inl (xI G, 12, .inl (fun _ => 0))), ((g9 12), .inr (3, [.int 6, .int 5, .ref (g9 13), .int 0])), ((g9 13), .inl (xI G, 30, .inl (fun _ => 0))), ((g9 14), .inr (3, [.int 6, .int 6, .ref (g9 15), .int 0])), ((g9 15), .inl (xI G, 36, .inl (fun _ => 0))), ((g20 0), .inr (5, [.ref (g20 1), .ref (g20 4), .ref (g20 6), .ref (g20 8), .ref (g20 10), .ref (g20 12), .ref (g20 14)])), ((g20 1), .inr (0, [.ref (g20 2), .int 0])), ((g20 2), .inr (3, [.int 6, .int 6, .ref (g20 3), .int 0])), ((g20 3), .inl (xI G, 36, .inl (fun _ => 0))), ((g20 4), .inr (3, [.int 8, .int 37, .ref (g20 5), .int 0])), ((g20 5), .inl (xI G, 296, .inl (fun _ => 0))), ((g20 6), .inr (3, [.int 5, .int 1, .ref (g20 7), .int 5])), ((g20 7), .inl (xI G, 5, .inl (fun _ => 0))), ((g20 8), .inr (3, [.int 4, .int 1, .ref (g20 9), .int 0])), ((g20 9), .inl (xI G, 4, .inl (fun _ => 0))), ((g20 10), .inr (3, [.int 6, .int 2, .ref (g20 11), .int 0])), ((g20 11), .inl (xI G, 12, .inl (fun _ => 0))), ((g20 12), .inr (3, [.int 6, .int 5, .ref (g20 13), .int 0])), ((g20 13), .inl (xI G, 30, .inl (fun _ => 0))), ((g20 14), .inr (3, [.int 6, .int 6, .ref (g20 15), .int 0])), ((g20 15), .inl (xI G, 36, .inl (fun _ => 0))), ((g31 0), .inr (5, [.ref (g31 1), .ref (g31 4), .ref (g31 6), .ref (g31 8), .ref (g31 10), .ref (g31 12), .ref (g31 14)])), ((g31 1), .inr (0, [.ref (g31 2), .int 0])), ((g31 2), .inr (3, [.int 6, .int 6, .ref (g31 3), .int 0])), ((g31 3), .inl (xI G, 36, .inl (fun _ => 0))), ((g31 4), .inr (3, [.int 8, .int 37, .ref (g31 5), .int 0])), ((g31 5), .inl (xI G, 296, .inl (fun _ => 0))), ((g31 6), .inr (3, [.int 5, .int 1, .ref (g31 7), .int 5])), ((g31 7), .inl (xI G, 5, .inl (fun _ => 0))), ((g31 8), .inr (3, [.int 4, .int 1, .ref (g31 9), .int 0])), ((g31 9), .inl (xI G, 4, .inl (fun _ => 0))), ((g31 10), .inr (3, [.int 6, .int 2, .ref (g31 11), .int 0])), ((g31 11), .inl (xI G, 12, .inl (fun _ => 0))), ((g31 12), .inr (3, [.int 6, .int 5, .ref (g31 13), .int 0])), ((g31 13), .inl (xI G, 30, .inl (fun _ => 0))), ((g31 14), .inr (3, [.int 6, .int 6, .ref (g31 15), .int 0])), ((g31 15), .inl (xI G, 36, .inl (fun _ => 0))), ((g42 0), .inr (0, [.ref (g42 1), .int 0])), ((g42 1), .inr (3, [.int 6, .int 6, .ref (g42 2), .int 0])), ((g42 2), .inl (xI G, 36, .inl (fun _ => 0))), ((g57 0), .inr (3, [.int (150 : Int32), .int (1 : Int32), .ref (g57 1), .int 0])), ((g57 1), .inl (xI G, 150, .inl (fun _ => 0))), ((g68 0), .inr (2, [.ref (g68 1), .ref (g68 4), .int 0, .int 0, .int 0])), ((g68 1), .inr (4, [.ref (g68 2), .int 0])), ((g68 2), .inr (3, [.int 151, .int 3, .ref (g68 3), .int 0])), ((g68 3), .inl (xI G, 453, .inl (fun _ => 0))), ((g68 4), .inr (5, [.ref (g68 5), .ref (g68 8), .ref (g68 10), .ref (g68 12), .ref (g68 14), .ref (g68 16), .ref (g68 18)])), ((g68 5), .inr (0, [.ref (g68 6), .int 0])), ((g68 6), .inr (3, [.int 6, .int 6, .ref (g68 7), .int 0])), ((g68 7), .inl (xI G, 36, .inl (fun _ => 0))), ((g68 8), .inr (3, [.int 8, .int 37, .ref (g68 9), .int 0])), ((g68 9), .inl (xI G, 296, .inl (fun _ => 0))), ((g68 10), .inr (3, [.int 5, .int 1, .ref (g68 11), .int 5])), ((g68 11), .inl (xI G, 5, .inl (fun _ => 0))), ((g68 12), .inr (3, [.int 4, .int 1, .ref (g68 13), .int 0])), ((g68 13), .inl (xI G, 4, .inl (fun _ => 0))), ((g68 14), .inr (3, [.int 6, .int 2, .ref (g68 15), .int 0])), ((g68 15), .inl (xI G, 12, .inl (fun _ => 0))), ((g68 16), .inr (3, [.int 6, .int 5, .ref (g68 17), .int 0])), ((g68 17), .inl (xI G, 30, .inl (fun _ => 0))), ((g68 18), .inr (3, [.int 6, .int 6, .ref (g68 19), .int 0])), ((g68 19), .inl (xI G, 36, .inl (fun _ => 0))), ((g79 0), .inr (1, [.ref (g79 1), .ref (g79 3), .ref (g79 5), .int 0, .int 0])), ((g79 1), .inr (3, [.int 4, .int 64, .ref (g79 2), .int 0])), ((g79 2), .inl (xI G, 256, .inl (fun _ => 0))), ((g79 3), .inr (3, [.int 64, .int 1, .ref (g79 4), .int 0])), ((g79 4), .inl (xI G, 64, .inl (fun _ => 0))), ((g79 5), .inr (3, [.int 4, .int 1, .ref (g79 6), .int 0])), ((g79 6), .inl (xI G, 4, .inl (fun _ => 0))), ((g98 0), .inr (3, [.int (6 : Int32), .int (1 : Int32), .ref (g98 1), .int 0])), ((g98 1), .inl (xI G, 6, .inl (fun _ => 0)))]) (cT_init G q105 (4 : Int32) (1 : Int32) 4 (by decide) (by decide) (by decide) (by decide) (by decide)) [83] [0, 1, 2, 3, 4, 5, 6, 7, 8, 9, 10, 11, 12, 13, 14, 15, 16, 17, 18, 19, 20, 21, 22, 23, 24, 25, 26, 27, 28, 29, 30, 31, 32, 33, 34, 35, 36, 37, 38, 39, 40, 41, 42, 43, 44, 45, 46, 47, 48, 49, 50, 51, 52, 53, 54, 55, 56, 57, 58, 59, 60, 61, 62, 63, 64, 65, 66, 67, 68, 69, 70, 71, 72, 73, 74, 75, 76, 77, 78, 79, 80, 81, 82] rfl rfl rfl (by decide) (by decide) (fun w1 hw1 => ?_)
  obtain ⟨g111, e111, rfl⟩ := hw1
  subst e111
  refine cR_world [0, 1, 2, 3, 4, 5, 6, 7, 8, 9, 10, 11, 12, 13, 14, 15, 16, 17, 18, 19, 20, 21, 22, 23, 24, 25, 26, 27, 28, 29, 30, 31, 32, 33, 34, 35, 36, 37, 38, 39, 40, 41, 42, 43, 44, 45, 46, 47, 48, 49, 50, 51, 52, 53, 54, 55, 56, 57, 58, 59, 60, 61, 62, 63, 64, 65, 66, 67, 68, 69, 70, 71, 72, 73, 74, 75, 76, 77, 78, 79, 80, 81, 82, 83, 84] ([(h0, .inr (6, [.ref (g9 0), .ref (g20 0), .ref (g31 0), .ref (g42 0), .ref (g57 0), .ref (g68 0), .ref (g79 0), .ref (g98 0), .null, .int 0, .int 0, .long 0, .long 0, .int 0, .int 0, .int 0])), ((g9 0), .inr (5, [.ref (g9 1), .ref (g9 4), .ref (g9 6), .ref (g9 8), .ref (g9 10), .ref (g9 12), .ref (g9 14)])), ((g9 1), .inr (0, [.ref (g9 2), .int 0])), ((g9 2), .inr (3, [.int 6, .int 6, .ref (g9 3), .int 0])), ((g9 3), .inl (xI G, 36, .inl (fun _ => 0))), ((g9 4), .inr (3, [.int 8, .int 37, .ref (g9 5), .int 0])), ((g9 5), .inl (xI G, 296, .inl (fun _ => 0))), ((g9 6), .inr (3, [.int 5, .int 1, .ref (g9 7), .int 5])), ((g9 7), .inl (xI G, 5, .inl (fun _ => 0))), ((g9 8), .inr (3, [.int 4, .int 1, .ref (g9 9), .int 0])), ((g9 9), .inl (xI G, 4, .inl (fun _ => 0))), ((g9 10), .inr (3, [.int 6, .int 2, .ref (g9 11), .int 0])), ((g9 11), .inl (xI G, 12, .inl (fun _ => 0))), ((g9 12), .inr (3, [.int 6, .int 5, .ref (g9 13), .int 0])), ((g9 13), .inl (xI G, 30, .inl (fun _ => 0))), ((g9 14), .inr (3, [.int 6, .int 6, .ref (g9 15), .int 0])), ((g9 15), .inl (xI G, 36, .inl (fun _ => 0))), ((g20 0), .inr (5, [.ref (g20 1), .ref (g20 4), .ref (g20 6), .ref (g20 8), .ref (g20 10), .ref (g20 12), .ref (g20 14)])), ((g20 1), .inr (0, [.ref (g20 2), .int 0])), ((g20 2), .inr (3, [.int 6, .int 6, .ref (g20 3), .int 0])), ((g20 3), .inl (xI G, 36, .inl (fun _ => 0))), ((g20 4), .inr (3, [.int 8, .int 37, .ref (g20 5), .int 0])), ((g20 5), .inl (xI G, 296, .inl (fun _ => 0))), ((g20 6), .inr (3, [.int 5, .int 1, .ref (g20 7), .int 5])), ((g20 7), .inl (xI G, 5, .inl (fun _ => 0))), ((g20 8), .inr (3, [.int 4, .int 1, .ref (g20 9), .int 0])), ((g20 9), .inl (xI G, 4, .inl (fun _ => 0))), ((g20 10), .inr (3, [.int 6, .int 2, .ref (g20 11), .int 0])), ((g20 11), .inl (xI G, 12, .inl (fun _ => 0))), ((g20 12), .inr (3, [.int 6, .int 5, .ref (g20 13), .int 0])), ((g20 13), .inl (xI G, 30, .inl (fun _ => 0))), ((g20 14), .inr (3, [.int 6, .int 6, .ref (g20 15), .int 0])), ((g20 15), .inl (xI G, 36, .inl (fun _ => 0))), ((g31 0), .inr (5, [.ref (g31 1), .ref (g31 4), .ref (g31 6), .ref (g31 8), .ref (g31 10), .ref (g31 12), .ref (g31 14)])), ((g31 1), .inr (0, [.ref (g31 2), .int 0])), ((g31 2), .inr (3, [.int 6, .int 6, .ref (g31 3), .int 0])), ((g31 3), .inl (xI G, 36, .inl (fun _ => 0))), ((g31 4), .inr (3, [.int 8, .int 37, .ref (g31 5), .int 0])), ((g31 5), .inl (xI G, 296, .inl (fun _ => 0))), ((g31 6), .inr (3, [.int 5, .int 1, .ref (g31 7), .int 5])), ((g31 7), .inl (xI G, 5, .inl (fun _ => 0))), ((g31 8), .inr (3, [.int 4, .int 1, .ref (g31 9), .int 0])), ((g31 9), .inl (xI G, 4, .inl (fun _ => 0))), ((g31 10), .inr (3, [.int 6, .int 2, .ref (g31 11), .int 0])), ((g31 11), .inl (xI G, 12, .inl (fun _ => 0))), ((g31 12), .inr (3, [.int 6, .int 5, .ref (g31 13), .int 0])), ((g31 13), .inl (xI G, 30, .inl (fun _ => 0))), ((g31 14), .inr (3, [.int 6, .int 6, .ref (g31 15), .int 0])), ((g31 15), .inl (xI G, 36, .inl (fun _ => 0))), ((g42 0), .inr (0, [.ref (g42 1), .int 0])), ((g42 1), .inr (3, [.int 6, .int 6, .ref (g42 2), .int 0])), ((g42 2), .inl (xI G, 36, .inl (fun _ => 0))), ((g57 0), .inr (3, [.int (150 : Int32), .int (1 : Int32), .ref (g57 1), .int 0])), ((g57 1), .inl (xI G, 150, .inl (fun _ => 0))), ((g68 0), .inr (2, [.ref (g68 1), .ref (g68 4), .int 0, .int 0, .int 0])), ((g68 1), .inr (4, [.ref (g68 2), .int 0])), ((g68 2), .inr (3, [.int 151, .int 3, .ref (g68 3), .int 0])), ((g68 3), .inl (xI G, 453, .inl (fun _ => 0))), ((g68 4), .inr (5, [.ref (g68 5), .ref (g68 8), .ref (g68 10), .ref (g68 12), .ref (g68 14), .ref (g68 16), .ref (g68 18)])), ((g68 5), .inr (0, [.ref (g68 6), .int 0])), ((g68 6), .inr (3, [.int 6, .int 6, .ref (g68 7), .int 0])), ((g68 7), .inl (xI G, 36, .inl (fun _ => 0))), ((g68 8), .inr (3, [.int 8, .int 37, .ref (g68 9), .int 0])), ((g68 9), .inl (xI G, 296, .inl (fun _ => 0))), ((g68 10), .inr (3, [.int 5, .int 1, .ref (g68 11), .int 5])), ((g68 11), .inl (xI G, 5, .inl (fun _ => 0))), ((g68 12), .inr (3, [.int 4, .int 1, .ref (g68 13), .int 0])), ((g68 13), .inl (xI G, 4, .inl (fun _ => 0))), ((g68 14), .inr (3, [.int 6, .int 2, .ref (g68 15), .int 0])), ((g68 15), .inl (xI G, 12, .inl (fun _ => 0))), ((g68 16), .inr (3, [.int 6, .int 5, .ref (g68 17), .int 0])), ((g68 17), .inl (xI G, 30, .inl (fun _ => 0))), ((g68 18), .inr (3, [.int 6, .int 6, .ref (g68 19), .int 0])), ((g68 19), .inl (xI G, 36, .inl (fun _ => 0))), ((g79 0), .inr (1, [.ref (g79 1), .ref (g79 3), .ref (g79 5), .int 0, .int 0])), ((g79 1), .inr (3, [.int 4, .int 64, .ref (g79 2), .int 0])), ((g79 2), .inl (xI G, 256, .inl (fun _ => 0))), ((g79 3), .inr (3, [.int 64, .int 1, .ref (g79 4), .int 0])), ((g79 4), .inl (xI G, 64, .inl (fun _ => 0))), ((g79 5), .inr (3, [.int 4, .int 1, .ref (g79 6), .int 0])), ((g79 6), .inl (xI G, 4, .inl (fun _ => 0))), ((g98 0), .inr (3, [.int (6 : Int32), .int (1 : Int32), .ref (g98 1), .int 0])), ((g98 1), .inl (xI G, 6, .inl (fun _ => 0))), ((g111 0), .inr (3, [.int (4 : Int32), .int (1 : Int32), .ref (g111 1), .int 0])), ((g111 1), .inl (xI G, 4, .inl (fun _ => 0)))]) rfl rfl ?_
  refine cR_putF 114 xcf6 8 0 (by decide) rfl rfl rfl rfl rfl rfl (Nat.le_of_ble_eq_true rfl) ([(h0, .inr (6, [.ref (g9 0), .ref (g20 0), .ref (g31 0), .ref (g42 0), .ref (g57 0), .ref (g68 0), .ref (g79 0), .ref (g98 0), .ref (g111 0), .int 0, .int 0, .long 0, .long 0, .int 0, .int 0, .int 0])), ((g9 0), .inr (5, [.ref (g9 1), .ref (g9 4), .ref (g9 6), .ref (g9 8), .ref (g9 10), .ref (g9 12), .ref (g9 14)])), ((g9 1), .inr (0, [.ref (g9 2), .int 0])), ((g9 2), .inr (3, [.int 6, .int 6, .ref (g9 3), .int 0])), ((g9 3), .inl (xI G, 36, .inl (fun _ => 0))), ((g9 4), .inr (3, [.int 8, .int 37, .ref (g9 5), .int 0])), ((g9 5), .inl (xI G, 296, .inl (fun _ => 0))), ((g9 6), .inr (3, [.int 5, .int 1, .ref (g9 7), .int 5])), ((g9 7), .inl (xI G, 5, .inl (fun _ => 0))), ((g9 8), .inr (3, [.int 4, .int 1, .ref (g9 9), .int 0])), ((g9 9), .inl (xI G, 4, .inl (fun _ => 0))), ((g9 10), .inr (3, [.int 6, .int 2, .ref (g9 11), .int 0])), ((g9 11), .inl (xI G, 12, .inl (fun _ => 0))), ((g9 12), .inr (3, [.int 6, .int 5, .ref (g9 13), .int 0])), ((g9 13), .inl (xI G, 30, .inl (fun _ => 0))), ((g9 14), .inr (3, [.int 6, .int 6, .ref (g9 15), .int 0])), ((g9 15), .inl (xI G, 36, .inl (fun _ => 0))), ((g20 0), .inr (5, [.ref (g20 1), .ref (g20 4), .ref (g20 6), .ref (g20 8), .ref (g20 10), .ref (g20 12), .ref (g20 14)])), ((g20 1), .inr (0, [.ref (g20 2), .int 0])), ((g20 2), .inr (3, [.int 6, .int 6, .ref (g20 3), .int 0])), ((g20 3), .inl (xI G, 36, .inl (fun _ => 0))), ((g20 4), .inr (3, [.int 8, .int 37, .ref (g20 5), .int 0])), ((g20 5), .inl (xI G, 296, .inl (fun _ => 0))), ((g20 6), .inr (3, [.int 5, .int 1, .ref (g20 7), .int 5])), ((g20 7), .inl (xI G, 5, .inl (fun _ => 0))), ((g20 8), .inr (3, [.int 4, .int 1, .ref (g20 9), .int 0])), ((g20 9), .inl (xI G, 4, .inl (fun _ => 0))), ((g20 10), .inr (3, [.int 6, .int 2, .ref (g20 11), .int 0])), ((g20 11), .inl (xI G, 12, .inl (fun _ => 0))), ((g20 12), .inr (3, [.int 6, .int 5, .ref (g20 13), .int 0])), ((g20 13), .inl (xI G, 30, .inl (fun _ => 0))), ((g20 14), .inr (3, [.int 6, .int 6, .ref (g20 15), .int 0])), ((g20 15), .inl (xI G, 36, .inl (fun _ => 0))), ((g31 0), .inr (5, [.ref (g31 1), .ref (g31 4), .ref (g31 6), .ref (g31 8), .ref (g31 10), .ref (g31 12), .ref (g31 14)])), ((g31 1), .inr (0, [.ref (g31 2), .int 0])), ((g31 2), .inr (3, [.int 6, .int 6, .ref (g31 3), .int 0])), ((g31 3), .inl (xI G, 36, .inl (fun _ => 0))), ((g31 4), .inr (3, [.int 8, .int 37, .ref (g31 5), .int 0])), ((g31 5), .inl (xI G, 296, .inl (fun _ => 0))), ((g31 6), .inr (3, [.int 5, .int 1, .ref (g31 7), .int 5])), ((g31 7), .inl (xI G, 5, .inl (fun _ => 0))), ((g31 8), .inr (3, [.int 4, .int 1, .ref (g31 9), .int 0])), ((g31 9), .inl (xI G, 4, .inl (fun _ => 0))), ((g31 10), .inr (3, [.int 6, .int 2, .ref (g31 11), .int 0])), ((g31 11), .inl (xI G, 12, .inl (fun _ => 0))), ((g31 12), .inr (3, [.int 6, .int 5, .ref (g31 13), .int 0])), ((g31 13), .inl (xI G, 30, .inl (fun _ => 0))), ((g31 14), .inr (3, [.int 6, .int 6, .ref (g31 15), .int 0])), ((g31 15), .inl (xI G, 36, .inl (fun _ => 0))), ((g42 0), .inr (0, [.ref (g42 1), .int 0])), ((g42 1), .inr (3, [.int 6, .int 6, .ref (g42 2), .int 0])), ((g42 2), .inl (xI G, 36, .inl (fun _ => 0))), ((g57 0), .inr (3, [.int (150 : Int32), .int (1 : Int32), .ref (g57 1), .int 0])), ((g57 1), .inl (xI G, 150, .inl (fun _ => 0))), ((g68 0), .inr (2, [.ref (g68 1), .ref (g68 4), .int 0, .int 0, .int 0])), ((g68 1), .inr (4, [.ref (g68 2), .int 0])), ((g68 2), .inr (3, [.int 151, .int 3, .ref (g68 3), .int 0])), ((g68 3), .inl (xI G, 453, .inl (fun _ => 0))), ((g68 4), .inr (5, [.ref (g68 5), .ref (g68 8), .ref (g68 10), .ref (g68 12), .ref (g68 14), .ref (g68 16), .ref (g68 18)])), ((g68 5), .inr (0, [.ref (g68 6), .int 0])), ((g68 6), .inr (3, [.int 6, .int 6, .ref (g68 7), .int 0])), ((g68 7), .inl (xI G, 36, .inl (fun _ => 0))), ((g68 8), .inr (3, [.int 8, .int 37, .ref (g68 9), .int 0])), ((g68 9), .inl (xI G, 296, .inl (fun _ => 0))), ((g68 10), .inr (3, [.int 5, .int 1, .ref (g68 11), .int 5])), ((g68 11), .inl (xI G, 5, .inl (fun _ => 0))), ((g68 12), .inr (3, [.int 4, .int 1, .ref (g68 13), .int 0])), ((g68 13), .inl (xI G, 4, .inl (fun _ => 0))), ((g68 14), .inr (3, [.int 6, .int 2, .ref (g68 15), .int 0])), ((g68 15), .inl (xI G, 12, .inl (fun _ => 0))), ((g68 16), .inr (3, [.int 6, .int 5, .ref (g68 17), .int 0])), ((g68 17), .inl (xI G, 30, .inl (fun _ => 0))), ((g68 18), .inr (3, [.int 6, .int 6, .ref (g68 19), .int 0])), ((g68 19), .inl (xI G, 36, .inl (fun _ => 0))), ((g79 0), .inr (1, [.ref (g79 1), .ref (g79 3), .ref (g79 5), .int 0, .int 0])), ((g79 1), .inr (3, [.int 4, .int 64, .ref (g79 2), .int 0])), ((g79 2), .inl (xI G, 256, .inl (fun _ => 0))), ((g79 3), .inr (3, [.int 64, .int 1, .ref (g79 4), .int 0])), ((g79 4), .inl (xI G, 64, .inl (fun _ => 0))), ((g79 5), .inr (3, [.int 4, .int 1, .ref (g79 6), .int 0])), ((g79 6), .inl (xI G, 4, .inl (fun _ => 0))), ((g98 0), .inr (3, [.int (6 : Int32), .int (1 : Int32), .ref (g98 1), .int 0])), ((g98 1), .inl (xI G, 6, .inl (fun _ => 0))), ((g111 0), .inr (3, [.int (4 : Int32), .int (1 : Int32), .ref (g111 1), .int 0])), ((g111 1), .inl (xI G, 4, .inl (fun _ => 0)))]) rfl fl_RX8_61 dH_init_114 ?_
  refine cR_aln 117 0 dH_init_117 rfl rfl ?_
  refine cR_lc 118 (1 : Int64) dH_init_118 (by decide) ?_
  refine cR_putf 119 xcf6 12 0 (by decide) rfl rfl rfl rfl (Nat.le_of_ble_eq_true rfl) ([(h0, .inr (6, [.ref (g9 0), .ref (g20 0), .ref (g31 0), .ref (g42 0), .ref (g57 0), .ref (g68 0), .ref (g79 0), .ref (g98 0), .ref (g111 0), .int 0, .int 0, .long 0, .long (1 : Int64), .int 0, .int 0, .int 0])), ((g9 0), .inr (5, [.ref (g9 1), .ref (g9 4), .ref (g9 6), .ref (g9 8), .ref (g9 10), .ref (g9 12), .ref (g9 14)])), ((g9 1), .inr (0, [.ref (g9 2), .int 0])), ((g9 2), .inr (3, [.int 6, .int 6, .ref (g9 3), .int 0])), ((g9 3), .inl (xI G, 36, .inl (fun _ => 0))), ((g9 4), .inr (3, [.int 8, .int 37, .ref (g9 5), .int 0])), ((g9 5), .inl (xI G, 296, .inl (fun _ => 0))), ((g9 6), .inr (3, [.int 5, .int 1, .ref (g9 7), .int 5])), ((g9 7), .inl (xI G, 5, .inl (fun _ => 0))), ((g9 8), .inr (3, [.int 4, .int 1, .ref (g9 9), .int 0])), ((g9 9), .inl (xI G, 4, .inl (fun _ => 0))), ((g9 10), .inr (3, [.int 6, .int 2, .ref (g9 11), .int 0])), ((g9 11), .inl (xI G, 12, .inl (fun _ => 0))), ((g9 12), .inr (3, [.int 6, .int 5, .ref (g9 13), .int 0])), ((g9 13), .inl (xI G, 30, .inl (fun _ => 0))), ((g9 14), .inr (3, [.int 6, .int 6, .ref (g9 15), .int 0])), ((g9 15), .inl (xI G, 36, .inl (fun _ => 0))), ((g20 0), .inr (5, [.ref (g20 1), .ref (g20 4), .ref (g20 6), .ref (g20 8), .ref (g20 10), .ref (g20 12), .ref (g20 14)])), ((g20 1), .inr (0, [.ref (g20 2), .int 0])), ((g20 2), .inr (3, [.int 6, .int 6, .ref (g20 3), .int 0])), ((g20 3), .inl (xI G, 36, .inl (fun _ => 0))), ((g20 4), .inr (3, [.int 8, .int 37, .ref (g20 5), .int 0])), ((g20 5), .inl (xI G, 296, .inl (fun _ => 0))), ((g20 6), .inr (3, [.int 5, .int 1, .ref (g20 7), .int 5])), ((g20 7), .inl (xI G, 5, .inl (fun _ => 0))), ((g20 8), .inr (3, [.int 4, .int 1, .ref (g20 9), .int 0])), ((g20 9), .inl (xI G, 4, .inl (fun _ => 0))), ((g20 10), .inr (3, [.int 6, .int 2, .ref (g20 11), .int 0])), ((g20 11), .inl (xI G, 12, .inl (fun _ => 0))), ((g20 12), .inr (3, [.int 6, .int 5, .ref (g20 13), .int 0])), ((g20 13), .inl (xI G, 30, .inl (fun _ => 0))), ((g20 14), .inr (3, [.int 6, .int 6, .ref (g20 15), .int 0])), ((g20 15), .inl (xI G, 36, .inl (fun _ => 0))), ((g31 0), .inr (5, [.ref (g31 1), .ref (g31 4), .ref (g31 6), .ref (g31 8), .ref (g31 10), .ref (g31 12), .ref (g31 14)])), ((g31 1), .inr (0, [.ref (g31 2), .int 0])), ((g31 2), .inr (3, [.int 6, .int 6, .ref (g31 3), .int 0])), ((g31 3), .inl (xI G, 36, .inl (fun _ => 0))), ((g31 4), .inr (3, [.int 8, .int 37, .ref (g31 5), .int 0])), ((g31 5), .inl (xI G, 296, .inl (fun _ => 0))), ((g31 6), .inr (3, [.int 5, .int 1, .ref (g31 7), .int 5])), ((g31 7), .inl (xI G, 5, .inl (fun _ => 0))), ((g31 8), .inr (3, [.int 4, .int 1, .ref (g31 9), .int 0])), ((g31 9), .inl (xI G, 4, .inl (fun _ => 0))), ((g31 10), .inr (3, [.int 6, .int 2, .ref (g31 11), .int 0])), ((g31 11), .inl (xI G, 12, .inl (fun _ => 0))), ((g31 12), .inr (3, [.int 6, .int 5, .ref (g31 13), .int 0])), ((g31 13), .inl (xI G, 30, .inl (fun _ => 0))), ((g31 14), .inr (3, [.int 6, .int 6, .ref (g31 15), .int 0])), ((g31 15), .inl (xI G, 36, .inl (fun _ => 0))), ((g42 0), .inr (0, [.ref (g42 1), .int 0])), ((g42 1), .inr (3, [.int 6, .int 6, .ref (g42 2), .int 0])), ((g42 2), .inl (xI G, 36, .inl (fun _ => 0))), ((g57 0), .inr (3, [.int (150 : Int32), .int (1 : Int32), .ref (g57 1), .int 0])), ((g57 1), .inl (xI G, 150, .inl (fun _ => 0))), ((g68 0), .inr (2, [.ref (g68 1), .ref (g68 4), .int 0, .int 0, .int 0])), ((g68 1), .inr (4, [.ref (g68 2), .int 0])), ((g68 2), .inr (3, [.int 151, .int 3, .ref (g68 3), .int 0])), ((g68 3), .inl (xI G, 453, .inl (fun _ => 0))), ((g68 4), .inr (5, [.ref (g68 5), .ref (g68 8), .ref (g68 10), .ref (g68 12), .ref (g68 14), .ref (g68 16), .ref (g68 18)])), ((g68 5), .inr (0, [.ref (g68 6), .int 0])), ((g68 6), .inr (3, [.int 6, .int 6, .ref (g68 7), .int 0])), ((g68 7), .inl (xI G, 36, .inl (fun _ => 0))), ((g68 8), .inr (3, [.int 8, .int 37, .ref (g68 9), .int 0])), ((g68 9), .inl (xI G, 296, .inl (fun _ => 0))), ((g68 10), .inr (3, [.int 5, .int 1, .ref (g68 11), .int 5])), ((g68 11), .inl (xI G, 5, .inl (fun _ => 0))), ((g68 12), .inr (3, [.int 4, .int 1, .ref (g68 13), .int 0])), ((g68 13), .inl (xI G, 4, .inl (fun _ => 0))), ((g68 14), .inr (3, [.int 6, .int 2, .ref (g68 15), .int 0])), ((g68 15), .inl (xI G, 12, .inl (fun _ => 0))), ((g68 16), .inr (3, [.int 6, .int 5, .ref (g68 17), .int 0])), ((g68 17), .inl (xI G, 30, .inl (fun _ => 0))), ((g68 18), .inr (3, [.int 6, .int 6, .ref (g68 19), .int 0])), ((g68 19), .inl (xI G, 36, .inl (fun _ => 0))), ((g79 0), .inr (1, [.ref (g79 1), .ref (g79 3), .ref (g79 5), .int 0, .int 0])), ((g79 1), .inr (3, [.int 4, .int 64, .ref (g79 2), .int 0])), ((g79 2), .inl (xI G, 256, .inl (fun _ => 0))), ((g79 3), .inr (3, [.int 64, .int 1, .ref (g79 4), .int 0])), ((g79 4), .inl (xI G, 64, .inl (fun _ => 0))), ((g79 5), .inr (3, [.int 4, .int 1, .ref (g79 6), .int 0])), ((g79 6), .inl (xI G, 4, .inl (fun _ => 0))), ((g98 0), .inr (3, [.int (6 : Int32), .int (1 : Int32), .ref (g98 1), .int 0])), ((g98 1), .inl (xI G, 6, .inl (fun _ => 0))), ((g111 0), .inr (3, [.int (4 : Int32), .int (1 : Int32), .ref (g111 1), .int 0])), ((g111 1), .inl (xI G, 4, .inl (fun _ => 0)))]) rfl fl_RX8_64 dH_init_119 ?_
  refine cR_world [0, 1, 2, 3, 4, 5, 6, 7, 8, 9, 10, 11, 12, 13, 14, 15, 16, 17, 18, 19, 20, 21, 22, 23, 24, 25, 26, 27, 28, 29, 30, 31, 32, 33, 34, 35, 36, 37, 38, 39, 40, 41, 42, 43, 44, 45, 46, 47, 48, 49, 50, 51, 52, 53, 54, 55, 56, 57, 58, 59, 60, 61, 62, 63, 64, 65, 66, 67, 68, 69, 70, 71, 72, 73, 74, 75, 76, 77, 78, 79, 80, 81, 82, 83, 84] ([(h0, .inr (6, [.ref (g9 0), .ref (g20 0), .ref (g31 0), .ref (g42 0), .ref (g57 0), .ref (g68 0), .ref (g79 0), .ref (g98 0), .ref (g111 0), .int 0, .int 0, .long 0, .long (1 : Int64), .int 0, .int 0, .int 0])), ((g9 0), .inr (5, [.ref (g9 1), .ref (g9 4), .ref (g9 6), .ref (g9 8), .ref (g9 10), .ref (g9 12), .ref (g9 14)])), ((g9 1), .inr (0, [.ref (g9 2), .int 0])), ((g9 2), .inr (3, [.int 6, .int 6, .ref (g9 3), .int 0])), ((g9 3), .inl (xI G, 36, .inl (fun _ => 0))), ((g9 4), .inr (3, [.int 8, .int 37, .ref (g9 5), .int 0])), ((g9 5), .inl (xI G, 296, .inl (fun _ => 0))), ((g9 6), .inr (3, [.int 5, .int 1, .ref (g9 7), .int 5])), ((g9 7), .inl (xI G, 5, .inl (fun _ => 0))), ((g9 8), .inr (3, [.int 4, .int 1, .ref (g9 9), .int 0])), ((g9 9), .inl (xI G, 4, .inl (fun _ => 0))), ((g9 10), .inr (3, [.int 6, .int 2, .ref (g9 11), .int 0])), ((g9 11), .inl (xI G, 12, .inl (fun _ => 0))), ((g9 12), .inr (3, [.int 6, .int 5, .ref (g9 13), .int 0])), ((g9 13), .inl (xI G, 30, .inl (fun _ => 0))), ((g9 14), .inr (3, [.int 6, .int 6, .ref (g9 15), .int 0])), ((g9 15), .inl (xI G, 36, .inl (fun _ => 0))), ((g20 0), .inr (5, [.ref (g20 1), .ref (g20 4), .ref (g20 6), .ref (g20 8), .ref (g20 10), .ref (g20 12), .ref (g20 14)])), ((g20 1), .inr (0, [.ref (g20 2), .int 0])), ((g20 2), .inr (3, [.int 6, .int 6, .ref (g20 3), .int 0])), ((g20 3), .inl (xI G, 36, .inl (fun _ => 0))), ((g20 4), .inr (3, [.int 8, .int 37, .ref (g20 5), .int 0])), ((g20 5), .inl (xI G, 296, .inl (fun _ => 0))), ((g20 6), .inr (3, [.int 5, .int 1, .ref (g20 7), .int 5])), ((g20 7), .inl (xI G, 5, .inl (fun _ => 0))), ((g20 8), .inr (3, [.int 4, .int 1, .ref (g20 9), .int 0])), ((g20 9), .inl (xI G, 4, .inl (fun _ => 0))), ((g20 10), .inr (3, [.int 6, .int 2, .ref (g20 11), .int 0])), ((g20 11), .inl (xI G, 12, .inl (fun _ => 0))), ((g20 12), .inr (3, [.int 6, .int 5, .ref (g20 13), .int 0])), ((g20 13), .inl (xI G, 30, .inl (fun _ => 0))), ((g20 14), .inr (3, [.int 6, .int 6, .ref (g20 15), .int 0])), ((g20 15), .inl (xI G, 36, .inl (fun _ => 0))), ((g31 0), .inr (5, [.ref (g31 1), .ref (g31 4), .ref (g31 6), .ref (g31 8), .ref (g31 10), .ref (g31 12), .ref (g31 14)])), ((g31 1), .inr (0, [.ref (g31 2), .int 0])), ((g31 2), .inr (3, [.int 6, .int 6, .ref (g31 3), .int 0])), ((g31 3), .inl (xI G, 36, .inl (fun _ => 0))), ((g31 4), .inr (3, [.int 8, .int 37, .ref (g31 5), .int 0])), ((g31 5), .inl (xI G, 296, .inl (fun _ => 0))), ((g31 6), .inr (3, [.int 5, .int 1, .ref (g31 7), .int 5])), ((g31 7), .inl (xI G, 5, .inl (fun _ => 0))), ((g31 8), .inr (3, [.int 4, .int 1, .ref (g31 9), .int 0])), ((g31 9), .inl (xI G, 4, .inl (fun _ => 0))), ((g31 10), .inr (3, [.int 6, .int 2, .ref (g31 11), .int 0])), ((g31 11), .inl (xI G, 12, .inl (fun _ => 0))), ((g31 12), .inr (3, [.int 6, .int 5, .ref (g31 13), .int 0])), ((g31 13), .inl (xI G, 30, .inl (fun _ => 0))), ((g31 14), .inr (3, [.int 6, .int 6, .ref (g31 15), .int 0])), ((g31 15), .inl (xI G, 36, .inl (fun _ => 0))), ((g42 0), .inr (0, [.ref (g42 1), .int 0])), ((g42 1), .inr (3, [.int 6, .int 6, .ref (g42 2), .int 0])), ((g42 2), .inl (xI G, 36, .inl (fun _ => 0))), ((g57 0), .inr (3, [.int (150 : Int32), .int (1 : Int32), .ref (g57 1), .int 0])), ((g57 1), .inl (xI G, 150, .inl (fun _ => 0))), ((g68 0), .inr (2, [.ref (g68 1), .ref (g68 4), .int 0, .int 0, .int 0])), ((g68 1), .inr (4, [.ref (g68 2), .int 0])), ((g68 2), .inr (3, [.int 151, .int 3, .ref (g68 3), .int 0])), ((g68 3), .inl (xI G, 453, .inl (fun _ => 0))), ((g68 4), .inr (5, [.ref (g68 5), .ref (g68 8), .ref (g68 10), .ref (g68 12), .ref (g68 14), .ref (g68 16), .ref (g68 18)])), ((g68 5), .inr (0, [.ref (g68 6), .int 0])), ((g68 6), .inr (3, [.int 6, .int 6, .ref (g68 7), .int 0])), ((g68 7), .inl (xI G, 36, .inl (fun _ => 0))), ((g68 8), .inr (3, [.int 8, .int 37, .ref (g68 9), .int 0])), ((g68 9), .inl (xI G, 296, .inl (fun _ => 0))), ((g68 10), .inr (3, [.int 5, .int 1, .ref (g68 11), .int 5])), ((g68 11), .inl (xI G, 5, .inl (fun _ => 0))), ((g68 12), .inr (3, [.int 4, .int 1, .ref (g68 13), .int 0])), ((g68 13), .inl (xI G, 4, .inl (fun _ => 0))), ((g68 14), .inr (3, [.int 6, .int 2, .ref (g68 15), .int 0])), ((g68 15), .inl (xI G, 12, .inl (fun _ => 0))), ((g68 16), .inr (3, [.int 6, .int 5, .ref (g68 17), .int 0])), ((g68 17), .inl (xI G, 30, .inl (fun _ => 0))), ((g68 18), .inr (3, [.int 6, .int 6, .ref (g68 19), .int 0])), ((g68 19), .inl (xI G, 36, .inl (fun _ => 0))), ((g79 0), .inr (1, [.ref (g79 1), .ref (g79 3), .ref (g79 5), .int 0, .int 0])), ((g79 1), .inr (3, [.int 4, .int 64, .ref (g79 2), .int 0])), ((g79 2), .inl (xI G, 256, .inl (fun _ => 0))), ((g79 3), .inr (3, [.int 64, .int 1, .ref (g79 4), .int 0])), ((g79 4), .inl (xI G, 64, .inl (fun _ => 0))), ((g79 5), .inr (3, [.int 4, .int 1, .ref (g79 6), .int 0])), ((g79 6), .inl (xI G, 4, .inl (fun _ => 0))), ((g98 0), .inr (3, [.int (6 : Int32), .int (1 : Int32), .ref (g98 1), .int 0])), ((g98 1), .inl (xI G, 6, .inl (fun _ => 0))), ((g111 0), .inr (3, [.int (4 : Int32), .int (1 : Int32), .ref (g111 1), .int 0])), ((g111 1), .inl (xI G, 4, .inl (fun _ => 0)))]) rfl rfl ?_
  exact cR_vret 122 rfl rfl ⟨Nat.le_of_ble_eq_true rfl, Nat.le_of_ble_eq_true rfl⟩ ⟨fun k => [h0, (g9 0), (g9 1), (g9 2), (g9 3), (g9 4), (g9 5), (g9 6), (g9 7), (g9 8), (g9 9), (g9 10), (g9 11), (g9 12), (g9 13), (g9 14), (g9 15), (g20 0), (g20 1), (g20 2), (g20 3), (g20 4), (g20 5), (g20 6), (g20 7), (g20 8), (g20 9), (g20 10), (g20 11), (g20 12), (g20 13), (g20 14), (g20 15), (g31 0), (g31 1), (g31 2), (g31 3), (g31 4), (g31 5), (g31 6), (g31 7), (g31 8), (g31 9), (g31 10), (g31 11), (g31 12), (g31 13), (g31 14), (g31 15), (g42 0), (g42 1), (g42 2), (g57 0), (g57 1), (g68 0), (g68 1), (g68 2), (g68 3), (g68 4), (g68 5), (g68 6), (g68 7), (g68 8), (g68 9), (g68 10), (g68 11), (g68 12), (g68 13), (g68 14), (g68 15), (g68 16), (g68 17), (g68 18), (g68 19), (g79 0), (g79 1), (g79 2), (g79 3), (g79 4), (g79 5), (g79 6), (g98 0), (g98 1), (g111 0), (g111 1)].getD k 0, rfl, rfl⟩ dH_init_122
set_option maxRecDepth 100000 in
set_option maxHeartbeats 4000000 in
theorem cM_init (G : xG) (h0 : Nat) : cCt G yyM_init 6 1919 [.ref h0] [(h0, .inr (7, [.null, .null, .null, .int 0, .long 0, .long 0, .null, .int 0, .int 0, .int 0, .null, .null, .long 0]))] none (fun w => ∃ f : Nat → Nat, f 0 = h0 ∧ w = wlM G f) := by
  refine cCt_of rfl (Nat.le_of_ble_eq_true rfl) ?_
  show cR G yyM_init 6 1919 _ _ 0 [(0, .ref h0)] [] _ 0 0
  refine cR_aln 0 0 dM_init_0 rfl rfl ?_
  refine cR_oinit 1 ml_RX9_1 oi_in oi_co ⟨Nat.le_of_ble_eq_true rfl, Nat.le_of_ble_eq_true rfl⟩ dM_init_1 ?_
  refine cR_aln 4 0 dM_init_4 rfl rfl ?_
  refine cR_sp 5 (1752 : Int32) dM_init_5 (by decide) ?_
  refine cR_newI 8 (N := 1752) ka_int (by decide) (by decide) (by decide) ⟨Nat.le_of_ble_eq_true rfl, Nat.le_of_ble_eq_true rfl⟩ dM_init_8 (fun q8 => ?_)
  refine cR_putF 10 xcf7 0 0 (by decide) rfl rfl rfl rfl rfl rfl (Nat.le_of_ble_eq_true rfl) ([(h0, .inr (7, [.ref q8, .null, .null, .int 0, .long 0, .long 0, .null, .int 0, .int 0, .int 0, .null, .null, .long 0])), (q8, .inl (xI G, 1752, .inl (fun _ => 0)))]) rfl fl_RX9_7 dM_init_10 ?_
  refine cR_aln 13 0 dM_init_13 rfl rfl ?_
  refine cR_ic 14 (2 : Int32) dM_init_14 (by decide) ?_
  refine cR_newZ 15 (N := 2) ka_boolean (by decide) (by decide) (by decide) ⟨Nat.le_of_ble_eq_true rfl, Nat.le_of_ble_eq_true rfl⟩ dM_init_15 (fun q15 => ?_)
  refine cR_putF 17 xcf7 1 0 (by decide) rfl rfl rfl rfl rfl rfl (Nat.le_of_ble_eq_true rfl) ([(h0, .inr (7, [.ref q8, .ref q15, .null, .int 0, .long 0, .long 0, .null, .int 0, .int 0, .int 0, .null, .null, .long 0])), (q8, .inl (xI G, 1752, .inl (fun _ => 0))), (q15, .inl (xZ G, 2, .inl (fun _ => 0)))]) rfl fl_RX9_13 dM_init_17 ?_
  refine cR_aln 20 0 dM_init_20 rfl rfl ?_
  refine cR_sp 21 (150 : Int32) dM_init_21 (by decide) ?_
  refine cR_newI 24 (N := 150) ka_int (by decide) (by decide) (by decide) ⟨Nat.le_of_ble_eq_true rfl, Nat.le_of_ble_eq_true rfl⟩ dM_init_24 (fun q24 => ?_)
  refine cR_putF 26 xcf7 2 0 (by decide) rfl rfl rfl rfl rfl rfl (Nat.le_of_ble_eq_true rfl) ([(h0, .inr (7, [.ref q8, .ref q15, .ref q24, .int 0, .long 0, .long 0, .null, .int 0, .int 0, .int 0, .null, .null, .long 0])), (q8, .inl (xI G, 1752, .inl (fun _ => 0))), (q15, .inl (xZ G, 2, .inl (fun _ => 0))), (q24, .inl (xI G, 150, .inl (fun _ => 0)))]) rfl fl_RX9_17 dM_init_26 ?_
  refine cR_aln 29 0 dM_init_29 rfl rfl ?_
  refine cR_lc 30 (0 : Int64) dM_init_30 (by decide) ?_
  refine cR_putf 31 xcf7 4 0 (by decide) rfl rfl rfl rfl (Nat.le_of_ble_eq_true rfl) ([(h0, .inr (7, [.ref q8, .ref q15, .ref q24, .int 0, .long (0 : Int64), .long 0, .null, .int 0, .int 0, .int 0, .null, .null, .long 0])), (q8, .inl (xI G, 1752, .inl (fun _ => 0))), (q15, .inl (xZ G, 2, .inl (fun _ => 0))), (q24, .inl (xI G, 150, .inl (fun _ => 0)))]) rfl fl_RX9_20 dM_init_31 ?_
  refine cR_aln 34 0 dM_init_34 rfl rfl ?_
  refine cR_lc 35 (1 : Int64) dM_init_35 (by decide) ?_
  refine cR_putf 36 xcf7 5 0 (by decide) rfl rfl rfl rfl (Nat.le_of_ble_eq_true rfl) ([(h0, .inr (7, [.ref q8, .ref q15, .ref q24, .int 0, .long (0 : Int64), .long (1 : Int64), .null, .int 0, .int 0, .int 0, .null, .null, .long 0])), (q8, .inl (xI G, 1752, .inl (fun _ => 0))), (q15, .inl (xZ G, 2, .inl (fun _ => 0))), (q24, .inl (xI G, 150, .inl (fun _ => 0)))]) rfl fl_RX9_24 dM_init_36 ?_
  refine cR_aln 39 0 dM_init_39 rfl rfl ?_
  refine cR_ic 40 (3 : Int32) dM_init_40 (by decide) ?_
  refine cR_newI 41 (N := 3) ka_int (by decide) (by decide) (by decide) ⟨Nat.le_of_ble_eq_true rfl, Nat.le_of_ble_eq_true rfl⟩ dM_init_41 (fun q41 => ?_)
  refine cR_putF 43 xcf7 6 0 (by decide) rfl rfl rfl rfl rfl rfl (Nat.le_of_ble_eq_true rfl) ([(h0, .inr (7, [.ref q8, .ref q15, .ref q24, .int 0, .long (0 : Int64), .long (1 : Int64), .ref q41, .int 0, .int 0, .int 0, .null, .null, .long 0])), (q8, .inl (xI G, 1752, .inl (fun _ => 0))), (q15, .inl (xZ G, 2, .inl (fun _ => 0))), (q24, .inl (xI G, 150, .inl (fun _ => 0))), (q41, .inl (xI G, 3, .inl (fun _ => 0)))]) rfl fl_RX9_27 dM_init_43 ?_
  refine cR_aln 46 0 dM_init_46 rfl rfl ?_
  refine cR_bp 47 (6 : Int32) dM_init_47 (by decide) ?_
  refine cR_newI 49 (N := 6) ka_int (by decide) (by decide) (by decide) ⟨Nat.le_of_ble_eq_true rfl, Nat.le_of_ble_eq_true rfl⟩ dM_init_49 (fun q49 => ?_)
  refine cR_putF 51 xcf7 10 0 (by decide) rfl rfl rfl rfl rfl rfl (Nat.le_of_ble_eq_true rfl) ([(h0, .inr (7, [.ref q8, .ref q15, .ref q24, .int 0, .long (0 : Int64), .long (1 : Int64), .ref q41, .int 0, .int 0, .int 0, .ref q49, .null, .long 0])), (q8, .inl (xI G, 1752, .inl (fun _ => 0))), (q15, .inl (xZ G, 2, .inl (fun _ => 0))), (q24, .inl (xI G, 150, .inl (fun _ => 0))), (q41, .inl (xI G, 3, .inl (fun _ => 0))), (q49, .inl (xI G, 6, .inl (fun _ => 0)))]) rfl fl_RX9_30 dM_init_51 ?_
  refine cR_aln 54 0 dM_init_54 rfl rfl ?_
  refine cR_bp 55 (6 : Int32) dM_init_55 (by decide) ?_
  refine cR_newI 57 (N := 6) ka_int (by decide) (by decide) (by decide) ⟨Nat.le_of_ble_eq_true rfl, Nat.le_of_ble_eq_true rfl⟩ dM_init_57 (fun q57 => ?_)
  refine cR_putF 59 xcf7 11 0 (by decide) rfl rfl rfl rfl rfl rfl (Nat.le_of_ble_eq_true rfl) ([(h0, .inr (7, [.ref q8, .ref q15, .ref q24, .int 0, .long (0 : Int64), .long (1 : Int64), .ref q41, .int 0, .int 0, .int 0, .ref q49, .ref q57, .long 0])), (q8, .inl (xI G, 1752, .inl (fun _ => 0))), (q15, .inl (xZ G, 2, .inl (fun _ => 0))), (q24, .inl (xI G, 150, .inl (fun _ => 0))), (q41, .inl (xI G, 3, .inl (fun _ => 0))), (q49, .inl (xI G, 6, .inl (fun _ => 0))), (q57, .inl (xI G, 6, .inl (fun _ => 0)))]) rfl fl_RX9_33 dM_init_59 ?_
  refine cR_aln 62 0 dM_init_62 rfl rfl ?_
  refine cR_ic 63 (0 : Int32) dM_init_63 (by decide) ?_
  refine cR_putf 64 xcf7 3 0 (by decide) rfl rfl rfl rfl (Nat.le_of_ble_eq_true rfl) ([(h0, .inr (7, [.ref q8, .ref q15, .ref q24, .int (0 : Int32), .long (0 : Int64), .long (1 : Int64), .ref q41, .int 0, .int 0, .int 0, .ref q49, .ref q57, .long 0])), (q8, .inl (xI G, 1752, .inl (fun _ => 0))), (q15, .inl (xZ G, 2, .inl (fun _ => 0))), (q24, .inl (xI G, 150, .inl (fun _ => 0))), (q41, .inl (xI G, 3, .inl (fun _ => 0))), (q49, .inl (xI G, 6, .inl (fun _ => 0))), (q57, .inl (xI G, 6, .inl (fun _ => 0)))]) rfl fl_RX9_36 dM_init_64 ?_
  refine cR_world [0, 1, 2, 3, 4, 5, 6] ([(h0, .inr (7, [.ref q8, .ref q15, .ref q24, .int (0 : Int32), .long (0 : Int64), .long (1 : Int64), .ref q41, .int 0, .int 0, .int 0, .ref q49, .ref q57, .long 0])), (q8, .inl (xI G, 1752, .inl (fun _ => 0))), (q15, .inl (xZ G, 2, .inl (fun _ => 0))), (q24, .inl (xI G, 150, .inl (fun _ => 0))), (q41, .inl (xI G, 3, .inl (fun _ => 0))), (q49, .inl (xI G, 6, .inl (fun _ => 0))), (q57, .inl (xI G, 6, .inl (fun _ => 0)))]) rfl rfl ?_
  exact cR_vret 67 rfl rfl ⟨Nat.le_of_ble_eq_true rfl, Nat.le_of_ble_eq_true rfl⟩ ⟨fun k => [h0, q8, q15, q24, q41, q49, q57].getD k 0, rfl, rfl⟩ dM_init_67
end
