section
-- ===== PART A: goes FIRST, ahead of the names: the tables' words, and 'selects' of the private methods out of them =====
/-- a private method of a class that the tables say can be made, by its rows of tables_1 -/
def lw_okq (q : MethodName × Nat) : Prop := (q.1.cls ≠ "java/lang/invoke/MethodHandle" ∧ q.1.cls ≠ "java/lang/invoke/VarHandle") ∧ Cond.instantiable q.1.cls q.2 ∈ tables_1 ∧ Cond.privateMethod q.1 ∈ tables_1 ∧ Cond.instanceMethod q.1 ∈ tables_1
theorem lw_p0 : lw_okq (⟨"SilenceCoin$TextReader", "readToken", "()Z"⟩, 11) := ⟨⟨by decide +kernel, by decide +kernel⟩, List.mem_of_getElem? (i := 43) (by decide +kernel), List.mem_of_getElem? (i := 334) (by decide +kernel), List.mem_of_getElem? (i := 335) (by decide +kernel)⟩
theorem lw_p1 : lw_okq (⟨"SilenceCoin$TextReader", "fail", "(II)Z"⟩, 11) := ⟨⟨by decide +kernel, by decide +kernel⟩, List.mem_of_getElem? (i := 43) (by decide +kernel), List.mem_of_getElem? (i := 341) (by decide +kernel), List.mem_of_getElem? (i := 342) (by decide +kernel)⟩
theorem lw_p2 : lw_okq (⟨"SilenceCoin$TextReader", "checkNamed", "()Z"⟩, 11) := ⟨⟨by decide +kernel, by decide +kernel⟩, List.mem_of_getElem? (i := 43) (by decide +kernel), List.mem_of_getElem? (i := 345) (by decide +kernel), List.mem_of_getElem? (i := 346) (by decide +kernel)⟩
theorem lw_p3 : lw_okq (⟨"SilenceCoin$TextReader", "readLine", "()Z"⟩, 11) := ⟨⟨by decide +kernel, by decide +kernel⟩, List.mem_of_getElem? (i := 43) (by decide +kernel), List.mem_of_getElem? (i := 361) (by decide +kernel), List.mem_of_getElem? (i := 362) (by decide +kernel)⟩
theorem lw_p4 : lw_okq (⟨"SilenceCoin$TextReader", "isName", "(Ljava/lang/String;)Z"⟩, 11) := ⟨⟨by decide +kernel, by decide +kernel⟩, List.mem_of_getElem? (i := 43) (by decide +kernel), List.mem_of_getElem? (i := 366) (by decide +kernel), List.mem_of_getElem? (i := 367) (by decide +kernel)⟩
theorem lw_p5 : lw_okq (⟨"SilenceCoin$TextReader", "readLaw", "()Z"⟩, 11) := ⟨⟨by decide +kernel, by decide +kernel⟩, List.mem_of_getElem? (i := 43) (by decide +kernel), List.mem_of_getElem? (i := 418) (by decide +kernel), List.mem_of_getElem? (i := 419) (by decide +kernel)⟩
theorem lw_p6 : lw_okq (⟨"SilenceCoin$TextReader", "readNumber", "(II)Z"⟩, 11) := ⟨⟨by decide +kernel, by decide +kernel⟩, List.mem_of_getElem? (i := 43) (by decide +kernel), List.mem_of_getElem? (i := 422) (by decide +kernel), List.mem_of_getElem? (i := 423) (by decide +kernel)⟩
theorem lw_p7 : lw_okq (⟨"SilenceCoin$TextReader", "readStop", "()Z"⟩, 11) := ⟨⟨by decide +kernel, by decide +kernel⟩, List.mem_of_getElem? (i := 43) (by decide +kernel), List.mem_of_getElem? (i := 426) (by decide +kernel), List.mem_of_getElem? (i := 427) (by decide +kernel)⟩
theorem lw_p8 : lw_okq (⟨"SilenceCoin$TextReader", "checkStop", "()Z"⟩, 11) := ⟨⟨by decide +kernel, by decide +kernel⟩, List.mem_of_getElem? (i := 43) (by decide +kernel), List.mem_of_getElem? (i := 430) (by decide +kernel), List.mem_of_getElem? (i := 431) (by decide +kernel)⟩
theorem lw_p9 : lw_okq (⟨"SilenceCoin$TextReader", "readFee", "()Z"⟩, 11) := ⟨⟨by decide +kernel, by decide +kernel⟩, List.mem_of_getElem? (i := 43) (by decide +kernel), List.mem_of_getElem? (i := 435) (by decide +kernel), List.mem_of_getElem? (i := 436) (by decide +kernel)⟩
theorem lw_p10 : lw_okq (⟨"SilenceCoin$TextReader", "readOne", "()Z"⟩, 11) := ⟨⟨by decide +kernel, by decide +kernel⟩, List.mem_of_getElem? (i := 43) (by decide +kernel), List.mem_of_getElem? (i := 440) (by decide +kernel), List.mem_of_getElem? (i := 441) (by decide +kernel)⟩
theorem lw_p11 : lw_okq (⟨"SilenceCoin$TextReader", "kindNamed", "()I"⟩, 11) := ⟨⟨by decide +kernel, by decide +kernel⟩, List.mem_of_getElem? (i := 43) (by decide +kernel), List.mem_of_getElem? (i := 444) (by decide +kernel), List.mem_of_getElem? (i := 445) (by decide +kernel)⟩
theorem lw_p12 : lw_okq (⟨"SilenceCoin$TextReader", "readCoin", "()Z"⟩, 11) := ⟨⟨by decide +kernel, by decide +kernel⟩, List.mem_of_getElem? (i := 43) (by decide +kernel), List.mem_of_getElem? (i := 454) (by decide +kernel), List.mem_of_getElem? (i := 455) (by decide +kernel)⟩
theorem lw_p13 : lw_okq (⟨"SilenceCoin$TextReader", "readSpend", "()Z"⟩, 11) := ⟨⟨by decide +kernel, by decide +kernel⟩, List.mem_of_getElem? (i := 43) (by decide +kernel), List.mem_of_getElem? (i := 460) (by decide +kernel), List.mem_of_getElem? (i := 461) (by decide +kernel)⟩
theorem lw_p14 : lw_okq (⟨"SilenceCoin$TextReader", "readTalk", "()Z"⟩, 11) := ⟨⟨by decide +kernel, by decide +kernel⟩, List.mem_of_getElem? (i := 43) (by decide +kernel), List.mem_of_getElem? (i := 465) (by decide +kernel), List.mem_of_getElem? (i := 466) (by decide +kernel)⟩
theorem lw_p15 : lw_okq (⟨"SilenceCoin$Rumours", "knowersAfter", "(II)I"⟩, 5) := ⟨⟨by decide +kernel, by decide +kernel⟩, List.mem_of_getElem? (i := 186) (by decide +kernel), List.mem_of_getElem? (i := 609) (by decide +kernel), List.mem_of_getElem? (i := 610) (by decide +kernel)⟩
def lw_privs_1 : List (MethodName × Nat) := [(⟨"SilenceCoin$TextReader", "readToken", "()Z"⟩, 11), (⟨"SilenceCoin$TextReader", "fail", "(II)Z"⟩, 11), (⟨"SilenceCoin$TextReader", "checkNamed", "()Z"⟩, 11), (⟨"SilenceCoin$TextReader", "readLine", "()Z"⟩, 11), (⟨"SilenceCoin$TextReader", "isName", "(Ljava/lang/String;)Z"⟩, 11), (⟨"SilenceCoin$TextReader", "readLaw", "()Z"⟩, 11), (⟨"SilenceCoin$TextReader", "readNumber", "(II)Z"⟩, 11), (⟨"SilenceCoin$TextReader", "readStop", "()Z"⟩, 11), (⟨"SilenceCoin$TextReader", "checkStop", "()Z"⟩, 11), (⟨"SilenceCoin$TextReader", "readFee", "()Z"⟩, 11), (⟨"SilenceCoin$TextReader", "readOne", "()Z"⟩, 11), (⟨"SilenceCoin$TextReader", "kindNamed", "()I"⟩, 11), (⟨"SilenceCoin$TextReader", "readCoin", "()Z"⟩, 11), (⟨"SilenceCoin$TextReader", "readSpend", "()Z"⟩, 11), (⟨"SilenceCoin$TextReader", "readTalk", "()Z"⟩, 11), (⟨"SilenceCoin$Rumours", "knowersAfter", "(II)I"⟩, 5)]
theorem lw_r1 : ∀ q ∈ lw_privs_1, lw_okq q := List.forall_mem_cons.mpr ⟨lw_p0, List.forall_mem_cons.mpr ⟨lw_p1, List.forall_mem_cons.mpr ⟨lw_p2, List.forall_mem_cons.mpr ⟨lw_p3, List.forall_mem_cons.mpr ⟨lw_p4, List.forall_mem_cons.mpr ⟨lw_p5, List.forall_mem_cons.mpr ⟨lw_p6, List.forall_mem_cons.mpr ⟨lw_p7, List.forall_mem_cons.mpr ⟨lw_p8, List.forall_mem_cons.mpr ⟨lw_p9, List.forall_mem_cons.mpr ⟨lw_p10, List.forall_mem_cons.mpr ⟨lw_p11, List.forall_mem_cons.mpr ⟨lw_p12, List.forall_mem_cons.mpr ⟨lw_p13, List.forall_mem_cons.mpr ⟨lw_p14, List.forall_mem_cons.mpr ⟨lw_p15, fun _ h => absurd h List.not_mem_nil⟩⟩⟩⟩⟩⟩⟩⟩⟩⟩⟩⟩⟩⟩⟩⟩
theorem lw_p16 : lw_okq (⟨"SilenceCoin$Rumours", "comingTo", "(I)I"⟩, 5) := ⟨⟨by decide +kernel, by decide +kernel⟩, List.mem_of_getElem? (i := 186) (by decide +kernel), List.mem_of_getElem? (i := 615) (by decide +kernel), List.mem_of_getElem? (i := 616) (by decide +kernel)⟩
theorem lw_p17 : lw_okq (⟨"SilenceCoin$Rumours", "addSilence", "(II)V"⟩, 5) := ⟨⟨by decide +kernel, by decide +kernel⟩, List.mem_of_getElem? (i := 186) (by decide +kernel), List.mem_of_getElem? (i := 636) (by decide +kernel), List.mem_of_getElem? (i := 637) (by decide +kernel)⟩
theorem lw_p18 : lw_okq (⟨"SilenceCoin$Funeral", "giveFrom", "(II)V"⟩, 5) := ⟨⟨by decide +kernel, by decide +kernel⟩, List.mem_of_getElem? (i := 209) (by decide +kernel), List.mem_of_getElem? (i := 679) (by decide +kernel), List.mem_of_getElem? (i := 680) (by decide +kernel)⟩
theorem lw_p19 : lw_okq (⟨"SilenceCoin$Funeral", "needyOnes", "()I"⟩, 5) := ⟨⟨by decide +kernel, by decide +kernel⟩, List.mem_of_getElem? (i := 209) (by decide +kernel), List.mem_of_getElem? (i := 683) (by decide +kernel), List.mem_of_getElem? (i := 684) (by decide +kernel)⟩
theorem lw_p20 : lw_okq (⟨"SilenceCoin$Funeral", "takeAsBest", "(II)V"⟩, 5) := ⟨⟨by decide +kernel, by decide +kernel⟩, List.mem_of_getElem? (i := 209) (by decide +kernel), List.mem_of_getElem? (i := 688) (by decide +kernel), List.mem_of_getElem? (i := 689) (by decide +kernel)⟩
theorem lw_p21 : lw_okq (⟨"SilenceCoin$Funeral", "costTo", "(II)I"⟩, 5) := ⟨⟨by decide +kernel, by decide +kernel⟩, List.mem_of_getElem? (i := 209) (by decide +kernel), List.mem_of_getElem? (i := 694) (by decide +kernel), List.mem_of_getElem? (i := 695) (by decide +kernel)⟩
theorem lw_p22 : lw_okq (⟨"SilenceCoin$Town", "greatestUnspent", "(I)I"⟩, 15) := ⟨⟨by decide +kernel, by decide +kernel⟩, List.mem_of_getElem? (i := 49) (by decide +kernel), List.mem_of_getElem? (i := 706) (by decide +kernel), List.mem_of_getElem? (i := 707) (by decide +kernel)⟩
theorem lw_p23 : lw_okq (⟨"SilenceCoin$Hisses", "isAsTested", "(I)Z"⟩, 5) := ⟨⟨by decide +kernel, by decide +kernel⟩, List.mem_of_getElem? (i := 233) (by decide +kernel), List.mem_of_getElem? (i := 752) (by decide +kernel), List.mem_of_getElem? (i := 753) (by decide +kernel)⟩
theorem lw_p24 : lw_okq (⟨"SilenceCoinModel", "beginsText", "()V"⟩, 38) := ⟨⟨by decide +kernel, by decide +kernel⟩, List.mem_of_getElem? (i := 842) (by decide +kernel), List.mem_of_getElem? (i := 978) (by decide +kernel), List.mem_of_getElem? (i := 979) (by decide +kernel)⟩
theorem lw_p25 : lw_okq (⟨"SilenceCoinModel", "step", "()V"⟩, 38) := ⟨⟨by decide +kernel, by decide +kernel⟩, List.mem_of_getElem? (i := 842) (by decide +kernel), List.mem_of_getElem? (i := 982) (by decide +kernel), List.mem_of_getElem? (i := 983) (by decide +kernel)⟩
theorem lw_p26 : lw_okq (⟨"SilenceCoinModel", "byteAt", "(I)I"⟩, 38) := ⟨⟨by decide +kernel, by decide +kernel⟩, List.mem_of_getElem? (i := 842) (by decide +kernel), List.mem_of_getElem? (i := 986) (by decide +kernel), List.mem_of_getElem? (i := 987) (by decide +kernel)⟩
theorem lw_p27 : lw_okq (⟨"SilenceCoinModel", "fails", "(I)V"⟩, 38) := ⟨⟨by decide +kernel, by decide +kernel⟩, List.mem_of_getElem? (i := 842) (by decide +kernel), List.mem_of_getElem? (i := 994) (by decide +kernel), List.mem_of_getElem? (i := 995) (by decide +kernel)⟩
theorem lw_p28 : lw_okq (⟨"SilenceCoinModel", "readLine", "()V"⟩, 38) := ⟨⟨by decide +kernel, by decide +kernel⟩, List.mem_of_getElem? (i := 842) (by decide +kernel), List.mem_of_getElem? (i := 998) (by decide +kernel), List.mem_of_getElem? (i := 999) (by decide +kernel)⟩
theorem lw_p29 : lw_okq (⟨"SilenceCoinModel", "nameHere", "()I"⟩, 38) := ⟨⟨by decide +kernel, by decide +kernel⟩, List.mem_of_getElem? (i := 842) (by decide +kernel), List.mem_of_getElem? (i := 1002) (by decide +kernel), List.mem_of_getElem? (i := 1003) (by decide +kernel)⟩
theorem lw_p30 : lw_okq (⟨"SilenceCoinModel", "hasRoom", "(I)Z"⟩, 38) := ⟨⟨by decide +kernel, by decide +kernel⟩, List.mem_of_getElem? (i := 842) (by decide +kernel), List.mem_of_getElem? (i := 1007) (by decide +kernel), List.mem_of_getElem? (i := 1008) (by decide +kernel)⟩
theorem lw_p31 : lw_okq (⟨"SilenceCoinModel", "readOne", "()V"⟩, 38) := ⟨⟨by decide +kernel, by decide +kernel⟩, List.mem_of_getElem? (i := 842) (by decide +kernel), List.mem_of_getElem? (i := 1011) (by decide +kernel), List.mem_of_getElem? (i := 1012) (by decide +kernel)⟩
def lw_privs_2 : List (MethodName × Nat) := [(⟨"SilenceCoin$Rumours", "comingTo", "(I)I"⟩, 5), (⟨"SilenceCoin$Rumours", "addSilence", "(II)V"⟩, 5), (⟨"SilenceCoin$Funeral", "giveFrom", "(II)V"⟩, 5), (⟨"SilenceCoin$Funeral", "needyOnes", "()I"⟩, 5), (⟨"SilenceCoin$Funeral", "takeAsBest", "(II)V"⟩, 5), (⟨"SilenceCoin$Funeral", "costTo", "(II)I"⟩, 5), (⟨"SilenceCoin$Town", "greatestUnspent", "(I)I"⟩, 15), (⟨"SilenceCoin$Hisses", "isAsTested", "(I)Z"⟩, 5), (⟨"SilenceCoinModel", "beginsText", "()V"⟩, 38), (⟨"SilenceCoinModel", "step", "()V"⟩, 38), (⟨"SilenceCoinModel", "byteAt", "(I)I"⟩, 38), (⟨"SilenceCoinModel", "fails", "(I)V"⟩, 38), (⟨"SilenceCoinModel", "readLine", "()V"⟩, 38), (⟨"SilenceCoinModel", "nameHere", "()I"⟩, 38), (⟨"SilenceCoinModel", "hasRoom", "(I)Z"⟩, 38), (⟨"SilenceCoinModel", "readOne", "()V"⟩, 38)]
theorem lw_r2 : ∀ q ∈ lw_privs_2, lw_okq q := List.forall_mem_cons.mpr ⟨lw_p16, List.forall_mem_cons.mpr ⟨lw_p17, List.forall_mem_cons.mpr ⟨lw_p18, List.forall_mem_cons.mpr ⟨lw_p19, List.forall_mem_cons.mpr ⟨lw_p20, List.forall_mem_cons.mpr ⟨lw_p21, List.forall_mem_cons.mpr ⟨lw_p22, List.forall_mem_cons.mpr ⟨lw_p23, List.forall_mem_cons.mpr ⟨lw_p24, List.forall_mem_cons.mpr ⟨lw_p25, List.forall_mem_cons.mpr ⟨lw_p26, List.forall_mem_cons.mpr ⟨lw_p27, List.forall_mem_cons.mpr ⟨lw_p28, List.forall_mem_cons.mpr ⟨lw_p29, List.forall_mem_cons.mpr ⟨lw_p30, List.forall_mem_cons.mpr ⟨lw_p31, fun _ h => absurd h List.not_mem_nil⟩⟩⟩⟩⟩⟩⟩⟩⟩⟩⟩⟩⟩⟩⟩⟩
theorem lw_p32 : lw_okq (⟨"SilenceCoinModel", "other", "(III)I"⟩, 38) := ⟨⟨by decide +kernel, by decide +kernel⟩, List.mem_of_getElem? (i := 842) (by decide +kernel), List.mem_of_getElem? (i := 1015) (by decide +kernel), List.mem_of_getElem? (i := 1016) (by decide +kernel)⟩
theorem lw_p33 : lw_okq (⟨"SilenceCoinModel", "readCoin", "()V"⟩, 38) := ⟨⟨by decide +kernel, by decide +kernel⟩, List.mem_of_getElem? (i := 842) (by decide +kernel), List.mem_of_getElem? (i := 1019) (by decide +kernel), List.mem_of_getElem? (i := 1020) (by decide +kernel)⟩
theorem lw_p34 : lw_okq (⟨"SilenceCoinModel", "oneOf", "(I)I"⟩, 38) := ⟨⟨by decide +kernel, by decide +kernel⟩, List.mem_of_getElem? (i := 842) (by decide +kernel), List.mem_of_getElem? (i := 1023) (by decide +kernel), List.mem_of_getElem? (i := 1024) (by decide +kernel)⟩
theorem lw_p35 : lw_okq (⟨"SilenceCoinModel", "readTalk", "()V"⟩, 38) := ⟨⟨by decide +kernel, by decide +kernel⟩, List.mem_of_getElem? (i := 842) (by decide +kernel), List.mem_of_getElem? (i := 1027) (by decide +kernel), List.mem_of_getElem? (i := 1028) (by decide +kernel)⟩
theorem lw_p36 : lw_okq (⟨"SilenceCoinModel", "readMore", "(I)V"⟩, 38) := ⟨⟨by decide +kernel, by decide +kernel⟩, List.mem_of_getElem? (i := 842) (by decide +kernel), List.mem_of_getElem? (i := 1031) (by decide +kernel), List.mem_of_getElem? (i := 1032) (by decide +kernel)⟩
theorem lw_p37 : lw_okq (⟨"SilenceCoinModel", "feeNow", "()I"⟩, 38) := ⟨⟨by decide +kernel, by decide +kernel⟩, List.mem_of_getElem? (i := 842) (by decide +kernel), List.mem_of_getElem? (i := 1043) (by decide +kernel), List.mem_of_getElem? (i := 1044) (by decide +kernel)⟩
theorem lw_p38 : lw_okq (⟨"SilenceCoinModel", "isOne", "(I)Z"⟩, 38) := ⟨⟨by decide +kernel, by decide +kernel⟩, List.mem_of_getElem? (i := 842) (by decide +kernel), List.mem_of_getElem? (i := 1051) (by decide +kernel), List.mem_of_getElem? (i := 1052) (by decide +kernel)⟩
theorem lw_p39 : lw_okq (⟨"SilenceCoinModel", "isCoin", "(I)Z"⟩, 38) := ⟨⟨by decide +kernel, by decide +kernel⟩, List.mem_of_getElem? (i := 842) (by decide +kernel), List.mem_of_getElem? (i := 1060) (by decide +kernel), List.mem_of_getElem? (i := 1061) (by decide +kernel)⟩
theorem lw_p40 : lw_okq (⟨"SilenceCoinModel", "ownerOf", "(I)I"⟩, 38) := ⟨⟨by decide +kernel, by decide +kernel⟩, List.mem_of_getElem? (i := 842) (by decide +kernel), List.mem_of_getElem? (i := 1065) (by decide +kernel), List.mem_of_getElem? (i := 1066) (by decide +kernel)⟩
theorem lw_p41 : lw_okq (⟨"SilenceCoinModel", "lengthBy", "(II)I"⟩, 38) := ⟨⟨by decide +kernel, by decide +kernel⟩, List.mem_of_getElem? (i := 842) (by decide +kernel), List.mem_of_getElem? (i := 1069) (by decide +kernel), List.mem_of_getElem? (i := 1070) (by decide +kernel)⟩
theorem lw_p42 : lw_okq (⟨"SilenceCoinModel", "kindOf", "(I)I"⟩, 38) := ⟨⟨by decide +kernel, by decide +kernel⟩, List.mem_of_getElem? (i := 842) (by decide +kernel), List.mem_of_getElem? (i := 1073) (by decide +kernel), List.mem_of_getElem? (i := 1074) (by decide +kernel)⟩
theorem lw_p43 : lw_okq (⟨"SilenceCoinModel", "isSpent", "(I)Z"⟩, 38) := ⟨⟨by decide +kernel, by decide +kernel⟩, List.mem_of_getElem? (i := 842) (by decide +kernel), List.mem_of_getElem? (i := 1077) (by decide +kernel), List.mem_of_getElem? (i := 1078) (by decide +kernel)⟩
theorem lw_p44 : lw_okq (⟨"SilenceCoinModel", "isTalkSaid", "(I)Z"⟩, 38) := ⟨⟨by decide +kernel, by decide +kernel⟩, List.mem_of_getElem? (i := 842) (by decide +kernel), List.mem_of_getElem? (i := 1086) (by decide +kernel), List.mem_of_getElem? (i := 1087) (by decide +kernel)⟩
theorem lw_p45 : lw_okq (⟨"SilenceCoinModel", "isSaid", "(III)Z"⟩, 38) := ⟨⟨by decide +kernel, by decide +kernel⟩, List.mem_of_getElem? (i := 842) (by decide +kernel), List.mem_of_getElem? (i := 1090) (by decide +kernel), List.mem_of_getElem? (i := 1091) (by decide +kernel)⟩
theorem lw_p46 : lw_okq (⟨"SilenceCoinModel", "isSilent", "(II)Z"⟩, 38) := ⟨⟨by decide +kernel, by decide +kernel⟩, List.mem_of_getElem? (i := 842) (by decide +kernel), List.mem_of_getElem? (i := 1094) (by decide +kernel), List.mem_of_getElem? (i := 1095) (by decide +kernel)⟩
theorem lw_p47 : lw_okq (⟨"SilenceCoinModel", "quietOf", "(I)I"⟩, 38) := ⟨⟨by decide +kernel, by decide +kernel⟩, List.mem_of_getElem? (i := 842) (by decide +kernel), List.mem_of_getElem? (i := 1098) (by decide +kernel), List.mem_of_getElem? (i := 1099) (by decide +kernel)⟩
def lw_privs_3 : List (MethodName × Nat) := [(⟨"SilenceCoinModel", "other", "(III)I"⟩, 38), (⟨"SilenceCoinModel", "readCoin", "()V"⟩, 38), (⟨"SilenceCoinModel", "oneOf", "(I)I"⟩, 38), (⟨"SilenceCoinModel", "readTalk", "()V"⟩, 38), (⟨"SilenceCoinModel", "readMore", "(I)V"⟩, 38), (⟨"SilenceCoinModel", "feeNow", "()I"⟩, 38), (⟨"SilenceCoinModel", "isOne", "(I)Z"⟩, 38), (⟨"SilenceCoinModel", "isCoin", "(I)Z"⟩, 38), (⟨"SilenceCoinModel", "ownerOf", "(I)I"⟩, 38), (⟨"SilenceCoinModel", "lengthBy", "(II)I"⟩, 38), (⟨"SilenceCoinModel", "kindOf", "(I)I"⟩, 38), (⟨"SilenceCoinModel", "isSpent", "(I)Z"⟩, 38), (⟨"SilenceCoinModel", "isTalkSaid", "(I)Z"⟩, 38), (⟨"SilenceCoinModel", "isSaid", "(III)Z"⟩, 38), (⟨"SilenceCoinModel", "isSilent", "(II)Z"⟩, 38), (⟨"SilenceCoinModel", "quietOf", "(I)I"⟩, 38)]
theorem lw_r3 : ∀ q ∈ lw_privs_3, lw_okq q := List.forall_mem_cons.mpr ⟨lw_p32, List.forall_mem_cons.mpr ⟨lw_p33, List.forall_mem_cons.mpr ⟨lw_p34, List.forall_mem_cons.mpr ⟨lw_p35, List.forall_mem_cons.mpr ⟨lw_p36, List.forall_mem_cons.mpr ⟨lw_p37, List.forall_mem_cons.mpr ⟨lw_p38, List.forall_mem_cons.mpr ⟨lw_p39, List.forall_mem_cons.mpr ⟨lw_p40, List.forall_mem_cons.mpr ⟨lw_p41, List.forall_mem_cons.mpr ⟨lw_p42, List.forall_mem_cons.mpr ⟨lw_p43, List.forall_mem_cons.mpr ⟨lw_p44, List.forall_mem_cons.mpr ⟨lw_p45, List.forall_mem_cons.mpr ⟨lw_p46, List.forall_mem_cons.mpr ⟨lw_p47, fun _ h => absurd h List.not_mem_nil⟩⟩⟩⟩⟩⟩⟩⟩⟩⟩⟩⟩⟩⟩⟩⟩
theorem lw_p48 : lw_okq (⟨"SilenceCoinModel", "areTwo", "(II)Z"⟩, 38) := ⟨⟨by decide +kernel, by decide +kernel⟩, List.mem_of_getElem? (i := 842) (by decide +kernel), List.mem_of_getElem? (i := 1118) (by decide +kernel), List.mem_of_getElem? (i := 1119) (by decide +kernel)⟩
theorem lw_p49 : lw_okq (⟨"SilenceCoinModel", "speaks", "(III)I"⟩, 38) := ⟨⟨by decide +kernel, by decide +kernel⟩, List.mem_of_getElem? (i := 842) (by decide +kernel), List.mem_of_getElem? (i := 1155) (by decide +kernel), List.mem_of_getElem? (i := 1156) (by decide +kernel)⟩
theorem lw_p50 : lw_okq (⟨"SilenceCoinModel", "layRumour", "(I)V"⟩, 38) := ⟨⟨by decide +kernel, by decide +kernel⟩, List.mem_of_getElem? (i := 842) (by decide +kernel), List.mem_of_getElem? (i := 1163) (by decide +kernel), List.mem_of_getElem? (i := 1164) (by decide +kernel)⟩
theorem lw_p51 : lw_okq (⟨"SilenceCoinModel", "learnsIn", "(II)I"⟩, 38) := ⟨⟨by decide +kernel, by decide +kernel⟩, List.mem_of_getElem? (i := 842) (by decide +kernel), List.mem_of_getElem? (i := 1171) (by decide +kernel), List.mem_of_getElem? (i := 1172) (by decide +kernel)⟩
theorem lw_p52 : lw_okq (⟨"SilenceCoinModel", "funeralCost", "(III)I"⟩, 38) := ⟨⟨by decide +kernel, by decide +kernel⟩, List.mem_of_getElem? (i := 842) (by decide +kernel), List.mem_of_getElem? (i := 1197) (by decide +kernel), List.mem_of_getElem? (i := 1198) (by decide +kernel)⟩
theorem lw_p53 : lw_okq (⟨"SilenceCoinModel", "raided", "(I)I"⟩, 38) := ⟨⟨by decide +kernel, by decide +kernel⟩, List.mem_of_getElem? (i := 842) (by decide +kernel), List.mem_of_getElem? (i := 1206) (by decide +kernel), List.mem_of_getElem? (i := 1207) (by decide +kernel)⟩
theorem lw_p54 : lw_okq (⟨"SilenceCoinModel", "pricedThen", "(I)I"⟩, 38) := ⟨⟨by decide +kernel, by decide +kernel⟩, List.mem_of_getElem? (i := 842) (by decide +kernel), List.mem_of_getElem? (i := 1215) (by decide +kernel), List.mem_of_getElem? (i := 1216) (by decide +kernel)⟩
theorem lw_p55 : lw_okq (⟨"SilenceCoinModel", "unspent", "()I"⟩, 38) := ⟨⟨by decide +kernel, by decide +kernel⟩, List.mem_of_getElem? (i := 842) (by decide +kernel), List.mem_of_getElem? (i := 1219) (by decide +kernel), List.mem_of_getElem? (i := 1220) (by decide +kernel)⟩
theorem lw_p56 : lw_okq (⟨"SilenceCoinModel", "canBeFalse", "(II)Z"⟩, 38) := ⟨⟨by decide +kernel, by decide +kernel⟩, List.mem_of_getElem? (i := 842) (by decide +kernel), List.mem_of_getElem? (i := 1235) (by decide +kernel), List.mem_of_getElem? (i := 1236) (by decide +kernel)⟩
theorem lw_p57 : lw_okq (⟨"SilenceCoinModel", "draws", "(I)I"⟩, 38) := ⟨⟨by decide +kernel, by decide +kernel⟩, List.mem_of_getElem? (i := 842) (by decide +kernel), List.mem_of_getElem? (i := 1249) (by decide +kernel), List.mem_of_getElem? (i := 1250) (by decide +kernel)⟩
theorem lw_p58 : lw_okq (⟨"SilenceCoinModel", "copies", "(II)V"⟩, 38) := ⟨⟨by decide +kernel, by decide +kernel⟩, List.mem_of_getElem? (i := 842) (by decide +kernel), List.mem_of_getElem? (i := 1258) (by decide +kernel), List.mem_of_getElem? (i := 1259) (by decide +kernel)⟩
def lw_privs_4 : List (MethodName × Nat) := [(⟨"SilenceCoinModel", "areTwo", "(II)Z"⟩, 38), (⟨"SilenceCoinModel", "speaks", "(III)I"⟩, 38), (⟨"SilenceCoinModel", "layRumour", "(I)V"⟩, 38), (⟨"SilenceCoinModel", "learnsIn", "(II)I"⟩, 38), (⟨"SilenceCoinModel", "funeralCost", "(III)I"⟩, 38), (⟨"SilenceCoinModel", "raided", "(I)I"⟩, 38), (⟨"SilenceCoinModel", "pricedThen", "(I)I"⟩, 38), (⟨"SilenceCoinModel", "unspent", "()I"⟩, 38), (⟨"SilenceCoinModel", "canBeFalse", "(II)Z"⟩, 38), (⟨"SilenceCoinModel", "draws", "(I)I"⟩, 38), (⟨"SilenceCoinModel", "copies", "(II)V"⟩, 38)]
theorem lw_r4 : ∀ q ∈ lw_privs_4, lw_okq q := List.forall_mem_cons.mpr ⟨lw_p48, List.forall_mem_cons.mpr ⟨lw_p49, List.forall_mem_cons.mpr ⟨lw_p50, List.forall_mem_cons.mpr ⟨lw_p51, List.forall_mem_cons.mpr ⟨lw_p52, List.forall_mem_cons.mpr ⟨lw_p53, List.forall_mem_cons.mpr ⟨lw_p54, List.forall_mem_cons.mpr ⟨lw_p55, List.forall_mem_cons.mpr ⟨lw_p56, List.forall_mem_cons.mpr ⟨lw_p57, List.forall_mem_cons.mpr ⟨lw_p58, fun _ h => absurd h List.not_mem_nil⟩⟩⟩⟩⟩⟩⟩⟩⟩⟩⟩
def lw_privs : List (MethodName × Nat) := lw_privs_1 ++ (lw_privs_2 ++ (lw_privs_3 ++ (lw_privs_4)))
def lw_tbl : List Cond := k2_sels lw_privs ++ tables_1
theorem lw_privs_ok : ∀ q ∈ lw_privs, lw_okq q := by
  show ∀ q ∈ lw_privs_1 ++ (lw_privs_2 ++ (lw_privs_3 ++ (lw_privs_4))), lw_okq q
  exact List.forall_mem_append.mpr ⟨lw_r1, List.forall_mem_append.mpr ⟨lw_r2, List.forall_mem_append.mpr ⟨lw_r3, lw_r4⟩⟩⟩
-- ===== end of PART A; then your names; then what follows =====
end
section
/-! ===== BEGIN words of one list among another's, by their places ===== -/
theorem goodIn_r {big : List Cond} (ws : List Cond) (ps : List Nat) (hp : ws = ps.filterMap (fun i => big[i]?)) (h : ws.all goodWord = true) : GoodIn big ws := by
  intro w hw
  have h1 := List.all_eq_true.mp h w hw
  rw [hp] at hw
  obtain ⟨i, -, hi⟩ := List.mem_filterMap.mp hw
  have hm : w ∈ big := by first | exact List.mem_of_getElem? hi | exact List.getElem?_mem hi
  exact ⟨hm, good_of_word h1⟩
theorem goodIn_app {big a b : List Cond} (ha : GoodIn big a) (hb : GoodIn big b) : GoodIn big (a ++ b) := fun w h => (List.mem_append.mp h).elim (ha w) (hb w)
theorem goodIn_ca {big a b : List Cond} {c : Cond} (ha : GoodIn big (c :: a)) (hb : GoodIn big b) : GoodIn big (c :: (a ++ b)) := fun w h => (List.mem_cons.mp h).elim (fun e => ha w (List.mem_cons.mpr (Or.inl e))) (fun h => (List.mem_append.mp h).elim (fun h => ha w (List.mem_cons.mpr (Or.inr h))) (hb w))
theorem goodIn_sub {big ws : List Cond} (hm : ∀ w ∈ ws, w ∈ big) (h : ws.all goodWord = true) : GoodIn big ws := fun w hw => ⟨hm w hw, good_of_word (List.all_eq_true.mp h w hw)⟩
/-! ===== END ===== -/

/-! ===== BEGIN printed: names, fields, word lists, decode rows ===== -/
def RX0 : String := "SilenceCoin$Funeral"
def TX0 : u_T := fun k => match k with
  | 0 => ("SilenceCoin$Funeral", "bestCost", "I", false)
  | 1 => ("SilenceCoin$Funeral", "bestTo", "[I", true)
  | 2 => ("SilenceCoin$Funeral", "town", "LSilenceCoin$Town;", true)
  | 3 => ("SilenceCoin$Funeral", "givenTo", "[I", true)
  | _ => ("SilenceCoin$Funeral", "need", "[I", true)
def tyX0 : Nat → FieldType := fun k => match k with
  | 0 => .int
  | 1 => .array .int
  | 2 => .object "SilenceCoin$Town"
  | 3 => .array .int
  | _ => .array .int
abbrev wsX00 : List Cond := u_ws RX0 TX0 5
theorem nmX0 : ∀ a, a < 5 → ∀ b, b < 5 → a ≠ b → (TX0 a).2.1 ≠ (TX0 b).2.1 := by decide +kernel
theorem tyX0_ok : ∀ k, k < 5 → parseFieldDescriptor (TX0 k).2.2.1 = some (tyX0 k) := by decide +kernel
abbrev cX0_init : ByteArray := prog_2_method_1_code
def yX0_init : MethodName := ⟨RX0, "<init>", "(LSilenceCoin$Town;)V"⟩
abbrev cX0_plan : ByteArray := prog_2_method_2_code
def yX0_plan : MethodName := ⟨RX0, "plan", "(II)Z"⟩
abbrev cX0_giveFrom : ByteArray := prog_2_method_3_code
def yX0_giveFrom : MethodName := ⟨RX0, "giveFrom", "(II)V"⟩
abbrev cX0_costTo : ByteArray := prog_2_method_4_code
def yX0_costTo : MethodName := ⟨RX0, "costTo", "(II)I"⟩
abbrev cX0_needyOnes : ByteArray := prog_2_method_5_code
def yX0_needyOnes : MethodName := ⟨RX0, "needyOnes", "()I"⟩
abbrev cX0_takeAsBest : ByteArray := prog_2_method_6_code
def yX0_takeAsBest : MethodName := ⟨RX0, "takeAsBest", "(II)V"⟩
def RX1 : String := "SilenceCoin$Hisses"
def TX1 : u_T := fun k => match k with
  | 0 => ("SilenceCoin$Hisses", "tested", "I", false)
  | 1 => ("SilenceCoin$Hisses", "sets", "I", false)
  | 2 => ("SilenceCoin$Hisses", "fitting", "[I", true)
  | 3 => ("SilenceCoin$Hisses", "testedCoins", "[I", true)
  | _ => ("SilenceCoin$Hisses", "hasHissed", "[Z", true)
def tyX1 : Nat → FieldType := fun k => match k with
  | 0 => .int
  | 1 => .int
  | 2 => .array .int
  | 3 => .array .int
  | _ => .array .boolean
abbrev wsX10 : List Cond := u_ws RX1 TX1 5
theorem nmX1 : ∀ a, a < 5 → ∀ b, b < 5 → a ≠ b → (TX1 a).2.1 ≠ (TX1 b).2.1 := by decide +kernel
theorem tyX1_ok : ∀ k, k < 5 → parseFieldDescriptor (TX1 k).2.2.1 = some (tyX1 k) := by decide +kernel
abbrev cX1_init : ByteArray := prog_3_method_1_code
def yX1_init : MethodName := ⟨RX1, "<init>", "()V"⟩
abbrev cX1_note : ByteArray := prog_3_method_2_code
def yX1_note : MethodName := ⟨RX1, "note", "(IZ)I"⟩
abbrev cX1_findSets : ByteArray := prog_3_method_3_code
def yX1_findSets : MethodName := ⟨RX1, "findSets", "(II)V"⟩
abbrev cX1_isAsTested : ByteArray := prog_3_method_4_code
def yX1_isAsTested : MethodName := ⟨RX1, "isAsTested", "(I)Z"⟩
abbrev cX1_inAll : ByteArray := prog_3_method_5_code
def yX1_inAll : MethodName := ⟨RX1, "inAll", "()I"⟩
abbrev cX1_inAny : ByteArray := prog_3_method_6_code
def yX1_inAny : MethodName := ⟨RX1, "inAny", "()I"⟩
abbrev cX1_leftAtWorst : ByteArray := prog_3_method_7_code
def yX1_leftAtWorst : MethodName := ⟨RX1, "leftAtWorst", "(I)I"⟩
def RX2 : String := "SilenceCoin$Rumours"
def TX2 : u_T := fun k => match k with
  | 0 => ("SilenceCoin$Rumours", "known", "I", false)
  | 1 => ("SilenceCoin$Rumours", "knownOf", "[I", true)
  | 2 => ("SilenceCoin$Rumours", "isKnower", "[Z", true)
  | 3 => ("SilenceCoin$Rumours", "town", "LSilenceCoin$Town;", true)
  | _ => ("SilenceCoin$Rumours", "silentBits", "[I", true)
def tyX2 : Nat → FieldType := fun k => match k with
  | 0 => .int
  | 1 => .array .int
  | 2 => .array .boolean
  | 3 => .object "SilenceCoin$Town"
  | _ => .array .int
abbrev wsX20 : List Cond := u_ws RX2 TX2 5
theorem nmX2 : ∀ a, a < 5 → ∀ b, b < 5 → a ≠ b → (TX2 a).2.1 ≠ (TX2 b).2.1 := by decide +kernel
theorem tyX2_ok : ∀ k, k < 5 → parseFieldDescriptor (TX2 k).2.2.1 = some (tyX2 k) := by decide +kernel
abbrev cX2_init : ByteArray := prog_4_method_1_code
def yX2_init : MethodName := ⟨RX2, "<init>", "(LSilenceCoin$Town;)V"⟩
abbrev cX2_note : ByteArray := prog_4_method_2_code
def yX2_note : MethodName := ⟨RX2, "note", "(IZ)I"⟩
abbrev cX2_takeSilence : ByteArray := prog_4_method_3_code
def yX2_takeSilence : MethodName := ⟨RX2, "takeSilence", "()V"⟩
abbrev cX2_addSilence : ByteArray := prog_4_method_4_code
def yX2_addSilence : MethodName := ⟨RX2, "addSilence", "(II)V"⟩
abbrev cX2_knowersBehind : ByteArray := prog_4_method_5_code
def yX2_knowersBehind : MethodName := ⟨RX2, "knowersBehind", "(II)I"⟩
abbrev cX2_hourItComes : ByteArray := prog_4_method_6_code
def yX2_hourItComes : MethodName := ⟨RX2, "hourItComes", "(II)I"⟩
abbrev cX2_knowersAfter : ByteArray := prog_4_method_7_code
def yX2_knowersAfter : MethodName := ⟨RX2, "knowersAfter", "(II)I"⟩
abbrev cX2_comingTo : ByteArray := prog_4_method_8_code
def yX2_comingTo : MethodName := ⟨RX2, "comingTo", "(I)I"⟩
abbrev cX2_hushingHour : ByteArray := prog_4_method_9_code
def yX2_hushingHour : MethodName := ⟨RX2, "hushingHour", "(III)I"⟩
abbrev cX2_canBeginWith : ByteArray := prog_4_method_10_code
def yX2_canBeginWith : MethodName := ⟨RX2, "canBeginWith", "(I)Z"⟩
def RX3 : String := "SilenceCoin$Sheet"
def TX3 : u_T := fun k => match k with
  | 0 => ("SilenceCoin$Sheet", "cells", "[I", true)
  | 1 => ("SilenceCoin$Sheet", "size", "I", false)
  | _ => ("SilenceCoin$Sheet", "lane", "I", false)
def tyX3 : Nat → FieldType := fun k => match k with
  | 0 => .array .int
  | 1 => .int
  | _ => .int
abbrev wsX30 : List Cond := u_ws RX3 TX3 3
theorem nmX3 : ∀ a, a < 3 → ∀ b, b < 3 → a ≠ b → (TX3 a).2.1 ≠ (TX3 b).2.1 := by decide +kernel
theorem tyX3_ok : ∀ k, k < 3 → parseFieldDescriptor (TX3 k).2.2.1 = some (tyX3 k) := by decide +kernel
abbrev cX3_init : ByteArray := prog_5_method_1_code
def yX3_init : MethodName := ⟨RX3, "<init>", "()V"⟩
abbrev cX3_isNothing : ByteArray := prog_5_method_2_code
def yX3_isNothing : MethodName := ⟨RX3, "isNothing", "()Z"⟩
abbrev cX3_renew : ByteArray := prog_5_method_3_code
def yX3_renew : MethodName := ⟨RX3, "renew", "(II)V"⟩
abbrev cX3_put : ByteArray := prog_5_method_4_code
def yX3_put : MethodName := ⟨RX3, "put", "(II)V"⟩
abbrev cX3_faultInThree : ByteArray := prog_5_method_5_code
def yX3_faultInThree : MethodName := ⟨RX3, "faultInThree", "(II)I"⟩
def RX4 : String := "SilenceCoin$Tape"
def TX4 : u_T := fun k => match k with
  | 0 => ("SilenceCoin$Tape", "bytes", "[B", true)
  | _ => ("SilenceCoin$Tape", "length", "I", false)
def tyX4 : Nat → FieldType := fun k => match k with
  | 0 => .array .byte
  | _ => .int
abbrev wsX40 : List Cond := u_ws RX4 TX4 2
theorem nmX4 : ∀ a, a < 2 → ∀ b, b < 2 → a ≠ b → (TX4 a).2.1 ≠ (TX4 b).2.1 := by decide +kernel
theorem tyX4_ok : ∀ k, k < 2 → parseFieldDescriptor (TX4 k).2.2.1 = some (tyX4 k) := by decide +kernel
abbrev cX4_init : ByteArray := prog_6_method_1_code
def yX4_init : MethodName := ⟨RX4, "<init>", "()V"⟩
abbrev cX4_append : ByteArray := prog_6_method_2_code
def yX4_append : MethodName := ⟨RX4, "append", "(J)I"⟩
abbrev cX4_cutTo : ByteArray := prog_6_method_3_code
def yX4_cutTo : MethodName := ⟨RX4, "cutTo", "(I)I"⟩
def RX5 : String := "SilenceCoin$TextReader"
def TX5 : u_T := fun k => match k with
  | 0 => ("SilenceCoin$TextReader", "draft", "LSilenceCoin$Town;", true)
  | 1 => ("SilenceCoin$TextReader", "lines", "I", false)
  | 2 => ("SilenceCoin$TextReader", "faultKind", "I", false)
  | 3 => ("SilenceCoin$TextReader", "faultPlace", "I", false)
  | 4 => ("SilenceCoin$TextReader", "tape", "LSilenceCoin$Tape;", true)
  | 5 => ("SilenceCoin$TextReader", "isLawTold", "Z", false)
  | 6 => ("SilenceCoin$TextReader", "isFeeTold", "Z", false)
  | 7 => ("SilenceCoin$TextReader", "token", "I", false)
  | 8 => ("SilenceCoin$TextReader", "start", "I", false)
  | 9 => ("SilenceCoin$TextReader", "behind", "I", false)
  | _ => ("SilenceCoin$TextReader", "number", "I", false)
def tyX5 : Nat → FieldType := fun k => match k with
  | 0 => .object "SilenceCoin$Town"
  | 1 => .int
  | 2 => .int
  | 3 => .int
  | 4 => .object "SilenceCoin$Tape"
  | 5 => .boolean
  | 6 => .boolean
  | 7 => .int
  | 8 => .int
  | 9 => .int
  | _ => .int
abbrev wsX50 : List Cond := u_ws RX5 TX5 11
theorem nmX5 : ∀ a, a < 11 → ∀ b, b < 11 → a ≠ b → (TX5 a).2.1 ≠ (TX5 b).2.1 := by decide +kernel
theorem tyX5_ok : ∀ k, k < 11 → parseFieldDescriptor (TX5 k).2.2.1 = some (tyX5 k) := by decide +kernel
abbrev cX5_init : ByteArray := prog_7_method_1_code
def yX5_init : MethodName := ⟨RX5, "<init>", "(LSilenceCoin$Tape;)V"⟩
abbrev cX5_readTape : ByteArray := prog_7_method_2_code
def yX5_readTape : MethodName := ⟨RX5, "readTape", "()Z"⟩
abbrev cX5_fail : ByteArray := prog_7_method_3_code
def yX5_fail : MethodName := ⟨RX5, "fail", "(II)Z"⟩
abbrev cX5_tokenBegunBy : ByteArray := prog_7_method_4_code
def yX5_tokenBegunBy : MethodName := ⟨RX5, "tokenBegunBy", "(I)I"⟩
abbrev cX5_readToken : ByteArray := prog_7_method_5_code
def yX5_readToken : MethodName := ⟨RX5, "readToken", "()Z"⟩
abbrev cX5_isName : ByteArray := prog_7_method_6_code
def yX5_isName : MethodName := ⟨RX5, "isName", "(Ljava/lang/String;)Z"⟩
abbrev cX5_readNumber : ByteArray := prog_7_method_7_code
def yX5_readNumber : MethodName := ⟨RX5, "readNumber", "(II)Z"⟩
abbrev cX5_readStop : ByteArray := prog_7_method_8_code
def yX5_readStop : MethodName := ⟨RX5, "readStop", "()Z"⟩
abbrev cX5_checkStop : ByteArray := prog_7_method_9_code
def yX5_checkStop : MethodName := ⟨RX5, "checkStop", "()Z"⟩
abbrev cX5_readLine : ByteArray := prog_7_method_10_code
def yX5_readLine : MethodName := ⟨RX5, "readLine", "()Z"⟩
abbrev cX5_readLaw : ByteArray := prog_7_method_11_code
def yX5_readLaw : MethodName := ⟨RX5, "readLaw", "()Z"⟩
abbrev cX5_readFee : ByteArray := prog_7_method_12_code
def yX5_readFee : MethodName := ⟨RX5, "readFee", "()Z"⟩
abbrev cX5_readOne : ByteArray := prog_7_method_13_code
def yX5_readOne : MethodName := ⟨RX5, "readOne", "()Z"⟩
abbrev cX5_kindNamed : ByteArray := prog_7_method_14_code
def yX5_kindNamed : MethodName := ⟨RX5, "kindNamed", "()I"⟩
abbrev cX5_readCoin : ByteArray := prog_7_method_15_code
def yX5_readCoin : MethodName := ⟨RX5, "readCoin", "()Z"⟩
abbrev cX5_readSpend : ByteArray := prog_7_method_16_code
def yX5_readSpend : MethodName := ⟨RX5, "readSpend", "()Z"⟩
abbrev cX5_readTalk : ByteArray := prog_7_method_17_code
def yX5_readTalk : MethodName := ⟨RX5, "readTalk", "()Z"⟩
abbrev cX5_checkNamed : ByteArray := prog_7_method_18_code
def yX5_checkNamed : MethodName := ⟨RX5, "checkNamed", "()Z"⟩
def RX6 : String := "SilenceCoin$Town"
def TX6 : u_T := fun k => match k with
  | 0 => ("SilenceCoin$Town", "people", "I", false)
  | 1 => ("SilenceCoin$Town", "kind", "[I", true)
  | 2 => ("SilenceCoin$Town", "wish", "[I", true)
  | 3 => ("SilenceCoin$Town", "purse", "[I", true)
  | 4 => ("SilenceCoin$Town", "coins", "I", false)
  | 5 => ("SilenceCoin$Town", "worth", "[I", true)
  | 6 => ("SilenceCoin$Town", "owner", "[I", true)
  | 7 => ("SilenceCoin$Town", "isClipped", "[Z", true)
  | 8 => ("SilenceCoin$Town", "spentIn", "[I", true)
  | 9 => ("SilenceCoin$Town", "talks", "I", false)
  | 10 => ("SilenceCoin$Town", "talkHour", "[I", true)
  | 11 => ("SilenceCoin$Town", "speaker", "[I", true)
  | 12 => ("SilenceCoin$Town", "hearer", "[I", true)
  | 13 => ("SilenceCoin$Town", "lawNow", "I", false)
  | _ => ("SilenceCoin$Town", "feeNow", "I", false)
def tyX6 : Nat → FieldType := fun k => match k with
  | 0 => .int
  | 1 => .array .int
  | 2 => .array .int
  | 3 => .array .int
  | 4 => .int
  | 5 => .array .int
  | 6 => .array .int
  | 7 => .array .boolean
  | 8 => .array .int
  | 9 => .int
  | 10 => .array .int
  | 11 => .array .int
  | 12 => .array .int
  | 13 => .int
  | _ => .int
abbrev wsX60 : List Cond := u_ws RX6 TX6 15
theorem nmX6 : ∀ a, a < 15 → ∀ b, b < 15 → a ≠ b → (TX6 a).2.1 ≠ (TX6 b).2.1 := by decide +kernel
theorem tyX6_ok : ∀ k, k < 15 → parseFieldDescriptor (TX6 k).2.2.1 = some (tyX6 k) := by decide +kernel
abbrev cX6_init : ByteArray := prog_8_method_1_code
def yX6_init : MethodName := ⟨RX6, "<init>", "()V"⟩
abbrev cX6_clear : ByteArray := prog_8_method_2_code
def yX6_clear : MethodName := ⟨RX6, "clear", "()V"⟩
abbrev cX6_copyFrom : ByteArray := prog_8_method_3_code
def yX6_copyFrom : MethodName := ⟨RX6, "copyFrom", "(LSilenceCoin$Town;)V"⟩
abbrev cX6_hasOne : ByteArray := prog_8_method_4_code
def yX6_hasOne : MethodName := ⟨RX6, "hasOne", "(I)Z"⟩
abbrev cX6_hasCoin : ByteArray := prog_8_method_5_code
def yX6_hasCoin : MethodName := ⟨RX6, "hasCoin", "(I)Z"⟩
abbrev cX6_isSpent : ByteArray := prog_8_method_6_code
def yX6_isSpent : MethodName := ⟨RX6, "isSpent", "(I)Z"⟩
abbrev cX6_canTalk : ByteArray := prog_8_method_7_code
def yX6_canTalk : MethodName := ⟨RX6, "canTalk", "(III)Z"⟩
abbrev cX6_addTalk : ByteArray := prog_8_method_8_code
def yX6_addTalk : MethodName := ⟨RX6, "addTalk", "(III)I"⟩
abbrev cX6_putTalk : ByteArray := prog_8_method_9_code
def yX6_putTalk : MethodName := ⟨RX6, "putTalk", "(III)V"⟩
abbrev cX6_lengthBy : ByteArray := prog_8_method_10_code
def yX6_lengthBy : MethodName := ⟨RX6, "lengthBy", "(II)I"⟩
abbrev cX6_silencedBy : ByteArray := prog_8_method_11_code
def yX6_silencedBy : MethodName := ⟨RX6, "silencedBy", "(III)I"⟩
abbrev cX6_silentOnes : ByteArray := prog_8_method_12_code
def yX6_silentOnes : MethodName := ⟨RX6, "silentOnes", "(I)I"⟩
abbrev cX6_isSaid : ByteArray := prog_8_method_13_code
def yX6_isSaid : MethodName := ⟨RX6, "isSaid", "(III)Z"⟩
abbrev cX6_isTalkSaid : ByteArray := prog_8_method_14_code
def yX6_isTalkSaid : MethodName := ⟨RX6, "isTalkSaid", "(I)Z"⟩
abbrev cX6_spentCoins : ByteArray := prog_8_method_15_code
def yX6_spentCoins : MethodName := ⟨RX6, "spentCoins", "()I"⟩
abbrev cX6_unspentWorths : ByteArray := prog_8_method_16_code
def yX6_unspentWorths : MethodName := ⟨RX6, "unspentWorths", "()I"⟩
abbrev cX6_raidedIn : ByteArray := prog_8_method_17_code
def yX6_raidedIn : MethodName := ⟨RX6, "raidedIn", "(I)I"⟩
abbrev cX6_greatestUnspent : ByteArray := prog_8_method_18_code
def yX6_greatestUnspent : MethodName := ⟨RX6, "greatestUnspent", "(I)I"⟩
abbrev cX6_priceAfter : ByteArray := prog_8_method_19_code
def yX6_priceAfter : MethodName := ⟨RX6, "priceAfter", "(I)I"⟩
def RX7 : String := "SilenceCoin"
def TX7 : u_T := fun k => match k with
  | 0 => ("SilenceCoin", "tape", "LSilenceCoin$Tape;", true)
  | 1 => ("SilenceCoin", "reader", "LSilenceCoin$TextReader;", true)
  | 2 => ("SilenceCoin", "town", "LSilenceCoin$Town;", true)
  | 3 => ("SilenceCoin", "rumours", "LSilenceCoin$Rumours;", true)
  | 4 => ("SilenceCoin", "burial", "LSilenceCoin$Funeral;", true)
  | 5 => ("SilenceCoin", "hisses", "LSilenceCoin$Hisses;", true)
  | 6 => ("SilenceCoin", "images", "[LSilenceCoin$Town;", true)
  | 7 => ("SilenceCoin", "isKept", "[Z", true)
  | 8 => ("SilenceCoin", "sheets", "[LSilenceCoin$Sheet;", true)
  | _ => ("SilenceCoin", "tornFault", "I", false)
def tyX7 : Nat → FieldType := fun k => match k with
  | 0 => .object "SilenceCoin$Tape"
  | 1 => .object "SilenceCoin$TextReader"
  | 2 => .object "SilenceCoin$Town"
  | 3 => .object "SilenceCoin$Rumours"
  | 4 => .object "SilenceCoin$Funeral"
  | 5 => .object "SilenceCoin$Hisses"
  | 6 => .array (.object "SilenceCoin$Town")
  | 7 => .array .boolean
  | 8 => .array (.object "SilenceCoin$Sheet")
  | _ => .int
abbrev wsX70 : List Cond := u_ws RX7 TX7 10
theorem nmX7 : ∀ a, a < 10 → ∀ b, b < 10 → a ≠ b → (TX7 a).2.1 ≠ (TX7 b).2.1 := by decide +kernel
theorem tyX7_ok : ∀ k, k < 10 → parseFieldDescriptor (TX7 k).2.2.1 = some (tyX7 k) := by decide +kernel
abbrev cX7_init : ByteArray := prog_1_method_1_code
def yX7_init : MethodName := ⟨RX7, "<init>", "()V"⟩
abbrev cX7_feed : ByteArray := prog_1_method_2_code
def yX7_feed : MethodName := ⟨RX7, "feed", "(J)I"⟩
abbrev cX7_end : ByteArray := prog_1_method_3_code
def yX7_end : MethodName := ⟨RX7, "end", "(I)I"⟩
abbrev cX7_text : ByteArray := prog_1_method_4_code
def yX7_text : MethodName := ⟨RX7, "text", "()I"⟩
abbrev cX7_fault : ByteArray := prog_1_method_5_code
def yX7_fault : MethodName := ⟨RX7, "fault", "()I"⟩
abbrev cX7_rule : ByteArray := prog_1_method_6_code
def yX7_rule : MethodName := ⟨RX7, "rule", "(I)I"⟩
abbrev cX7_one : ByteArray := prog_1_method_7_code
def yX7_one : MethodName := ⟨RX7, "one", "(II)I"⟩
abbrev cX7_coin : ByteArray := prog_1_method_8_code
def yX7_coin : MethodName := ⟨RX7, "coin", "(II)I"⟩
abbrev cX7_talk : ByteArray := prog_1_method_9_code
def yX7_talk : MethodName := ⟨RX7, "talk", "(II)I"⟩
abbrev cX7_law : ByteArray := prog_1_method_10_code
def yX7_law : MethodName := ⟨RX7, "law", "(I)I"⟩
abbrev cX7_fee : ByteArray := prog_1_method_11_code
def yX7_fee : MethodName := ⟨RX7, "fee", "(I)I"⟩
abbrev cX7_give : ByteArray := prog_1_method_12_code
def yX7_give : MethodName := ⟨RX7, "give", "(II)I"⟩
abbrev cX7_clip : ByteArray := prog_1_method_13_code
def yX7_clip : MethodName := ⟨RX7, "clip", "(I)I"⟩
abbrev cX7_spend : ByteArray := prog_1_method_14_code
def yX7_spend : MethodName := ⟨RX7, "spend", "(II)I"⟩
abbrev cX7_undo : ByteArray := prog_1_method_15_code
def yX7_undo : MethodName := ⟨RX7, "undo", "(I)I"⟩
abbrev cX7_speak : ByteArray := prog_1_method_16_code
def yX7_speak : MethodName := ⟨RX7, "speak", "(III)I"⟩
abbrev cX7_silent : ByteArray := prog_1_method_17_code
def yX7_silent : MethodName := ⟨RX7, "silent", "(I)I"⟩
abbrev cX7_quiet : ByteArray := prog_1_method_18_code
def yX7_quiet : MethodName := ⟨RX7, "quiet", "(I)I"⟩
abbrev cX7_may : ByteArray := prog_1_method_19_code
def yX7_may : MethodName := ⟨RX7, "may", "(III)I"⟩
abbrev cX7_said : ByteArray := prog_1_method_20_code
def yX7_said : MethodName := ⟨RX7, "said", "()I"⟩
abbrev cX7_knows : ByteArray := prog_1_method_21_code
def yX7_knows : MethodName := ⟨RX7, "knows", "(II)I"⟩
abbrev cX7_learns : ByteArray := prog_1_method_22_code
def yX7_learns : MethodName := ⟨RX7, "learns", "(II)I"⟩
abbrev cX7_hush : ByteArray := prog_1_method_23_code
def yX7_hush : MethodName := ⟨RX7, "hush", "(III)I"⟩
abbrev cX7_hear : ByteArray := prog_1_method_24_code
def yX7_hear : MethodName := ⟨RX7, "hear", "(IZ)I"⟩
abbrev cX7_forget : ByteArray := prog_1_method_25_code
def yX7_forget : MethodName := ⟨RX7, "forget", "(I)I"⟩
abbrev cX7_first : ByteArray := prog_1_method_26_code
def yX7_first : MethodName := ⟨RX7, "first", "()I"⟩
abbrev cX7_funeral : ByteArray := prog_1_method_27_code
def yX7_funeral : MethodName := ⟨RX7, "funeral", "(III)I"⟩
abbrev cX7_raid : ByteArray := prog_1_method_28_code
def yX7_raid : MethodName := ⟨RX7, "raid", "(I)I"⟩
abbrev cX7_settle : ByteArray := prog_1_method_29_code
def yX7_settle : MethodName := ⟨RX7, "settle", "(II)I"⟩
abbrev cX7_test : ByteArray := prog_1_method_30_code
def yX7_test : MethodName := ⟨RX7, "test", "(IZ)I"⟩
abbrev cX7_untest : ByteArray := prog_1_method_31_code
def yX7_untest : MethodName := ⟨RX7, "untest", "(I)I"⟩
abbrev cX7_fakes : ByteArray := prog_1_method_32_code
def yX7_fakes : MethodName := ⟨RX7, "fakes", "(II)I"⟩
abbrev cX7_next : ByteArray := prog_1_method_33_code
def yX7_next : MethodName := ⟨RX7, "next", "(II)I"⟩
abbrev cX7_chatter : ByteArray := prog_1_method_34_code
def yX7_chatter : MethodName := ⟨RX7, "chatter", "(II)I"⟩
abbrev cX7_keep : ByteArray := prog_1_method_35_code
def yX7_keep : MethodName := ⟨RX7, "keep", "(I)I"⟩
abbrev cX7_back : ByteArray := prog_1_method_36_code
def yX7_back : MethodName := ⟨RX7, "back", "(I)I"⟩
abbrev cX7_sheet : ByteArray := prog_1_method_37_code
def yX7_sheet : MethodName := ⟨RX7, "sheet", "(III)I"⟩
abbrev cX7_lay : ByteArray := prog_1_method_38_code
def yX7_lay : MethodName := ⟨RX7, "lay", "(III)I"⟩
abbrev cX7_read : ByteArray := prog_1_method_39_code
def yX7_read : MethodName := ⟨RX7, "read", "(IIII)I"⟩
abbrev cX7_torn : ByteArray := prog_1_method_40_code
def yX7_torn : MethodName := ⟨RX7, "torn", "()I"⟩
abbrev cX7_count : ByteArray := prog_1_method_41_code
def yX7_count : MethodName := ⟨RX7, "count", "(I)I"⟩
abbrev cX7_oneIf : ByteArray := prog_1_method_42_code
def yX7_oneIf : MethodName := ⟨RX7, "oneIf", "(Z)I"⟩
abbrev cX7_hasBit : ByteArray := prog_1_method_43_code
def yX7_hasBit : MethodName := ⟨RX7, "hasBit", "(II)Z"⟩
abbrev cX7_allOf : ByteArray := prog_1_method_44_code
def yX7_allOf : MethodName := ⟨RX7, "allOf", "(I)I"⟩
abbrev cX7_isSubset : ByteArray := prog_1_method_45_code
def yX7_isSubset : MethodName := ⟨RX7, "isSubset", "(II)Z"⟩
abbrev cX7_isHour : ByteArray := prog_1_method_46_code
def yX7_isHour : MethodName := ⟨RX7, "isHour", "(I)Z"⟩
abbrev cX7_isSheet : ByteArray := prog_1_method_47_code
def yX7_isSheet : MethodName := ⟨RX7, "isSheet", "(I)Z"⟩
abbrev cX7_isLane : ByteArray := prog_1_method_48_code
def yX7_isLane : MethodName := ⟨RX7, "isLane", "(I)Z"⟩
abbrev cX7_stepSeed : ByteArray := prog_1_method_49_code
def yX7_stepSeed : MethodName := ⟨RX7, "stepSeed", "(I)I"⟩
abbrev cX7_drawn : ByteArray := prog_1_method_50_code
def yX7_drawn : MethodName := ⟨RX7, "drawn", "(I)I"⟩
def RX8 : String := "SilenceCoinModel"
def TX8 : u_T := fun k => match k with
  | 0 => ("SilenceCoinModel", "state", "[I", true)
  | 1 => ("SilenceCoinModel", "people", "[I", true)
  | 2 => ("SilenceCoinModel", "oneMany", "I", false)
  | 3 => ("SilenceCoinModel", "coinMany", "I", false)
  | 4 => ("SilenceCoinModel", "readPage", "[I", true)
  | 5 => ("SilenceCoinModel", "readPeople", "[I", true)
  | 6 => ("SilenceCoinModel", "readOnes", "I", false)
  | 7 => ("SilenceCoinModel", "readCoins", "I", false)
  | 8 => ("SilenceCoinModel", "toldOnce", "I", false)
  | 9 => ("SilenceCoinModel", "spentOnes", "I", false)
  | 10 => ("SilenceCoinModel", "highOne", "I", false)
  | 11 => ("SilenceCoinModel", "highCoin", "I", false)
  | 12 => ("SilenceCoinModel", "spentIn", "[I", true)
  | 13 => ("SilenceCoinModel", "tape", "[I", true)
  | 14 => ("SilenceCoinModel", "taped", "I", false)
  | 15 => ("SilenceCoinModel", "fault", "I", false)
  | 16 => ("SilenceCoinModel", "broken", "I", false)
  | 17 => ("SilenceCoinModel", "brokenAt", "I", false)
  | 18 => ("SilenceCoinModel", "spot", "I", false)
  | 19 => ("SilenceCoinModel", "here", "I", false)
  | 20 => ("SilenceCoinModel", "token", "I", false)
  | 21 => ("SilenceCoinModel", "value", "I", false)
  | 22 => ("SilenceCoinModel", "cuts", "[I", true)
  | 23 => ("SilenceCoinModel", "letters", "[I", true)
  | 24 => ("SilenceCoinModel", "knowAt", "[I", true)
  | 25 => ("SilenceCoinModel", "known", "[I", true)
  | 26 => ("SilenceCoinModel", "knownMany", "I", false)
  | 27 => ("SilenceCoinModel", "gets", "[I", true)
  | 28 => ("SilenceCoinModel", "bestGets", "[I", true)
  | 29 => ("SilenceCoinModel", "beenAt", "[I", true)
  | 30 => ("SilenceCoinModel", "tested", "[I", true)
  | 31 => ("SilenceCoinModel", "testedMany", "I", false)
  | 32 => ("SilenceCoinModel", "drawn", "I", false)
  | 33 => ("SilenceCoinModel", "isKept", "[Z", true)
  | 34 => ("SilenceCoinModel", "lanes", "[I", true)
  | 35 => ("SilenceCoinModel", "lengths", "[I", true)
  | 36 => ("SilenceCoinModel", "cells", "[I", true)
  | _ => ("SilenceCoinModel", "torn", "I", false)
def tyX8 : Nat → FieldType := fun k => match k with
  | 0 => .array .int
  | 1 => .array .int
  | 2 => .int
  | 3 => .int
  | 4 => .array .int
  | 5 => .array .int
  | 6 => .int
  | 7 => .int
  | 8 => .int
  | 9 => .int
  | 10 => .int
  | 11 => .int
  | 12 => .array .int
  | 13 => .array .int
  | 14 => .int
  | 15 => .int
  | 16 => .int
  | 17 => .int
  | 18 => .int
  | 19 => .int
  | 20 => .int
  | 21 => .int
  | 22 => .array .int
  | 23 => .array .int
  | 24 => .array .int
  | 25 => .array .int
  | 26 => .int
  | 27 => .array .int
  | 28 => .array .int
  | 29 => .array .int
  | 30 => .array .int
  | 31 => .int
  | 32 => .int
  | 33 => .array .boolean
  | 34 => .array .int
  | 35 => .array .int
  | 36 => .array .int
  | _ => .int
abbrev wsX80 : List Cond := u_ws RX8 TX8 38
theorem nmX8 : ∀ a, a < 38 → ∀ b, b < 38 → a ≠ b → (TX8 a).2.1 ≠ (TX8 b).2.1 := by decide +kernel
theorem tyX8_ok : ∀ k, k < 38 → parseFieldDescriptor (TX8 k).2.2.1 = some (tyX8 k) := by decide +kernel
abbrev cX8_init : ByteArray := prog_10_method_1_code
def yX8_init : MethodName := ⟨RX8, "<init>", "()V"⟩
abbrev cX8_in : ByteArray := prog_10_method_3_code
def yX8_in : MethodName := ⟨RX8, "in", "(JJJ)Z"⟩
abbrev cX8_feed : ByteArray := prog_10_method_4_code
def yX8_feed : MethodName := ⟨RX8, "feed", "(J)I"⟩
abbrev cX8_end : ByteArray := prog_10_method_5_code
def yX8_end : MethodName := ⟨RX8, "end", "(I)I"⟩
abbrev cX8_byteAt : ByteArray := prog_10_method_6_code
def yX8_byteAt : MethodName := ⟨RX8, "byteAt", "(I)I"⟩
abbrev cX8_fails : ByteArray := prog_10_method_7_code
def yX8_fails : MethodName := ⟨RX8, "fails", "(I)V"⟩
abbrev cX8_nameHere : ByteArray := prog_10_method_8_code
def yX8_nameHere : MethodName := ⟨RX8, "nameHere", "()I"⟩
abbrev cX8_step : ByteArray := prog_10_method_9_code
def yX8_step : MethodName := ⟨RX8, "step", "()V"⟩
abbrev cX8_other : ByteArray := prog_10_method_10_code
def yX8_other : MethodName := ⟨RX8, "other", "(III)I"⟩
abbrev cX8_oneOf : ByteArray := prog_10_method_11_code
def yX8_oneOf : MethodName := ⟨RX8, "oneOf", "(I)I"⟩
abbrev cX8_readOne : ByteArray := prog_10_method_12_code
def yX8_readOne : MethodName := ⟨RX8, "readOne", "()V"⟩
abbrev cX8_readCoin : ByteArray := prog_10_method_13_code
def yX8_readCoin : MethodName := ⟨RX8, "readCoin", "()V"⟩
abbrev cX8_readTalk : ByteArray := prog_10_method_14_code
def yX8_readTalk : MethodName := ⟨RX8, "readTalk", "()V"⟩
abbrev cX8_hasRoom : ByteArray := prog_10_method_15_code
def yX8_hasRoom : MethodName := ⟨RX8, "hasRoom", "(I)Z"⟩
abbrev cX8_readMore : ByteArray := prog_10_method_16_code
def yX8_readMore : MethodName := ⟨RX8, "readMore", "(I)V"⟩
abbrev cX8_readLine : ByteArray := prog_10_method_17_code
def yX8_readLine : MethodName := ⟨RX8, "readLine", "()V"⟩
abbrev cX8_beginsText : ByteArray := prog_10_method_18_code
def yX8_beginsText : MethodName := ⟨RX8, "beginsText", "()V"⟩
abbrev cX8_text : ByteArray := prog_10_method_19_code
def yX8_text : MethodName := ⟨RX8, "text", "()I"⟩
abbrev cX8_fault : ByteArray := prog_10_method_20_code
def yX8_fault : MethodName := ⟨RX8, "fault", "()I"⟩
abbrev cX8_isOne : ByteArray := prog_10_method_21_code
def yX8_isOne : MethodName := ⟨RX8, "isOne", "(I)Z"⟩
abbrev cX8_isCoin : ByteArray := prog_10_method_22_code
def yX8_isCoin : MethodName := ⟨RX8, "isCoin", "(I)Z"⟩
abbrev cX8_isHour : ByteArray := prog_10_method_23_code
def yX8_isHour : MethodName := ⟨RX8, "isHour", "(I)Z"⟩
abbrev cX8_areTwo : ByteArray := prog_10_method_24_code
def yX8_areTwo : MethodName := ⟨RX8, "areTwo", "(II)Z"⟩
abbrev cX8_feeNow : ByteArray := prog_10_method_25_code
def yX8_feeNow : MethodName := ⟨RX8, "feeNow", "()I"⟩
abbrev cX8_rule : ByteArray := prog_10_method_26_code
def yX8_rule : MethodName := ⟨RX8, "rule", "(I)I"⟩
abbrev cX8_one : ByteArray := prog_10_method_27_code
def yX8_one : MethodName := ⟨RX8, "one", "(II)I"⟩
abbrev cX8_kindOf : ByteArray := prog_10_method_28_code
def yX8_kindOf : MethodName := ⟨RX8, "kindOf", "(I)I"⟩
abbrev cX8_lengthBy : ByteArray := prog_10_method_29_code
def yX8_lengthBy : MethodName := ⟨RX8, "lengthBy", "(II)I"⟩
abbrev cX8_ownerOf : ByteArray := prog_10_method_30_code
def yX8_ownerOf : MethodName := ⟨RX8, "ownerOf", "(I)I"⟩
abbrev cX8_isSpent : ByteArray := prog_10_method_31_code
def yX8_isSpent : MethodName := ⟨RX8, "isSpent", "(I)Z"⟩
abbrev cX8_coin : ByteArray := prog_10_method_32_code
def yX8_coin : MethodName := ⟨RX8, "coin", "(II)I"⟩
abbrev cX8_quietOf : ByteArray := prog_10_method_33_code
def yX8_quietOf : MethodName := ⟨RX8, "quietOf", "(I)I"⟩
abbrev cX8_isSilent : ByteArray := prog_10_method_34_code
def yX8_isSilent : MethodName := ⟨RX8, "isSilent", "(II)Z"⟩
abbrev cX8_isSaid : ByteArray := prog_10_method_35_code
def yX8_isSaid : MethodName := ⟨RX8, "isSaid", "(III)Z"⟩
abbrev cX8_isTalkSaid : ByteArray := prog_10_method_36_code
def yX8_isTalkSaid : MethodName := ⟨RX8, "isTalkSaid", "(I)Z"⟩
abbrev cX8_talk : ByteArray := prog_10_method_37_code
def yX8_talk : MethodName := ⟨RX8, "talk", "(II)I"⟩
abbrev cX8_silent : ByteArray := prog_10_method_38_code
def yX8_silent : MethodName := ⟨RX8, "silent", "(I)I"⟩
abbrev cX8_quiet : ByteArray := prog_10_method_39_code
def yX8_quiet : MethodName := ⟨RX8, "quiet", "(I)I"⟩
abbrev cX8_may : ByteArray := prog_10_method_40_code
def yX8_may : MethodName := ⟨RX8, "may", "(III)I"⟩
abbrev cX8_said : ByteArray := prog_10_method_41_code
def yX8_said : MethodName := ⟨RX8, "said", "()I"⟩
abbrev cX8_law : ByteArray := prog_10_method_42_code
def yX8_law : MethodName := ⟨RX8, "law", "(I)I"⟩
abbrev cX8_fee : ByteArray := prog_10_method_43_code
def yX8_fee : MethodName := ⟨RX8, "fee", "(I)I"⟩
abbrev cX8_give : ByteArray := prog_10_method_44_code
def yX8_give : MethodName := ⟨RX8, "give", "(II)I"⟩
abbrev cX8_clip : ByteArray := prog_10_method_45_code
def yX8_clip : MethodName := ⟨RX8, "clip", "(I)I"⟩
abbrev cX8_spend : ByteArray := prog_10_method_46_code
def yX8_spend : MethodName := ⟨RX8, "spend", "(II)I"⟩
abbrev cX8_undo : ByteArray := prog_10_method_47_code
def yX8_undo : MethodName := ⟨RX8, "undo", "(I)I"⟩
abbrev cX8_speaks : ByteArray := prog_10_method_48_code
def yX8_speaks : MethodName := ⟨RX8, "speaks", "(III)I"⟩
abbrev cX8_speak : ByteArray := prog_10_method_49_code
def yX8_speak : MethodName := ⟨RX8, "speak", "(III)I"⟩
abbrev cX8_layRumour : ByteArray := prog_10_method_50_code
def yX8_layRumour : MethodName := ⟨RX8, "layRumour", "(I)V"⟩
abbrev cX8_knows : ByteArray := prog_10_method_51_code
def yX8_knows : MethodName := ⟨RX8, "knows", "(II)I"⟩
abbrev cX8_learnsIn : ByteArray := prog_10_method_52_code
def yX8_learnsIn : MethodName := ⟨RX8, "learnsIn", "(II)I"⟩
abbrev cX8_learns : ByteArray := prog_10_method_53_code
def yX8_learns : MethodName := ⟨RX8, "learns", "(II)I"⟩
abbrev cX8_hush : ByteArray := prog_10_method_54_code
def yX8_hush : MethodName := ⟨RX8, "hush", "(III)I"⟩
abbrev cX8_hear : ByteArray := prog_10_method_55_code
def yX8_hear : MethodName := ⟨RX8, "hear", "(IZ)I"⟩
abbrev cX8_forget : ByteArray := prog_10_method_56_code
def yX8_forget : MethodName := ⟨RX8, "forget", "(I)I"⟩
abbrev cX8_first : ByteArray := prog_10_method_57_code
def yX8_first : MethodName := ⟨RX8, "first", "()I"⟩
abbrev cX8_funeralCost : ByteArray := prog_10_method_58_code
def yX8_funeralCost : MethodName := ⟨RX8, "funeralCost", "(III)I"⟩
abbrev cX8_funeral : ByteArray := prog_10_method_59_code
def yX8_funeral : MethodName := ⟨RX8, "funeral", "(III)I"⟩
abbrev cX8_raided : ByteArray := prog_10_method_60_code
def yX8_raided : MethodName := ⟨RX8, "raided", "(I)I"⟩
abbrev cX8_raid : ByteArray := prog_10_method_61_code
def yX8_raid : MethodName := ⟨RX8, "raid", "(I)I"⟩
abbrev cX8_unspent : ByteArray := prog_10_method_62_code
def yX8_unspent : MethodName := ⟨RX8, "unspent", "()I"⟩
abbrev cX8_pricedThen : ByteArray := prog_10_method_63_code
def yX8_pricedThen : MethodName := ⟨RX8, "pricedThen", "(I)I"⟩
abbrev cX8_settle : ByteArray := prog_10_method_64_code
def yX8_settle : MethodName := ⟨RX8, "settle", "(II)I"⟩
abbrev cX8_test : ByteArray := prog_10_method_65_code
def yX8_test : MethodName := ⟨RX8, "test", "(IZ)I"⟩
abbrev cX8_untest : ByteArray := prog_10_method_66_code
def yX8_untest : MethodName := ⟨RX8, "untest", "(I)I"⟩
abbrev cX8_canBeFalse : ByteArray := prog_10_method_67_code
def yX8_canBeFalse : MethodName := ⟨RX8, "canBeFalse", "(II)Z"⟩
abbrev cX8_fakes : ByteArray := prog_10_method_68_code
def yX8_fakes : MethodName := ⟨RX8, "fakes", "(II)I"⟩
abbrev cX8_next : ByteArray := prog_10_method_69_code
def yX8_next : MethodName := ⟨RX8, "next", "(II)I"⟩
abbrev cX8_draws : ByteArray := prog_10_method_70_code
def yX8_draws : MethodName := ⟨RX8, "draws", "(I)I"⟩
abbrev cX8_chatter : ByteArray := prog_10_method_71_code
def yX8_chatter : MethodName := ⟨RX8, "chatter", "(II)I"⟩
abbrev cX8_copies : ByteArray := prog_10_method_72_code
def yX8_copies : MethodName := ⟨RX8, "copies", "(II)V"⟩
abbrev cX8_keep : ByteArray := prog_10_method_73_code
def yX8_keep : MethodName := ⟨RX8, "keep", "(I)I"⟩
abbrev cX8_back : ByteArray := prog_10_method_74_code
def yX8_back : MethodName := ⟨RX8, "back", "(I)I"⟩
abbrev cX8_sheet : ByteArray := prog_10_method_75_code
def yX8_sheet : MethodName := ⟨RX8, "sheet", "(III)I"⟩
abbrev cX8_lay : ByteArray := prog_10_method_76_code
def yX8_lay : MethodName := ⟨RX8, "lay", "(III)I"⟩
abbrev cX8_read : ByteArray := prog_10_method_77_code
def yX8_read : MethodName := ⟨RX8, "read", "(IIII)I"⟩
abbrev cX8_torn : ByteArray := prog_10_method_78_code
def yX8_torn : MethodName := ⟨RX8, "torn", "()I"⟩
abbrev cX8_count : ByteArray := prog_10_method_79_code
def yX8_count : MethodName := ⟨RX8, "count", "(I)I"⟩
def RJ6 : String := "java/lang/Integer"
def TJ6 : u_T := fun k => match k with
  | _ => ("", "", "", false)
def tyJ6 : Nat → FieldType := fun k => match k with
  | _ => .int
abbrev wsJ60 : List Cond := u_ws RJ6 TJ6 0
theorem nmJ6 : ∀ a, a < 0 → ∀ b, b < 0 → a ≠ b → (TJ6 a).2.1 ≠ (TJ6 b).2.1 := by decide +kernel
theorem tyJ6_ok : ∀ k, k < 0 → parseFieldDescriptor (TJ6 k).2.2.1 = some (tyJ6 k) := by decide +kernel
abbrev cJ6_bitCount_0f7a4 : ByteArray := prog_11_method_49_code
def yJ6_bitCount_0f7a4 : MethodName := ⟨RJ6, "bitCount", "(I)I"⟩
def RJ9 : String := "java/lang/Math"
def TJ9 : u_T := fun k => match k with
  | _ => ("", "", "", false)
def tyJ9 : Nat → FieldType := fun k => match k with
  | _ => .int
abbrev wsJ90 : List Cond := u_ws RJ9 TJ9 0
theorem nmJ9 : ∀ a, a < 0 → ∀ b, b < 0 → a ≠ b → (TJ9 a).2.1 ≠ (TJ9 b).2.1 := by decide +kernel
theorem tyJ9_ok : ∀ k, k < 0 → parseFieldDescriptor (TJ9 k).2.2.1 = some (tyJ9 k) := by decide +kernel
abbrev cJ9_max_7cf53 : ByteArray := prog_12_method_65_code
def yJ9_max_7cf53 : MethodName := ⟨RJ9, "max", "(II)I"⟩
abbrev cJ9_min_7cf53 : ByteArray := prog_12_method_69_code
def yJ9_min_7cf53 : MethodName := ⟨RJ9, "min", "(II)I"⟩
def RJ0 : String := "java/lang/String"
def TJ0 : u_T := fun k => match k with
  | _ => ("", "", "", false)
def tyJ0 : Nat → FieldType := fun k => match k with
  | _ => .int
abbrev wsJ00 : List Cond := u_ws RJ0 TJ0 0
theorem nmJ0 : ∀ a, a < 0 → ∀ b, b < 0 → a ≠ b → (TJ0 a).2.1 ≠ (TJ0 b).2.1 := by decide +kernel
theorem tyJ0_ok : ∀ k, k < 0 → parseFieldDescriptor (TJ0 k).2.2.1 = some (tyJ0 k) := by decide +kernel
abbrev cJ0_length_8abf5 : ByteArray := prog_13_method_54_code
def yJ0_length_8abf5 : MethodName := ⟨RJ0, "length", "()I"⟩
abbrev cJ0_charAt_5068e : ByteArray := prog_13_method_56_code
def yJ0_charAt_5068e : MethodName := ⟨RJ0, "charAt", "(I)C"⟩
abbrev cJ0_coder_7d493 : ByteArray := prog_13_method_152_code
def yJ0_coder_7d493 : MethodName := ⟨RJ0, "coder", "()B"⟩
abbrev cJ0_isLatin1_aae02 : ByteArray := prog_13_method_154_code
def yJ0_isLatin1_aae02 : MethodName := ⟨RJ0, "isLatin1", "()Z"⟩
abbrev cJ0_checkIndex_df160 : ByteArray := prog_13_method_155_code
def yJ0_checkIndex_df160 : MethodName := ⟨RJ0, "checkIndex", "(II)V"⟩
def RJ1 : String := "java/lang/StringLatin1"
def TJ1 : u_T := fun k => match k with
  | _ => ("", "", "", false)
def tyJ1 : Nat → FieldType := fun k => match k with
  | _ => .int
abbrev wsJ10 : List Cond := u_ws RJ1 TJ1 0
theorem nmJ1 : ∀ a, a < 0 → ∀ b, b < 0 → a ≠ b → (TJ1 a).2.1 ≠ (TJ1 b).2.1 := by decide +kernel
theorem tyJ1_ok : ∀ k, k < 0 → parseFieldDescriptor (TJ1 k).2.2.1 = some (tyJ1 k) := by decide +kernel
abbrev cJ1_charAt_3b067 : ByteArray := prog_14_method_2_code
def yJ1_charAt_3b067 : MethodName := ⟨RJ1, "charAt", "([BI)C"⟩
def RJ2 : String := "java/lang/StringUTF16"
def TJ2 : u_T := fun k => match k with
  | _ => ("", "", "", false)
def tyJ2 : Nat → FieldType := fun k => match k with
  | _ => .int
abbrev wsJ20 : List Cond := u_ws RJ2 TJ2 0
theorem nmJ2 : ∀ a, a < 0 → ∀ b, b < 0 → a ≠ b → (TJ2 a).2.1 ≠ (TJ2 b).2.1 := by decide +kernel
theorem tyJ2_ok : ∀ k, k < 0 → parseFieldDescriptor (TJ2 k).2.2.1 = some (tyJ2 k) := by decide +kernel
abbrev cJ2_getChar_3b067 : ByteArray := prog_15_method_5_code
def yJ2_getChar_3b067 : MethodName := ⟨RJ2, "getChar", "([BI)C"⟩
abbrev cJ2_length_9d52b : ByteArray := prog_15_method_6_code
def yJ2_length_9d52b : MethodName := ⟨RJ2, "length", "([B)I"⟩
abbrev cJ2_charAt_3b067 : ByteArray := prog_15_method_83_code
def yJ2_charAt_3b067 : MethodName := ⟨RJ2, "charAt", "([BI)C"⟩
abbrev cJ2_checkIndex_2214a : ByteArray := prog_15_method_91_code
def yJ2_checkIndex_2214a : MethodName := ⟨RJ2, "checkIndex", "(I[B)V"⟩
def RJ10 : String := "java/lang/System"
def TJ10 : u_T := fun k => match k with
  | _ => ("", "", "", false)
def tyJ10 : Nat → FieldType := fun k => match k with
  | _ => .int
abbrev wsJ100 : List Cond := u_ws RJ10 TJ10 0
theorem nmJ10 : ∀ a, a < 0 → ∀ b, b < 0 → a ≠ b → (TJ10 a).2.1 ≠ (TJ10 b).2.1 := by decide +kernel
theorem tyJ10_ok : ∀ k, k < 0 → parseFieldDescriptor (TJ10 k).2.2.1 = some (tyJ10 k) := by decide +kernel
def RJ3 : String := "jdk/internal/util/Preconditions"
def TJ3 : u_T := fun k => match k with
  | _ => ("", "", "", false)
def tyJ3 : Nat → FieldType := fun k => match k with
  | _ => .int
abbrev wsJ30 : List Cond := u_ws RJ3 TJ3 0
theorem nmJ3 : ∀ a, a < 0 → ∀ b, b < 0 → a ≠ b → (TJ3 a).2.1 ≠ (TJ3 b).2.1 := by decide +kernel
theorem tyJ3_ok : ∀ k, k < 0 → parseFieldDescriptor (TJ3 k).2.2.1 = some (tyJ3 k) := by decide +kernel
abbrev cJ3_checkIndex_8e157 : ByteArray := prog_17_method_11_code
def yJ3_checkIndex_8e157 : MethodName := ⟨RJ3, "checkIndex", "(IILjava/util/function/BiFunction;)I"⟩
def RL : String := "SilenceCoinLaw"
abbrev cL_law : ByteArray := code
def yL_law : MethodName := ⟨RL, "law", "([I)Z"⟩
def wsL_law_r1 : List Cond := [Cond.classLink RL 7 RX7, Cond.instantiable RX7 10, Cond.initialized RX7, Cond.classLink RL 10 RX8, Cond.instantiable RX8 38, Cond.initialized RX8, Cond.constantLong RL 13 (4294967295), Cond.methodLink RL 9 yX7_init, Cond.instanceMethod yX7_init, Cond.code yX7_init cX7_init 2 none, Cond.methodLink RX7 1 objectInit, Cond.instanceMethod objectInit, Cond.code objectInit ⟨#[0xb1]⟩ 1 none, Cond.classLink RX7 7 RX4, Cond.instantiable RX4 2, Cond.initialized RX4, Cond.fieldLink RX7 10 "SilenceCoin" "tape" "LSilenceCoin$Tape;", Cond.classLink RX7 16 RX5, Cond.instantiable RX5 11, Cond.initialized RX5, Cond.fieldLink RX7 21 "SilenceCoin" "reader" "LSilenceCoin$TextReader;", Cond.classLink RX7 25 RX6, Cond.instantiable RX6 15, Cond.initialized RX6]
def wsL_law_r2 : List Cond := [Cond.fieldLink RX7 28 "SilenceCoin" "town" "LSilenceCoin$Town;", Cond.classLink RX7 32 RX2, Cond.instantiable RX2 5, Cond.initialized RX2, Cond.fieldLink RX7 37 "SilenceCoin" "rumours" "LSilenceCoin$Rumours;", Cond.classLink RX7 41 RX0, Cond.instantiable RX0 5, Cond.initialized RX0, Cond.fieldLink RX7 44 "SilenceCoin" "burial" "LSilenceCoin$Funeral;", Cond.classLink RX7 48 RX1, Cond.instantiable RX1 5, Cond.initialized RX1, Cond.fieldLink RX7 51 "SilenceCoin" "hisses" "LSilenceCoin$Hisses;", Cond.fieldLink RX7 55 "SilenceCoin" "images" "[LSilenceCoin$Town;", Cond.arrayClass .boolean, Cond.fieldLink RX7 59 "SilenceCoin" "isKept" "[Z", Cond.classLink RX7 63 RX3, Cond.fieldLink RX7 65 "SilenceCoin" "sheets" "[LSilenceCoin$Sheet;", Cond.instantiable RX3 3, Cond.initialized RX3, Cond.instanceMethod yX4_init, Cond.code yX4_init cX4_init 1 none, Cond.methodLink RX4 3 objectInit, Cond.arrayClass .byte]
def wsL_law_r3 : List Cond := [Cond.fieldLink RX4 11 "SilenceCoin$Tape" "bytes" "[B", Cond.methodLink RX7 18 yX5_init, Cond.instanceMethod yX5_init, Cond.code yX5_init cX5_init 2 none, Cond.methodLink RX5 3 objectInit, Cond.classLink RX5 9 RX6, Cond.fieldLink RX5 12 "SilenceCoin$TextReader" "draft" "LSilenceCoin$Town;", Cond.fieldLink RX5 18 "SilenceCoin$TextReader" "tape" "LSilenceCoin$Tape;", Cond.methodLink RX5 11 yX6_init, Cond.instanceMethod yX6_init, Cond.code yX6_init cX6_init 1 none, Cond.methodLink RX6 3 objectInit, Cond.arrayClass .int, Cond.fieldLink RX6 9 "SilenceCoin$Town" "kind" "[I", Cond.fieldLink RX6 15 "SilenceCoin$Town" "wish" "[I", Cond.fieldLink RX6 18 "SilenceCoin$Town" "purse" "[I", Cond.fieldLink RX6 21 "SilenceCoin$Town" "worth" "[I", Cond.fieldLink RX6 24 "SilenceCoin$Town" "owner" "[I", Cond.fieldLink RX6 27 "SilenceCoin$Town" "isClipped" "[Z", Cond.fieldLink RX6 31 "SilenceCoin$Town" "spentIn" "[I", Cond.fieldLink RX6 34 "SilenceCoin$Town" "talkHour" "[I", Cond.fieldLink RX6 37 "SilenceCoin$Town" "speaker" "[I", Cond.fieldLink RX6 40 "SilenceCoin$Town" "hearer" "[I", Cond.methodLink RX6 43 yX6_clear]
def wsL_law_r4 : List Cond := [Cond.instanceMethod yX6_clear, Cond.selects RX6 yX6_clear yX6_clear, Cond.code yX6_clear cX6_clear 2 none, Cond.fieldLink RX6 46 "SilenceCoin$Town" "people" "I", Cond.fieldLink RX6 50 "SilenceCoin$Town" "coins" "I", Cond.fieldLink RX6 53 "SilenceCoin$Town" "talks" "I", Cond.fieldLink RX6 56 "SilenceCoin$Town" "lawNow" "I", Cond.fieldLink RX6 59 "SilenceCoin$Town" "feeNow" "I", Cond.methodLink RX7 27 yX6_init, Cond.methodLink RX7 34 yX2_init, Cond.instanceMethod yX2_init, Cond.code yX2_init cX2_init 2 none, Cond.methodLink RX2 3 objectInit, Cond.fieldLink RX2 11 "SilenceCoin$Rumours" "knownOf" "[I", Cond.fieldLink RX2 15 "SilenceCoin$Rumours" "isKnower" "[Z", Cond.fieldLink RX2 19 "SilenceCoin$Rumours" "silentBits" "[I", Cond.fieldLink RX2 22 "SilenceCoin$Rumours" "town" "LSilenceCoin$Town;", Cond.methodLink RX7 43 yX0_init, Cond.instanceMethod yX0_init, Cond.code yX0_init cX0_init 2 none, Cond.methodLink RX0 3 objectInit, Cond.fieldLink RX0 9 "SilenceCoin$Funeral" "bestTo" "[I", Cond.fieldLink RX0 15 "SilenceCoin$Funeral" "givenTo" "[I", Cond.fieldLink RX0 18 "SilenceCoin$Funeral" "need" "[I"]
def wsL_law_r5 : List Cond := [Cond.fieldLink RX0 21 "SilenceCoin$Funeral" "town" "LSilenceCoin$Town;", Cond.instanceMethod yX1_init, Cond.code yX1_init cX1_init 1 none, Cond.methodLink RX1 3 objectInit, Cond.fieldLink RX1 11 "SilenceCoin$Hisses" "fitting" "[I", Cond.fieldLink RX1 15 "SilenceCoin$Hisses" "testedCoins" "[I", Cond.fieldLink RX1 18 "SilenceCoin$Hisses" "hasHissed" "[Z", Cond.instanceMethod yX3_init, Cond.code yX3_init cX3_init 1 none, Cond.methodLink RX3 3 objectInit, Cond.fieldLink RX3 11 "SilenceCoin$Sheet" "cells" "[I", Cond.fieldLink RX3 15 "SilenceCoin$Sheet" "lane" "I", Cond.methodLink RL 12 yX8_init, Cond.instanceMethod yX8_init, Cond.code yX8_init cX8_init 1 none, Cond.methodLink RX8 1 objectInit, Cond.fieldLink RX8 7 "SilenceCoinModel" "state" "[I", Cond.fieldLink RX8 13 "SilenceCoinModel" "people" "[I", Cond.fieldLink RX8 16 "SilenceCoinModel" "readPage" "[I", Cond.fieldLink RX8 19 "SilenceCoinModel" "readPeople" "[I", Cond.fieldLink RX8 22 "SilenceCoinModel" "spentIn" "[I", Cond.fieldLink RX8 25 "SilenceCoinModel" "tape" "[I", Cond.fieldLink RX8 28 "SilenceCoinModel" "cuts" "[I", Cond.fieldLink RX8 31 "SilenceCoinModel" "letters" "[I"]
def wsL_law_r6 : List Cond := [Cond.fieldLink RX8 34 "SilenceCoinModel" "knowAt" "[I", Cond.fieldLink RX8 37 "SilenceCoinModel" "known" "[I", Cond.fieldLink RX8 40 "SilenceCoinModel" "gets" "[I", Cond.fieldLink RX8 43 "SilenceCoinModel" "bestGets" "[I", Cond.fieldLink RX8 46 "SilenceCoinModel" "beenAt" "[I", Cond.fieldLink RX8 49 "SilenceCoinModel" "tested" "[I", Cond.fieldLink RX8 52 "SilenceCoinModel" "isKept" "[Z", Cond.fieldLink RX8 56 "SilenceCoinModel" "lanes" "[I", Cond.fieldLink RX8 59 "SilenceCoinModel" "lengths" "[I", Cond.fieldLink RX8 62 "SilenceCoinModel" "cells" "[I", Cond.methodLink RL 15 yX7_feed, Cond.instanceMethod yX7_feed, Cond.selects RX7 yX7_feed yX7_feed, Cond.code yX7_feed cX7_feed 3 (some .int), Cond.methodLink RX7 70 yX4_append, Cond.instanceMethod yX4_append, Cond.selects RX4 yX4_append yX4_append, Cond.code yX4_append cX4_append 4 (some .int), Cond.fieldLink RX4 15 "SilenceCoin$Tape" "length" "I", Cond.methodLink RL 19 yX8_feed, Cond.instanceMethod yX8_feed, Cond.selects RX8 yX8_feed yX8_feed, Cond.code yX8_feed cX8_feed 4 (some .int), Cond.fieldLink RX8 65 "SilenceCoinModel" "taped" "I"]
def wsL_law_r7 : List Cond := [Cond.methodLink RL 20 yX7_end, Cond.instanceMethod yX7_end, Cond.selects RX7 yX7_end yX7_end, Cond.code yX7_end cX7_end 2 (some .int), Cond.methodLink RX7 74 yX4_cutTo, Cond.instanceMethod yX4_cutTo, Cond.selects RX4 yX4_cutTo yX4_cutTo, Cond.code yX4_cutTo cX4_cutTo 3 (some .int), Cond.methodLink RL 24 yX8_end, Cond.instanceMethod yX8_end, Cond.selects RX8 yX8_end yX8_end, Cond.code yX8_end cX8_end 3 (some .int), Cond.methodLink RX8 69 yX8_in, Cond.static yX8_in, Cond.code yX8_in cX8_in 6 (some .boolean), Cond.methodLink RL 25 yX7_text, Cond.instanceMethod yX7_text, Cond.selects RX7 yX7_text yX7_text, Cond.code yX7_text cX7_text 3 (some .int), Cond.fieldLink RX7 82 "SilenceCoin$Tape" "length" "I", Cond.fieldLink RX7 86 "SilenceCoin$TextReader" "faultPlace" "I", Cond.fieldLink RX7 89 "SilenceCoin$TextReader" "draft" "LSilenceCoin$Town;", Cond.fieldLink RX7 95 "SilenceCoin$Rumours" "known" "I", Cond.fieldLink RX7 98 "SilenceCoin$Hisses" "tested" "I"]
def wsL_law_r8 : List Cond := [Cond.fieldLink RX7 101 "SilenceCoin$TextReader" "lines" "I", Cond.methodLink RX7 78 yX5_readTape, Cond.instanceMethod yX5_readTape, Cond.selects RX5 yX5_readTape yX5_readTape, Cond.code yX5_readTape cX5_readTape 2 (some .boolean), Cond.fieldLink RX5 25 "SilenceCoin$TextReader" "lines" "I", Cond.fieldLink RX5 29 "SilenceCoin$TextReader" "faultKind" "I", Cond.fieldLink RX5 32 "SilenceCoin$TextReader" "faultPlace" "I", Cond.fieldLink RX5 35 "SilenceCoin$TextReader" "isLawTold" "Z", Cond.fieldLink RX5 39 "SilenceCoin$TextReader" "isFeeTold" "Z", Cond.fieldLink RX5 42 "SilenceCoin$TextReader" "behind" "I", Cond.fieldLink RX5 45 "SilenceCoin$Tape" "length" "I", Cond.fieldLink RX5 54 "SilenceCoin$TextReader" "token" "I", Cond.methodLink RX5 22 yX6_clear, Cond.methodLink RX5 50 yX5_readToken, Cond.instanceMethod yX5_readToken, Cond.selects RX5 yX5_readToken yX5_readToken, Cond.code yX5_readToken cX5_readToken 3 (some .boolean), Cond.fieldLink RX5 63 "SilenceCoin$TextReader" "start" "I", Cond.fieldLink RX5 66 "SilenceCoin$Tape" "bytes" "[B", Cond.methodLink RX5 70 yX5_tokenBegunBy, Cond.static yX5_tokenBegunBy, Cond.code yX5_tokenBegunBy cX5_tokenBegunBy 1 (some .int), Cond.methodLink RX5 74 yX5_fail]
def wsL_law_r9 : List Cond := [Cond.instanceMethod yX5_fail, Cond.selects RX5 yX5_fail yX5_fail, Cond.code yX5_fail cX5_fail 3 (some .boolean), Cond.methodLink RX5 57 yX5_checkNamed, Cond.instanceMethod yX5_checkNamed, Cond.selects RX5 yX5_checkNamed yX5_checkNamed, Cond.code yX5_checkNamed cX5_checkNamed 3 (some .boolean), Cond.fieldLink RX5 171 "SilenceCoin$Town" "owner" "[I", Cond.fieldLink RX5 187 "SilenceCoin$Town" "talks" "I", Cond.fieldLink RX5 200 "SilenceCoin$Town" "speaker" "[I", Cond.fieldLink RX5 203 "SilenceCoin$Town" "hearer" "[I", Cond.methodLink RX5 194 yX6_hasCoin, Cond.instanceMethod yX6_hasCoin, Cond.selects RX6 yX6_hasCoin yX6_hasCoin, Cond.code yX6_hasCoin cX6_hasCoin 2 (some .boolean), Cond.methodLink RX5 197 yX6_hasOne, Cond.instanceMethod yX6_hasOne, Cond.selects RX6 yX6_hasOne yX6_hasOne, Cond.code yX6_hasOne cX6_hasOne 2 (some .boolean), Cond.methodLink RX5 180 yX6_isSpent, Cond.instanceMethod yX6_isSpent, Cond.selects RX6 yX6_isSpent yX6_isSpent, Cond.code yX6_isSpent cX6_isSpent 2 (some .boolean), Cond.methodLink RX5 60 yX5_readLine]
def wsL_law_r10 : List Cond := [Cond.instanceMethod yX5_readLine, Cond.selects RX5 yX5_readLine yX5_readLine, Cond.code yX5_readLine cX5_readLine 1 (some .boolean), Cond.methodLink RX5 95 yX5_isName, Cond.instanceMethod yX5_isName, Cond.selects RX5 yX5_isName yX5_isName, Cond.code yX5_isName cX5_isName 3 (some .boolean), Cond.methodLink RX5 78 yJ0_length_8abf5, Cond.instanceMethod yJ0_length_8abf5, Cond.selects RJ0 yJ0_length_8abf5 yJ0_length_8abf5, Cond.initialized RJ0, Cond.code yJ0_length_8abf5 cJ0_length_8abf5 1 (some .int), Cond.fieldLink RJ0 9 "java/lang/String" "value" "[B", Cond.methodLink RJ0 335 yJ0_coder_7d493, Cond.instanceMethod yJ0_coder_7d493, Cond.selects RJ0 yJ0_coder_7d493 yJ0_coder_7d493, Cond.code yJ0_coder_7d493 cJ0_coder_7d493 1 (some .byte), Cond.fieldLink RJ0 38 "java/lang/String" "COMPACT_STRINGS" "Z", Cond.fieldLink RJ0 15 "java/lang/String" "coder" "B", Cond.methodLink RX5 83 yJ0_charAt_5068e, Cond.instanceMethod yJ0_charAt_5068e, Cond.selects RJ0 yJ0_charAt_5068e yJ0_charAt_5068e, Cond.code yJ0_charAt_5068e cJ0_charAt_5068e 2 (some .char), Cond.methodLink RJ0 492 yJ0_isLatin1_aae02]
def wsL_law_r11 : List Cond := [Cond.instanceMethod yJ0_isLatin1_aae02, Cond.selects RJ0 yJ0_isLatin1_aae02 yJ0_isLatin1_aae02, Cond.code yJ0_isLatin1_aae02 cJ0_isLatin1_aae02 1 (some .boolean), Cond.methodLink RJ0 495 yJ1_charAt_3b067, Cond.static yJ1_charAt_3b067, Cond.initialized RJ1, Cond.code yJ1_charAt_3b067 cJ1_charAt_3b067 2 (some .char), Cond.methodLink RJ1 9 yJ0_checkIndex_df160, Cond.static yJ0_checkIndex_df160, Cond.code yJ0_checkIndex_df160 cJ0_checkIndex_df160 2 none, Cond.fieldLink RJ0 1053 "jdk/internal/util/Preconditions" "SIOOBE_FORMATTER" "Ljava/util/function/BiFunction;", Cond.methodLink RJ0 1059 yJ3_checkIndex_8e157, Cond.static yJ3_checkIndex_8e157, Cond.initialized RJ3, Cond.code yJ3_checkIndex_8e157 cJ3_checkIndex_8e157 3 (some .int), Cond.methodLink RJ0 498 yJ2_charAt_3b067, Cond.static yJ2_charAt_3b067, Cond.initialized RJ2, Cond.code yJ2_charAt_3b067 cJ2_charAt_3b067 2 (some .char), Cond.methodLink RJ2 67 yJ2_checkIndex_2214a, Cond.static yJ2_checkIndex_2214a, Cond.code yJ2_checkIndex_2214a cJ2_checkIndex_2214a 2 none, Cond.methodLink RJ2 48 yJ2_length_9d52b, Cond.static yJ2_length_9d52b]
def wsL_law_r12 : List Cond := [Cond.code yJ2_length_9d52b cJ2_length_9d52b 1 (some .int), Cond.methodLink RJ2 414 yJ0_checkIndex_df160, Cond.methodLink RJ2 71 yJ2_getChar_3b067, Cond.static yJ2_getChar_3b067, Cond.code yJ2_getChar_3b067 cJ2_getChar_3b067 2 (some .char), Cond.fieldLink RJ2 44 "java/lang/StringUTF16" "$assertionsDisabled" "Z", Cond.fieldLink RJ2 59 "java/lang/StringUTF16" "HI_BYTE_SHIFT" "I", Cond.fieldLink RJ2 63 "java/lang/StringUTF16" "LO_BYTE_SHIFT" "I", Cond.methodLink RX5 99 yX5_readLaw, Cond.instanceMethod yX5_readLaw, Cond.selects RX5 yX5_readLaw yX5_readLaw, Cond.code yX5_readLaw cX5_readLaw 1 (some .boolean), Cond.fieldLink RX5 87 "SilenceCoin$TextReader" "number" "I", Cond.fieldLink RX5 130 "SilenceCoin$Town" "lawNow" "I", Cond.methodLink RX5 127 yX5_readNumber, Cond.instanceMethod yX5_readNumber, Cond.selects RX5 yX5_readNumber yX5_readNumber, Cond.code yX5_readNumber cX5_readNumber 4 (some .boolean), Cond.methodLink RX5 133 yX5_readStop, Cond.instanceMethod yX5_readStop, Cond.selects RX5 yX5_readStop yX5_readStop, Cond.code yX5_readStop cX5_readStop 1 (some .boolean), Cond.methodLink RX5 90 yX5_checkStop, Cond.instanceMethod yX5_checkStop]
def wsL_law_r13 : List Cond := [Cond.selects RX5 yX5_checkStop yX5_checkStop, Cond.code yX5_checkStop cX5_checkStop 1 (some .boolean), Cond.methodLink RX5 104 yX5_readFee, Cond.instanceMethod yX5_readFee, Cond.selects RX5 yX5_readFee yX5_readFee, Cond.code yX5_readFee cX5_readFee 1 (some .boolean), Cond.fieldLink RX5 136 "SilenceCoin$Town" "feeNow" "I", Cond.methodLink RX5 109 yX5_readOne, Cond.instanceMethod yX5_readOne, Cond.selects RX5 yX5_readOne yX5_readOne, Cond.code yX5_readOne cX5_readOne 2 (some .boolean), Cond.fieldLink RX5 139 "SilenceCoin$Town" "people" "I", Cond.fieldLink RX5 142 "SilenceCoin$Town" "kind" "[I", Cond.fieldLink RX5 149 "SilenceCoin$Town" "wish" "[I", Cond.fieldLink RX5 152 "SilenceCoin$Town" "purse" "[I", Cond.methodLink RX5 146 yX5_kindNamed, Cond.instanceMethod yX5_kindNamed, Cond.selects RX5 yX5_kindNamed yX5_kindNamed, Cond.code yX5_kindNamed cX5_kindNamed 1 (some .int), Cond.methodLink RX5 114 yX5_readCoin, Cond.instanceMethod yX5_readCoin, Cond.selects RX5 yX5_readCoin yX5_readCoin, Cond.code yX5_readCoin cX5_readCoin 2 (some .boolean), Cond.fieldLink RX5 165 "SilenceCoin$Town" "coins" "I"]
def wsL_law_r14 : List Cond := [Cond.fieldLink RX5 168 "SilenceCoin$Town" "worth" "[I", Cond.fieldLink RX5 176 "SilenceCoin$Town" "isClipped" "[Z", Cond.methodLink RX5 119 yX5_readSpend, Cond.instanceMethod yX5_readSpend, Cond.selects RX5 yX5_readSpend yX5_readSpend, Cond.code yX5_readSpend cX5_readSpend 2 (some .boolean), Cond.fieldLink RX5 184 "SilenceCoin$Town" "spentIn" "[I", Cond.methodLink RX5 124 yX5_readTalk, Cond.instanceMethod yX5_readTalk, Cond.selects RX5 yX5_readTalk yX5_readTalk, Cond.code yX5_readTalk cX5_readTalk 3 (some .boolean), Cond.methodLink RX5 190 yX6_putTalk, Cond.instanceMethod yX6_putTalk, Cond.selects RX6 yX6_putTalk yX6_putTalk, Cond.code yX6_putTalk cX6_putTalk 4 none, Cond.methodLink RX7 92 yX6_copyFrom, Cond.instanceMethod yX6_copyFrom, Cond.selects RX6 yX6_copyFrom yX6_copyFrom, Cond.code yX6_copyFrom cX6_copyFrom 3 none, Cond.methodLink RX6 62 arraycopyName, Cond.native arraycopyName, Cond.static arraycopyName, Cond.initialized "java/lang/System", Cond.methodLink RL 29 yX8_text]
def wsL_law_r15 : List Cond := [Cond.instanceMethod yX8_text, Cond.selects RX8 yX8_text yX8_text, Cond.code yX8_text cX8_text 3 (some .int), Cond.fieldLink RX8 73 "SilenceCoinModel" "broken" "I", Cond.fieldLink RX8 82 "SilenceCoinModel" "token" "I", Cond.fieldLink RX8 114 "SilenceCoinModel" "highOne" "I", Cond.fieldLink RX8 121 "SilenceCoinModel" "readOnes" "I", Cond.fieldLink RX8 136 "SilenceCoinModel" "highCoin" "I", Cond.fieldLink RX8 124 "SilenceCoinModel" "readCoins" "I", Cond.fieldLink RX8 163 "SilenceCoinModel" "fault" "I", Cond.fieldLink RX8 79 "SilenceCoinModel" "brokenAt" "I", Cond.fieldLink RX8 166 "SilenceCoinModel" "oneMany" "I", Cond.fieldLink RX8 169 "SilenceCoinModel" "coinMany" "I", Cond.fieldLink RX8 172 "SilenceCoinModel" "knownMany" "I", Cond.fieldLink RX8 175 "SilenceCoinModel" "testedMany" "I", Cond.methodLink RX8 157 yX8_beginsText, Cond.instanceMethod yX8_beginsText, Cond.selects RX8 yX8_beginsText yX8_beginsText, Cond.code yX8_beginsText cX8_beginsText 2 none, Cond.fieldLink RX8 85 "SilenceCoinModel" "spot" "I", Cond.fieldLink RX8 130 "SilenceCoinModel" "toldOnce" "I", Cond.fieldLink RX8 133 "SilenceCoinModel" "spentOnes" "I", Cond.methodLink RX8 107 yX8_step, Cond.instanceMethod yX8_step]
def wsL_law_r16 : List Cond := [Cond.selects RX8 yX8_step yX8_step, Cond.code yX8_step cX8_step 2 none, Cond.fieldLink RX8 76 "SilenceCoinModel" "here" "I", Cond.fieldLink RX8 92 "SilenceCoinModel" "value" "I", Cond.constantLong RX8 95 (97), Cond.constantLong RX8 97 (122), Cond.constantLong RX8 99 (48), Cond.constantLong RX8 101 (57), Cond.methodLink RX8 88 yX8_byteAt, Cond.instanceMethod yX8_byteAt, Cond.selects RX8 yX8_byteAt yX8_byteAt, Cond.code yX8_byteAt cX8_byteAt 2 (some .int), Cond.methodLink RX8 103 yX8_fails, Cond.instanceMethod yX8_fails, Cond.selects RX8 yX8_fails yX8_fails, Cond.code yX8_fails cX8_fails 2 none, Cond.methodLink RX8 160 yX8_readLine, Cond.instanceMethod yX8_readLine, Cond.selects RX8 yX8_readLine yX8_readLine, Cond.code yX8_readLine cX8_readLine 2 none, Cond.constantLong RX8 139 (5), Cond.methodLink RX8 117 yX8_nameHere, Cond.instanceMethod yX8_nameHere, Cond.selects RX8 yX8_nameHere yX8_nameHere]
def wsL_law_r17 : List Cond := [Cond.code yX8_nameHere cX8_nameHere 4 (some .int), Cond.methodLink RX8 141 yX8_hasRoom, Cond.instanceMethod yX8_hasRoom, Cond.selects RX8 yX8_hasRoom yX8_hasRoom, Cond.code yX8_hasRoom cX8_hasRoom 3 (some .boolean), Cond.methodLink RX8 145 yX8_readOne, Cond.instanceMethod yX8_readOne, Cond.selects RX8 yX8_readOne yX8_readOne, Cond.code yX8_readOne cX8_readOne 3 none, Cond.methodLink RX8 110 yX8_other, Cond.instanceMethod yX8_other, Cond.selects RX8 yX8_other yX8_other, Cond.code yX8_other cX8_other 5 (some .int), Cond.methodLink RX8 148 yX8_readCoin, Cond.instanceMethod yX8_readCoin, Cond.selects RX8 yX8_readCoin yX8_readCoin, Cond.code yX8_readCoin cX8_readCoin 2 none, Cond.methodLink RX8 127 yX8_oneOf, Cond.instanceMethod yX8_oneOf, Cond.selects RX8 yX8_oneOf yX8_oneOf, Cond.code yX8_oneOf cX8_oneOf 3 (some .int), Cond.methodLink RX8 151 yX8_readTalk, Cond.instanceMethod yX8_readTalk, Cond.selects RX8 yX8_readTalk yX8_readTalk]
def wsL_law_r18 : List Cond := [Cond.code yX8_readTalk cX8_readTalk 2 none, Cond.methodLink RX8 154 yX8_readMore, Cond.instanceMethod yX8_readMore, Cond.selects RX8 yX8_readMore yX8_readMore, Cond.code yX8_readMore cX8_readMore 3 none, Cond.methodLink RL 30 yX7_fault, Cond.instanceMethod yX7_fault, Cond.selects RX7 yX7_fault yX7_fault, Cond.code yX7_fault cX7_fault 1 (some .int), Cond.fieldLink RX7 104 "SilenceCoin$TextReader" "faultKind" "I", Cond.methodLink RL 33 yX8_fault, Cond.instanceMethod yX8_fault, Cond.selects RX8 yX8_fault yX8_fault, Cond.code yX8_fault cX8_fault 1 (some .int), Cond.methodLink RL 34 yX7_rule, Cond.instanceMethod yX7_rule, Cond.selects RX7 yX7_rule yX7_rule, Cond.code yX7_rule cX7_rule 2 (some .int), Cond.fieldLink RX7 107 "SilenceCoin$Town" "people" "I", Cond.fieldLink RX7 110 "SilenceCoin$Town" "coins" "I", Cond.fieldLink RX7 113 "SilenceCoin$Town" "talks" "I", Cond.fieldLink RX7 116 "SilenceCoin$Town" "lawNow" "I", Cond.fieldLink RX7 119 "SilenceCoin$Town" "feeNow" "I", Cond.methodLink RL 37 yX8_rule]
def wsL_law_r19 : List Cond := [Cond.instanceMethod yX8_rule, Cond.selects RX8 yX8_rule yX8_rule, Cond.code yX8_rule cX8_rule 2 (some .int), Cond.methodLink RX8 183 yX8_feeNow, Cond.instanceMethod yX8_feeNow, Cond.selects RX8 yX8_feeNow yX8_feeNow, Cond.code yX8_feeNow cX8_feeNow 1 (some .int), Cond.methodLink RL 38 yX7_one, Cond.instanceMethod yX7_one, Cond.selects RX7 yX7_one yX7_one, Cond.code yX7_one cX7_one 3 (some .int), Cond.fieldLink RX7 126 "SilenceCoin$Town" "kind" "[I", Cond.fieldLink RX7 130 "SilenceCoin$Town" "wish" "[I", Cond.fieldLink RX7 133 "SilenceCoin$Town" "purse" "[I", Cond.methodLink RX7 122 yX6_hasOne, Cond.methodLink RL 42 yX8_one, Cond.instanceMethod yX8_one, Cond.selects RX8 yX8_one yX8_one, Cond.code yX8_one cX8_one 3 (some .int), Cond.constantLong RX8 186 (2), Cond.methodLink RX8 180 yX8_isOne, Cond.instanceMethod yX8_isOne, Cond.selects RX8 yX8_isOne yX8_isOne, Cond.code yX8_isOne cX8_isOne 2 (some .boolean)]
def wsL_law_r20 : List Cond := [Cond.methodLink RL 43 yX7_coin, Cond.instanceMethod yX7_coin, Cond.selects RX7 yX7_coin yX7_coin, Cond.code yX7_coin cX7_coin 3 (some .int), Cond.fieldLink RX7 139 "SilenceCoin$Town" "worth" "[I", Cond.fieldLink RX7 142 "SilenceCoin$Town" "owner" "[I", Cond.fieldLink RX7 145 "SilenceCoin$Town" "isClipped" "[Z", Cond.fieldLink RX7 152 "SilenceCoin$Town" "spentIn" "[I", Cond.methodLink RX7 136 yX6_hasCoin, Cond.methodLink RX7 148 yX7_oneIf, Cond.static yX7_oneIf, Cond.code yX7_oneIf cX7_oneIf 1 (some .int), Cond.methodLink RX7 155 yX6_lengthBy, Cond.instanceMethod yX6_lengthBy, Cond.selects RX6 yX6_lengthBy yX6_lengthBy, Cond.code yX6_lengthBy cX6_lengthBy 4 (some .int), Cond.methodLink RX6 83 Lib.Math.max.name, Cond.static Lib.Math.max.name, Cond.initialized "java/lang/Math", Cond.code Lib.Math.max.name Lib.Math.max.code 2 (some .int), Cond.methodLink RL 46 yX8_coin, Cond.instanceMethod yX8_coin, Cond.selects RX8 yX8_coin yX8_coin, Cond.code yX8_coin cX8_coin 3 (some .int)]
def wsL_law_r21 : List Cond := [Cond.constantLong RX8 194 (4), Cond.methodLink RX8 191 yX8_isCoin, Cond.instanceMethod yX8_isCoin, Cond.selects RX8 yX8_isCoin yX8_isCoin, Cond.code yX8_isCoin cX8_isCoin 2 (some .boolean), Cond.methodLink RX8 196 yX8_ownerOf, Cond.instanceMethod yX8_ownerOf, Cond.selects RX8 yX8_ownerOf yX8_ownerOf, Cond.code yX8_ownerOf cX8_ownerOf 2 (some .int), Cond.methodLink RX8 199 yX8_lengthBy, Cond.instanceMethod yX8_lengthBy, Cond.selects RX8 yX8_lengthBy yX8_lengthBy, Cond.code yX8_lengthBy cX8_lengthBy 4 (some .int), Cond.methodLink RX8 188 yX8_kindOf, Cond.instanceMethod yX8_kindOf, Cond.selects RX8 yX8_kindOf yX8_kindOf, Cond.code yX8_kindOf cX8_kindOf 2 (some .int), Cond.methodLink RX8 203 yX8_isSpent, Cond.instanceMethod yX8_isSpent, Cond.selects RX8 yX8_isSpent yX8_isSpent, Cond.code yX8_isSpent cX8_isSpent 2 (some .boolean), Cond.methodLink RL 47 yX7_talk, Cond.instanceMethod yX7_talk, Cond.selects RX7 yX7_talk yX7_talk]
def wsL_law_r22 : List Cond := [Cond.code yX7_talk cX7_talk 3 (some .int), Cond.fieldLink RX7 159 "SilenceCoin$Town" "talkHour" "[I", Cond.fieldLink RX7 162 "SilenceCoin$Town" "speaker" "[I", Cond.fieldLink RX7 165 "SilenceCoin$Town" "hearer" "[I", Cond.methodLink RX7 168 yX6_isTalkSaid, Cond.instanceMethod yX6_isTalkSaid, Cond.selects RX6 yX6_isTalkSaid yX6_isTalkSaid, Cond.code yX6_isTalkSaid cX6_isTalkSaid 2 (some .boolean), Cond.methodLink RX6 103 yX6_silentOnes, Cond.instanceMethod yX6_silentOnes, Cond.selects RX6 yX6_silentOnes yX6_silentOnes, Cond.code yX6_silentOnes cX6_silentOnes 4 (some .int), Cond.methodLink RX6 92 yX6_isSpent, Cond.methodLink RX6 95 yX6_silencedBy, Cond.instanceMethod yX6_silencedBy, Cond.selects RX6 yX6_silencedBy yX6_silencedBy, Cond.code yX6_silencedBy cX6_silencedBy 5 (some .int), Cond.methodLink RX6 89 yX6_lengthBy, Cond.methodLink RX6 107 yX6_isSaid, Cond.instanceMethod yX6_isSaid, Cond.selects RX6 yX6_isSaid yX6_isSaid, Cond.code yX6_isSaid cX6_isSaid 6 (some .boolean), Cond.static yX7_hasBit, Cond.code yX7_hasBit cX7_hasBit 2 (some .boolean)]
def wsL_law_r23 : List Cond := [Cond.methodLink RL 50 yX8_talk, Cond.instanceMethod yX8_talk, Cond.selects RX8 yX8_talk yX8_talk, Cond.code yX8_talk cX8_talk 3 (some .int), Cond.constantLong RX8 217 (3), Cond.methodLink RX8 219 yX8_isTalkSaid, Cond.instanceMethod yX8_isTalkSaid, Cond.selects RX8 yX8_isTalkSaid yX8_isTalkSaid, Cond.code yX8_isTalkSaid cX8_isTalkSaid 3 (some .boolean), Cond.methodLink RX8 213 yX8_isSaid, Cond.instanceMethod yX8_isSaid, Cond.selects RX8 yX8_isSaid yX8_isSaid, Cond.code yX8_isSaid cX8_isSaid 6 (some .boolean), Cond.methodLink RX8 209 yX8_isSilent, Cond.instanceMethod yX8_isSilent, Cond.selects RX8 yX8_isSilent yX8_isSilent, Cond.code yX8_isSilent cX8_isSilent 3 (some .boolean), Cond.methodLink RX8 206 yX8_quietOf, Cond.instanceMethod yX8_quietOf, Cond.selects RX8 yX8_quietOf yX8_quietOf, Cond.code yX8_quietOf cX8_quietOf 4 (some .int), Cond.methodLink RL 51 yX7_law, Cond.instanceMethod yX7_law, Cond.selects RX7 yX7_law yX7_law]
def wsL_law_r24 : List Cond := [Cond.code yX7_law cX7_law 3 (some .int), Cond.methodLink RL 54 yX8_law, Cond.instanceMethod yX8_law, Cond.selects RX8 yX8_law yX8_law, Cond.code yX8_law cX8_law 3 (some .int), Cond.methodLink RL 55 yX7_fee, Cond.instanceMethod yX7_fee, Cond.selects RX7 yX7_fee yX7_fee, Cond.code yX7_fee cX7_fee 3 (some .int), Cond.methodLink RL 58 yX8_fee, Cond.instanceMethod yX8_fee, Cond.selects RX8 yX8_fee yX8_fee, Cond.code yX8_fee cX8_fee 3 (some .int), Cond.constantLong RX8 228 (9), Cond.methodLink RL 59 yX7_give, Cond.instanceMethod yX7_give, Cond.selects RX7 yX7_give yX7_give, Cond.code yX7_give cX7_give 4 (some .int), Cond.methodLink RX7 171 yX6_isSpent, Cond.methodLink RL 62 yX8_give, Cond.instanceMethod yX8_give, Cond.selects RX8 yX8_give yX8_give, Cond.code yX8_give cX8_give 4 (some .int), Cond.methodLink RL 63 yX7_clip]
def wsL_law_r25 : List Cond := [Cond.instanceMethod yX7_clip, Cond.selects RX7 yX7_clip yX7_clip, Cond.code yX7_clip cX7_clip 3 (some .int), Cond.methodLink RL 66 yX8_clip, Cond.instanceMethod yX8_clip, Cond.selects RX8 yX8_clip yX8_clip, Cond.code yX8_clip cX8_clip 3 (some .int), Cond.methodLink RL 67 yX7_spend, Cond.instanceMethod yX7_spend, Cond.selects RX7 yX7_spend yX7_spend, Cond.code yX7_spend cX7_spend 3 (some .int), Cond.methodLink RX7 174 yX7_isHour, Cond.static yX7_isHour, Cond.code yX7_isHour cX7_isHour 1 (some .boolean), Cond.methodLink RL 70 yX8_spend, Cond.instanceMethod yX8_spend, Cond.selects RX8 yX8_spend yX8_spend, Cond.code yX8_spend cX8_spend 3 (some .int), Cond.methodLink RX8 222 yX8_isHour, Cond.static yX8_isHour, Cond.code yX8_isHour cX8_isHour 1 (some .boolean), Cond.constantLong RX8 178 (11), Cond.methodLink RL 71 yX7_undo, Cond.instanceMethod yX7_undo]
def wsL_law_r26 : List Cond := [Cond.selects RX7 yX7_undo yX7_undo, Cond.code yX7_undo cX7_undo 3 (some .int), Cond.methodLink RL 74 yX8_undo, Cond.instanceMethod yX8_undo, Cond.selects RX8 yX8_undo yX8_undo, Cond.code yX8_undo cX8_undo 3 (some .int), Cond.methodLink RL 75 yX7_speak, Cond.instanceMethod yX7_speak, Cond.selects RX7 yX7_speak yX7_speak, Cond.code yX7_speak cX7_speak 4 (some .int), Cond.methodLink RX7 177 yX6_addTalk, Cond.instanceMethod yX6_addTalk, Cond.selects RX6 yX6_addTalk yX6_addTalk, Cond.code yX6_addTalk cX6_addTalk 4 (some .int), Cond.methodLink RX6 75 yX6_canTalk, Cond.instanceMethod yX6_canTalk, Cond.selects RX6 yX6_canTalk yX6_canTalk, Cond.code yX6_canTalk cX6_canTalk 4 (some .boolean), Cond.methodLink RX6 72 yX6_hasOne, Cond.methodLink RX6 79 yX6_putTalk, Cond.methodLink RL 79 yX8_speak, Cond.instanceMethod yX8_speak, Cond.selects RX8 yX8_speak yX8_speak, Cond.code yX8_speak cX8_speak 4 (some .int)]
def wsL_law_r27 : List Cond := [Cond.methodLink RX8 230 yX8_speaks, Cond.instanceMethod yX8_speaks, Cond.selects RX8 yX8_speaks yX8_speaks, Cond.code yX8_speaks cX8_speaks 5 (some .int), Cond.methodLink RX8 225 yX8_areTwo, Cond.instanceMethod yX8_areTwo, Cond.selects RX8 yX8_areTwo yX8_areTwo, Cond.code yX8_areTwo cX8_areTwo 3 (some .boolean), Cond.methodLink RL 80 yX7_silent, Cond.instanceMethod yX7_silent, Cond.selects RX7 yX7_silent yX7_silent, Cond.code yX7_silent cX7_silent 2 (some .int), Cond.methodLink RX7 181 yX6_silentOnes, Cond.methodLink RL 83 yX8_silent, Cond.instanceMethod yX8_silent, Cond.selects RX8 yX8_silent yX8_silent, Cond.code yX8_silent cX8_silent 4 (some .int), Cond.methodLink RL 84 yX7_quiet, Cond.instanceMethod yX7_quiet, Cond.selects RX7 yX7_quiet yX7_quiet, Cond.code yX7_quiet cX7_quiet 4 (some .int), Cond.methodLink RX7 184 yX7_hasBit, Cond.methodLink RL 87 yX8_quiet, Cond.instanceMethod yX8_quiet]
def wsL_law_r28 : List Cond := [Cond.selects RX8 yX8_quiet yX8_quiet, Cond.code yX8_quiet cX8_quiet 2 (some .int), Cond.methodLink RL 88 yX7_may, Cond.instanceMethod yX7_may, Cond.selects RX7 yX7_may yX7_may, Cond.code yX7_may cX7_may 4 (some .int), Cond.methodLink RX7 188 yX6_canTalk, Cond.methodLink RX7 192 yX6_isSaid, Cond.methodLink RL 91 yX8_may, Cond.instanceMethod yX8_may, Cond.selects RX8 yX8_may yX8_may, Cond.code yX8_may cX8_may 4 (some .int), Cond.methodLink RL 92 yX7_said, Cond.instanceMethod yX7_said, Cond.selects RX7 yX7_said yX7_said, Cond.code yX7_said cX7_said 3 (some .int), Cond.methodLink RL 95 yX8_said, Cond.instanceMethod yX8_said, Cond.selects RX8 yX8_said yX8_said, Cond.code yX8_said cX8_said 3 (some .int), Cond.methodLink RL 96 yX7_knows, Cond.instanceMethod yX7_knows, Cond.selects RX7 yX7_knows yX7_knows, Cond.code yX7_knows cX7_knows 3 (some .int)]
def wsL_law_r29 : List Cond := [Cond.methodLink RX7 195 yX2_takeSilence, Cond.instanceMethod yX2_takeSilence, Cond.selects RX2 yX2_takeSilence yX2_takeSilence, Cond.code yX2_takeSilence cX2_takeSilence 2 none, Cond.methodLink RX2 30 yX6_silentOnes, Cond.methodLink RX7 198 yX2_knowersBehind, Cond.instanceMethod yX2_knowersBehind, Cond.selects RX2 yX2_knowersBehind yX2_knowersBehind, Cond.code yX2_knowersBehind cX2_knowersBehind 5 (some .int), Cond.methodLink RX2 40 yX2_knowersAfter, Cond.instanceMethod yX2_knowersAfter, Cond.selects RX2 yX2_knowersAfter yX2_knowersAfter, Cond.code yX2_knowersAfter cX2_knowersAfter 8 (some .int), Cond.fieldLink RX2 48 "SilenceCoin$Town" "talks" "I", Cond.fieldLink RX2 51 "SilenceCoin$Town" "speaker" "[I", Cond.fieldLink RX2 54 "SilenceCoin$Town" "hearer" "[I", Cond.fieldLink RX2 57 "SilenceCoin$Town" "talkHour" "[I", Cond.fieldLink RX2 67 "SilenceCoin$Town" "kind" "[I", Cond.methodLink RX2 60 yX6_isSaid, Cond.methodLink RX2 64 yX2_comingTo, Cond.instanceMethod yX2_comingTo, Cond.selects RX2 yX2_comingTo yX2_comingTo, Cond.code yX2_comingTo cX2_comingTo 2 (some .int), Cond.methodLink RL 99 yX8_knows]
def wsL_law_r30 : List Cond := [Cond.instanceMethod yX8_knows, Cond.selects RX8 yX8_knows yX8_knows, Cond.code yX8_knows cX8_knows 3 (some .int), Cond.methodLink RX8 233 yX8_layRumour, Cond.instanceMethod yX8_layRumour, Cond.selects RX8 yX8_layRumour yX8_layRumour, Cond.code yX8_layRumour cX8_layRumour 9 none, Cond.methodLink RL 100 yX7_learns, Cond.instanceMethod yX7_learns, Cond.selects RX7 yX7_learns yX7_learns, Cond.code yX7_learns cX7_learns 3 (some .int), Cond.methodLink RX7 201 yX2_hourItComes, Cond.instanceMethod yX2_hourItComes, Cond.selects RX2 yX2_hourItComes yX2_hourItComes, Cond.code yX2_hourItComes cX2_hourItComes 5 (some .int), Cond.methodLink RL 103 yX8_learns, Cond.instanceMethod yX8_learns, Cond.selects RX8 yX8_learns yX8_learns, Cond.code yX8_learns cX8_learns 3 (some .int), Cond.methodLink RX8 236 yX8_learnsIn, Cond.instanceMethod yX8_learnsIn, Cond.selects RX8 yX8_learnsIn yX8_learnsIn, Cond.code yX8_learnsIn cX8_learnsIn 4 (some .int), Cond.methodLink RL 104 yX7_hush]
def wsL_law_r31 : List Cond := [Cond.instanceMethod yX7_hush, Cond.selects RX7 yX7_hush yX7_hush, Cond.code yX7_hush cX7_hush 6 (some .int), Cond.methodLink RX7 204 yX2_hushingHour, Cond.instanceMethod yX2_hushingHour, Cond.selects RX2 yX2_hushingHour yX2_hushingHour, Cond.code yX2_hushingHour cX2_hushingHour 5 (some .int), Cond.methodLink RX2 70 yX2_takeSilence, Cond.methodLink RX2 73 yX2_addSilence, Cond.instanceMethod yX2_addSilence, Cond.selects RX2 yX2_addSilence yX2_addSilence, Cond.code yX2_addSilence cX2_addSilence 4 none, Cond.methodLink RX2 36 yX6_silencedBy, Cond.methodLink RX2 77 yX2_hourItComes, Cond.methodLink RL 107 yX8_hush, Cond.instanceMethod yX8_hush, Cond.selects RX8 yX8_hush yX8_hush, Cond.code yX8_hush cX8_hush 7 (some .int), Cond.methodLink RL 108 yX7_hear, Cond.instanceMethod yX7_hear, Cond.selects RX7 yX7_hear yX7_hear, Cond.code yX7_hear cX7_hear 3 (some .int), Cond.methodLink RX7 207 yX2_note, Cond.instanceMethod yX2_note]
def wsL_law_r32 : List Cond := [Cond.selects RX2 yX2_note yX2_note, Cond.code yX2_note cX2_note 3 (some .int), Cond.fieldLink RX2 26 "SilenceCoin$Rumours" "known" "I", Cond.methodLink RL 112 yX8_hear, Cond.instanceMethod yX8_hear, Cond.selects RX8 yX8_hear yX8_hear, Cond.code yX8_hear cX8_hear 3 (some .int), Cond.methodLink RL 113 yX7_forget, Cond.instanceMethod yX7_forget, Cond.selects RX7 yX7_forget yX7_forget, Cond.code yX7_forget cX7_forget 3 (some .int), Cond.methodLink RL 116 yX8_forget, Cond.instanceMethod yX8_forget, Cond.selects RX8 yX8_forget yX8_forget, Cond.code yX8_forget cX8_forget 3 (some .int), Cond.methodLink RL 117 yX7_first, Cond.instanceMethod yX7_first, Cond.selects RX7 yX7_first yX7_first, Cond.code yX7_first cX7_first 3 (some .int), Cond.methodLink RX7 211 yX2_canBeginWith, Cond.instanceMethod yX2_canBeginWith, Cond.selects RX2 yX2_canBeginWith yX2_canBeginWith, Cond.code yX2_canBeginWith cX2_canBeginWith 4 (some .boolean), Cond.methodLink RX2 80 yX2_knowersBehind]
def wsL_law_r33 : List Cond := [Cond.methodLink RL 120 yX8_first, Cond.instanceMethod yX8_first, Cond.selects RX8 yX8_first yX8_first, Cond.code yX8_first cX8_first 5 (some .int), Cond.methodLink RL 121 yX7_funeral, Cond.instanceMethod yX7_funeral, Cond.selects RX7 yX7_funeral yX7_funeral, Cond.code yX7_funeral cX7_funeral 6 (some .int), Cond.fieldLink RX7 220 "SilenceCoin$Funeral" "bestTo" "[I", Cond.fieldLink RX7 223 "SilenceCoin$Funeral" "bestCost" "I", Cond.methodLink RX7 214 yX7_isSubset, Cond.static yX7_isSubset, Cond.code yX7_isSubset cX7_isSubset 2 (some .boolean), Cond.methodLink RX7 247 yX7_allOf, Cond.static yX7_allOf, Cond.code yX7_allOf cX7_allOf 1 (some .int), Cond.methodLink RX7 217 yX0_plan, Cond.instanceMethod yX0_plan, Cond.selects RX0 yX0_plan yX0_plan, Cond.code yX0_plan cX0_plan 4 (some .boolean), Cond.constant RX0 31 (2147483647), Cond.fieldLink RX0 32 "SilenceCoin$Funeral" "bestCost" "I", Cond.methodLink RX0 36 yX0_giveFrom, Cond.instanceMethod yX0_giveFrom]
def wsL_law_r34 : List Cond := [Cond.selects RX0 yX0_giveFrom yX0_giveFrom, Cond.code yX0_giveFrom cX0_giveFrom 6 none, Cond.fieldLink RX0 47 "SilenceCoin$Town" "coins" "I", Cond.fieldLink RX0 52 "SilenceCoin$Town" "people" "I", Cond.methodLink RX0 40 yX0_needyOnes, Cond.instanceMethod yX0_needyOnes, Cond.selects RX0 yX0_needyOnes yX0_needyOnes, Cond.code yX0_needyOnes cX0_needyOnes 3 (some .int), Cond.methodLink RX0 44 yX0_takeAsBest, Cond.instanceMethod yX0_takeAsBest, Cond.selects RX0 yX0_takeAsBest yX0_takeAsBest, Cond.code yX0_takeAsBest cX0_takeAsBest 4 none, Cond.methodLink RX0 55 yX6_isSpent, Cond.methodLink RX0 59 yX6_lengthBy, Cond.methodLink RX0 63 yX0_costTo, Cond.instanceMethod yX0_costTo, Cond.selects RX0 yX0_costTo yX0_costTo, Cond.code yX0_costTo cX0_costTo 3 (some .int), Cond.fieldLink RX0 66 "SilenceCoin$Town" "owner" "[I", Cond.fieldLink RX0 69 "SilenceCoin$Town" "worth" "[I", Cond.fieldLink RX0 72 "SilenceCoin$Town" "feeNow" "I", Cond.methodLink RL 124 yX8_funeral, Cond.instanceMethod yX8_funeral, Cond.selects RX8 yX8_funeral yX8_funeral]
def wsL_law_r35 : List Cond := [Cond.code yX8_funeral cX8_funeral 9 (some .int), Cond.constantLong RX8 239 (12), Cond.constantLong RX8 241 (10), Cond.methodLink RX8 243 yX8_funeralCost, Cond.instanceMethod yX8_funeralCost, Cond.selects RX8 yX8_funeralCost yX8_funeralCost, Cond.code yX8_funeralCost cX8_funeralCost 9 (some .int), Cond.methodLink RL 125 yX7_raid, Cond.instanceMethod yX7_raid, Cond.selects RX7 yX7_raid yX7_raid, Cond.code yX7_raid cX7_raid 6 (some .int), Cond.methodLink RX7 226 yX6_raidedIn, Cond.instanceMethod yX6_raidedIn, Cond.selects RX6 yX6_raidedIn yX6_raidedIn, Cond.code yX6_raidedIn cX6_raidedIn 5 (some .int), Cond.methodLink RX6 114 yX6_greatestUnspent, Cond.instanceMethod yX6_greatestUnspent, Cond.selects RX6 yX6_greatestUnspent yX6_greatestUnspent, Cond.code yX6_greatestUnspent cX6_greatestUnspent 4 (some .int), Cond.methodLink RL 128 yX8_raid, Cond.instanceMethod yX8_raid, Cond.selects RX8 yX8_raid yX8_raid, Cond.code yX8_raid cX8_raid 6 (some .int), Cond.constantLong RX8 246 (21)]
def wsL_law_r36 : List Cond := [Cond.methodLink RX8 248 yX8_raided, Cond.instanceMethod yX8_raided, Cond.selects RX8 yX8_raided yX8_raided, Cond.code yX8_raided cX8_raided 6 (some .int), Cond.methodLink RL 129 yX7_settle, Cond.instanceMethod yX7_settle, Cond.selects RX7 yX7_settle yX7_settle, Cond.code yX7_settle cX7_settle 6 (some .int), Cond.methodLink RX7 229 yX6_priceAfter, Cond.instanceMethod yX6_priceAfter, Cond.selects RX6 yX6_priceAfter yX6_priceAfter, Cond.code yX6_priceAfter cX6_priceAfter 5 (some .int), Cond.methodLink RX6 117 Lib.Math.min.name, Cond.static Lib.Math.min.name, Cond.code Lib.Math.min.name Lib.Math.min.code 2 (some .int), Cond.methodLink RX6 120 yX6_unspentWorths, Cond.instanceMethod yX6_unspentWorths, Cond.selects RX6 yX6_unspentWorths yX6_unspentWorths, Cond.code yX6_unspentWorths cX6_unspentWorths 3 (some .int), Cond.methodLink RL 132 yX8_settle, Cond.instanceMethod yX8_settle, Cond.selects RX8 yX8_settle yX8_settle, Cond.code yX8_settle cX8_settle 5 (some .int), Cond.constantLong RX8 254 (99)]
def wsL_law_r37 : List Cond := [Cond.methodLink RX8 256 yX8_pricedThen, Cond.instanceMethod yX8_pricedThen, Cond.selects RX8 yX8_pricedThen yX8_pricedThen, Cond.code yX8_pricedThen cX8_pricedThen 5 (some .int), Cond.methodLink RX8 251 yX8_unspent, Cond.instanceMethod yX8_unspent, Cond.selects RX8 yX8_unspent yX8_unspent, Cond.code yX8_unspent cX8_unspent 3 (some .int), Cond.methodLink RL 133 yX7_test, Cond.instanceMethod yX7_test, Cond.selects RX7 yX7_test yX7_test, Cond.code yX7_test cX7_test 3 (some .int), Cond.methodLink RX7 232 yX1_note, Cond.instanceMethod yX1_note, Cond.selects RX1 yX1_note yX1_note, Cond.code yX1_note cX1_note 3 (some .int), Cond.fieldLink RX1 22 "SilenceCoin$Hisses" "tested" "I", Cond.methodLink RL 136 yX8_test, Cond.instanceMethod yX8_test, Cond.selects RX8 yX8_test yX8_test, Cond.code yX8_test cX8_test 3 (some .int), Cond.methodLink RL 137 yX7_untest, Cond.instanceMethod yX7_untest, Cond.selects RX7 yX7_untest yX7_untest]
def wsL_law_r38 : List Cond := [Cond.code yX7_untest cX7_untest 3 (some .int), Cond.methodLink RL 140 yX8_untest, Cond.instanceMethod yX8_untest, Cond.selects RX8 yX8_untest yX8_untest, Cond.code yX8_untest cX8_untest 3 (some .int), Cond.methodLink RL 141 yX7_fakes, Cond.instanceMethod yX7_fakes, Cond.selects RX7 yX7_fakes yX7_fakes, Cond.code yX7_fakes cX7_fakes 3 (some .int), Cond.fieldLink RX7 237 "SilenceCoin$Hisses" "sets" "I", Cond.fieldLink RX7 240 "SilenceCoin$Hisses" "fitting" "[I", Cond.methodLink RX7 233 yX1_findSets, Cond.instanceMethod yX1_findSets, Cond.selects RX1 yX1_findSets yX1_findSets, Cond.code yX1_findSets cX1_findSets 4 none, Cond.fieldLink RX1 26 "SilenceCoin$Hisses" "sets" "I", Cond.methodLink RX1 33 yJ6_bitCount_0f7a4, Cond.static yJ6_bitCount_0f7a4, Cond.initialized RJ6, Cond.code yJ6_bitCount_0f7a4 cJ6_bitCount_0f7a4 1 (some .int), Cond.constant RJ6 265 (1431655765), Cond.constant RJ6 266 (858993459), Cond.constant RJ6 267 (252645135), Cond.methodLink RX1 38 yX1_isAsTested]
def wsL_law_r39 : List Cond := [Cond.instanceMethod yX1_isAsTested, Cond.selects RX1 yX1_isAsTested yX1_isAsTested, Cond.code yX1_isAsTested cX1_isAsTested 3 (some .boolean), Cond.methodLink RX7 243 yX1_inAll, Cond.instanceMethod yX1_inAll, Cond.selects RX1 yX1_inAll yX1_inAll, Cond.code yX1_inAll cX1_inAll 3 (some .int), Cond.methodLink RX7 250 yX1_inAny, Cond.instanceMethod yX1_inAny, Cond.selects RX1 yX1_inAny yX1_inAny, Cond.code yX1_inAny cX1_inAny 3 (some .int), Cond.methodLink RL 144 yX8_fakes, Cond.instanceMethod yX8_fakes, Cond.selects RX8 yX8_fakes yX8_fakes, Cond.code yX8_fakes cX8_fakes 8 (some .int), Cond.methodLink RX8 259 yX8_canBeFalse, Cond.instanceMethod yX8_canBeFalse, Cond.selects RX8 yX8_canBeFalse yX8_canBeFalse, Cond.code yX8_canBeFalse cX8_canBeFalse 6 (some .boolean), Cond.methodLink RL 145 yX7_next, Cond.instanceMethod yX7_next, Cond.selects RX7 yX7_next yX7_next, Cond.code yX7_next cX7_next 7 (some .int), Cond.methodLink RX7 253 yX1_leftAtWorst]
def wsL_law_r40 : List Cond := [Cond.instanceMethod yX1_leftAtWorst, Cond.selects RX1 yX1_leftAtWorst yX1_leftAtWorst, Cond.code yX1_leftAtWorst cX1_leftAtWorst 4 (some .int), Cond.methodLink RX1 46 Lib.Math.max.name, Cond.methodLink RL 148 yX8_next, Cond.instanceMethod yX8_next, Cond.selects RX8 yX8_next yX8_next, Cond.code yX8_next cX8_next 9 (some .int), Cond.methodLink RX8 262 yX8_fakes, Cond.methodLink RL 149 yX7_chatter, Cond.instanceMethod yX7_chatter, Cond.selects RX7 yX7_chatter yX7_chatter, Cond.code yX7_chatter cX7_chatter 9 (some .int), Cond.methodLink RX7 256 yX7_stepSeed, Cond.static yX7_stepSeed, Cond.code yX7_stepSeed cX7_stepSeed 1 (some .int), Cond.constant RX7 295 (1103515245), Cond.methodLink RX7 259 yX7_drawn, Cond.static yX7_drawn, Cond.code yX7_drawn cX7_drawn 1 (some .int), Cond.methodLink RL 152 yX8_chatter, Cond.instanceMethod yX8_chatter, Cond.selects RX8 yX8_chatter yX8_chatter, Cond.code yX8_chatter cX8_chatter 8 (some .int)]
def wsL_law_r41 : List Cond := [Cond.constantLong RX8 269 (60), Cond.fieldLink RX8 265 "SilenceCoinModel" "drawn" "I", Cond.methodLink RX8 271 yX8_draws, Cond.instanceMethod yX8_draws, Cond.selects RX8 yX8_draws yX8_draws, Cond.code yX8_draws cX8_draws 2 (some .int), Cond.constant RX8 268 (1103515245), Cond.methodLink RL 153 yX7_keep, Cond.instanceMethod yX7_keep, Cond.selects RX7 yX7_keep yX7_keep, Cond.code yX7_keep cX7_keep 3 (some .int), Cond.methodLink RL 156 yX8_keep, Cond.instanceMethod yX8_keep, Cond.selects RX8 yX8_keep yX8_keep, Cond.code yX8_keep cX8_keep 3 (some .int), Cond.methodLink RX8 274 yX8_copies, Cond.instanceMethod yX8_copies, Cond.selects RX8 yX8_copies yX8_copies, Cond.code yX8_copies cX8_copies 4 none, Cond.methodLink RL 157 yX7_back, Cond.instanceMethod yX7_back, Cond.selects RX7 yX7_back yX7_back, Cond.code yX7_back cX7_back 2 (some .int), Cond.methodLink RL 160 yX8_back]
def wsL_law_r42 : List Cond := [Cond.instanceMethod yX8_back, Cond.selects RX8 yX8_back yX8_back, Cond.code yX8_back cX8_back 2 (some .int), Cond.methodLink RL 161 yX7_sheet, Cond.instanceMethod yX7_sheet, Cond.selects RX7 yX7_sheet yX7_sheet, Cond.code yX7_sheet cX7_sheet 4 (some .int), Cond.methodLink RX7 262 yX7_isSheet, Cond.static yX7_isSheet, Cond.code yX7_isSheet cX7_isSheet 1 (some .boolean), Cond.methodLink RX7 265 yX7_isLane, Cond.static yX7_isLane, Cond.code yX7_isLane cX7_isLane 1 (some .boolean), Cond.methodLink RX7 268 yX3_renew, Cond.instanceMethod yX3_renew, Cond.selects RX3 yX3_renew yX3_renew, Cond.code yX3_renew cX3_renew 4 none, Cond.fieldLink RX3 19 "SilenceCoin$Sheet" "size" "I", Cond.methodLink RL 164 yX8_sheet, Cond.instanceMethod yX8_sheet, Cond.selects RX8 yX8_sheet yX8_sheet, Cond.code yX8_sheet cX8_sheet 5 (some .int), Cond.methodLink RL 165 yX7_lay, Cond.instanceMethod yX7_lay]
def wsL_law_r43 : List Cond := [Cond.selects RX7 yX7_lay yX7_lay, Cond.code yX7_lay cX7_lay 5 (some .int), Cond.fieldLink RX7 274 "SilenceCoin$Sheet" "size" "I", Cond.methodLink RX7 271 yX3_isNothing, Cond.instanceMethod yX3_isNothing, Cond.selects RX3 yX3_isNothing yX3_isNothing, Cond.code yX3_isNothing cX3_isNothing 1 (some .boolean), Cond.methodLink RX7 277 yX3_put, Cond.instanceMethod yX3_put, Cond.selects RX3 yX3_put yX3_put, Cond.code yX3_put cX3_put 3 none, Cond.methodLink RL 168 yX8_lay, Cond.instanceMethod yX8_lay, Cond.selects RX8 yX8_lay yX8_lay, Cond.code yX8_lay cX8_lay 4 (some .int), Cond.methodLink RL 169 yX7_read, Cond.instanceMethod yX7_read, Cond.selects RX7 yX7_read yX7_read, Cond.code yX7_read cX7_read 10 (some .int), Cond.fieldLink RX7 283 "SilenceCoin$Sheet" "cells" "[I", Cond.fieldLink RX7 286 "SilenceCoin" "tornFault" "I", Cond.methodLink RX7 280 yX3_faultInThree, Cond.instanceMethod yX3_faultInThree, Cond.selects RX3 yX3_faultInThree yX3_faultInThree]
def wsL_law_r44 : List Cond := [Cond.code yX3_faultInThree cX3_faultInThree 3 (some .int), Cond.methodLink RX3 22 yX3_isNothing, Cond.methodLink RL 173 yX8_read, Cond.instanceMethod yX8_read, Cond.selects RX8 yX8_read yX8_read, Cond.code yX8_read cX8_read 9 (some .int), Cond.constantLong RX8 278 (13), Cond.fieldLink RX8 280 "SilenceCoinModel" "torn" "I", Cond.methodLink RL 174 yX7_torn, Cond.instanceMethod yX7_torn, Cond.selects RX7 yX7_torn yX7_torn, Cond.code yX7_torn cX7_torn 1 (some .int), Cond.methodLink RL 177 yX8_torn, Cond.instanceMethod yX8_torn, Cond.selects RX8 yX8_torn yX8_torn, Cond.code yX8_torn cX8_torn 1 (some .int), Cond.methodLink RL 178 yX7_count, Cond.instanceMethod yX7_count, Cond.selects RX7 yX7_count yX7_count, Cond.code yX7_count cX7_count 2 (some .int), Cond.methodLink RX7 289 yX6_spentCoins, Cond.instanceMethod yX6_spentCoins, Cond.selects RX6 yX6_spentCoins yX6_spentCoins, Cond.code yX6_spentCoins cX6_spentCoins 3 (some .int)]
def wsL_law_r45 : List Cond := [Cond.methodLink RX7 292 yX6_unspentWorths, Cond.methodLink RL 181 yX8_count, Cond.instanceMethod yX8_count, Cond.selects RX8 yX8_count yX8_count, Cond.code yX8_count cX8_count 4 (some .int)]
def wsL_law : List Cond := (wsL_law_r1 ++ (wsL_law_r2 ++ (wsL_law_r3 ++ (wsL_law_r4 ++ (wsL_law_r5 ++ (wsL_law_r6 ++ (wsL_law_r7 ++ (wsL_law_r8 ++ (wsL_law_r9 ++ (wsL_law_r10 ++ (wsL_law_r11 ++ (wsL_law_r12 ++ (wsL_law_r13 ++ (wsL_law_r14 ++ (wsL_law_r15 ++ (wsL_law_r16 ++ (wsL_law_r17 ++ (wsL_law_r18 ++ (wsL_law_r19 ++ (wsL_law_r20 ++ (wsL_law_r21 ++ (wsL_law_r22 ++ (wsL_law_r23 ++ (wsL_law_r24 ++ (wsL_law_r25 ++ (wsL_law_r26 ++ (wsL_law_r27 ++ (wsL_law_r28 ++ (wsL_law_r29 ++ (wsL_law_r30 ++ (wsL_law_r31 ++ (wsL_law_r32 ++ (wsL_law_r33 ++ (wsL_law_r34 ++ (wsL_law_r35 ++ (wsL_law_r36 ++ (wsL_law_r37 ++ (wsL_law_r38 ++ (wsL_law_r39 ++ (wsL_law_r40 ++ (wsL_law_r41 ++ (wsL_law_r42 ++ (wsL_law_r43 ++ (wsL_law_r44 ++ wsL_law_r45)))))))))))))))))))))))))))))))))))))))))))) ++ wsX70 ++ wsX80 ++ wsX40 ++ wsX50 ++ wsX60 ++ wsX20 ++ wsX00 ++ wsX10 ++ wsX30 ++ ([] : List Cond)
set_option maxRecDepth 20000 in
theorem wsL_law_in : ∀ w ∈ wsL_law, w ∈ lw_tbl := fun w h => (goodIn_p wsL_law [80, 83, 88, 105, 111, 116, 248, 271, 295, 322, 904, 370, 374, 1024, 378, 382, 1028, 1031, 386, 390, 395, 398, 402, 406, 410, 414, 418, 422, 427, 431, 435, 441, 445, 448, 451, 456, 459, 462, 465, 469, 479, 483, 487, 491, 496, 501, 505, 515, 521, 526, 530, 534, 1035, 1039, 1043, 1047, 1055, 1059, 1063, 1068, 1072, 1076, 1080, 1084, 1088, 1092, 541, 1096, 545, 1100, 1104, 549, 1108, 1112, 554, 558, 562, 565, 1117, 1121, 1126, 1130, 1134, 1138, 569, 573, 577, 582, 587, 590, 1142, 1147, 1151, 1155, 1159, 594, 1187, 598, 1191, 602, 1196, 607, 1200, 611, 614, 1204, 1166, 618, 1208, 622, 626, 630, 1212, 1216, 1179, 637, 1163, 642, 1171, 647, 1175, 653, 1183, 657, 661, 666, 670, 676, 1220, 1224, 680, 684, 1228, 1232, 688, 692, 697, 1236, 703, 707, 1240, 711, 1244, 715, 719, 1248, 724, 727, 730, 734, 740, 744, 749, 755, 1252, 1258, 759, 763, 767, 1262, 1267, 771, 775, 778, 782, 1271, 1276, 1280, 786, 790, 1284, 794, 1288, 798, 802, 806, 813, 817, 821, 1292, 1296, 825, 829, 1300, 835, 838, 842, 1305, 1310, 846, 1315, 1319, 850, 1323, 854, 857, 860, 864, 1327, 868, 872, 876, 1331, 880, 884, 1335, 889, 1340, 893, 897, 1344] (by decide +kernel) (by decide +kernel) w h).1
theorem inlX0 : ∀ w ∈ wsX00, w ∈ wsL_law := fun _ h => List.mem_append_left _ (List.mem_append_left _ (List.mem_append_left _ (List.mem_append_right _ h)))
theorem inX0 : ∀ w ∈ wsX00, w ∈ lw_tbl := fun w h => wsL_law_in w (inlX0 w h)
theorem inlX1 : ∀ w ∈ wsX10, w ∈ wsL_law := fun _ h => List.mem_append_left _ (List.mem_append_left _ (List.mem_append_right _ h))
theorem inX1 : ∀ w ∈ wsX10, w ∈ lw_tbl := fun w h => wsL_law_in w (inlX1 w h)
theorem inlX2 : ∀ w ∈ wsX20, w ∈ wsL_law := fun _ h => List.mem_append_left _ (List.mem_append_left _ (List.mem_append_left _ (List.mem_append_left _ (List.mem_append_right _ h))))
theorem inX2 : ∀ w ∈ wsX20, w ∈ lw_tbl := fun w h => wsL_law_in w (inlX2 w h)
theorem inlX3 : ∀ w ∈ wsX30, w ∈ wsL_law := fun _ h => List.mem_append_left _ (List.mem_append_right _ h)
theorem inX3 : ∀ w ∈ wsX30, w ∈ lw_tbl := fun w h => wsL_law_in w (inlX3 w h)
theorem inlX4 : ∀ w ∈ wsX40, w ∈ wsL_law := fun _ h => List.mem_append_left _ (List.mem_append_left _ (List.mem_append_left _ (List.mem_append_left _ (List.mem_append_left _ (List.mem_append_left _ (List.mem_append_left _ (List.mem_append_right _ h)))))))
theorem inX4 : ∀ w ∈ wsX40, w ∈ lw_tbl := fun w h => wsL_law_in w (inlX4 w h)
theorem inlX5 : ∀ w ∈ wsX50, w ∈ wsL_law := fun _ h => List.mem_append_left _ (List.mem_append_left _ (List.mem_append_left _ (List.mem_append_left _ (List.mem_append_left _ (List.mem_append_left _ (List.mem_append_right _ h))))))
theorem inX5 : ∀ w ∈ wsX50, w ∈ lw_tbl := fun w h => wsL_law_in w (inlX5 w h)
theorem inlX6 : ∀ w ∈ wsX60, w ∈ wsL_law := fun _ h => List.mem_append_left _ (List.mem_append_left _ (List.mem_append_left _ (List.mem_append_left _ (List.mem_append_left _ (List.mem_append_right _ h)))))
theorem inX6 : ∀ w ∈ wsX60, w ∈ lw_tbl := fun w h => wsL_law_in w (inlX6 w h)
theorem inlX7 : ∀ w ∈ wsX70, w ∈ wsL_law := fun _ h => List.mem_append_left _ (List.mem_append_left _ (List.mem_append_left _ (List.mem_append_left _ (List.mem_append_left _ (List.mem_append_left _ (List.mem_append_left _ (List.mem_append_left _ (List.mem_append_left _ (List.mem_append_right _ h)))))))))
theorem inX7 : ∀ w ∈ wsX70, w ∈ lw_tbl := fun w h => wsL_law_in w (inlX7 w h)
theorem inlX8 : ∀ w ∈ wsX80, w ∈ wsL_law := fun _ h => List.mem_append_left _ (List.mem_append_left _ (List.mem_append_left _ (List.mem_append_left _ (List.mem_append_left _ (List.mem_append_left _ (List.mem_append_left _ (List.mem_append_left _ (List.mem_append_right _ h))))))))
theorem inX8 : ∀ w ∈ wsX80, w ∈ lw_tbl := fun w h => wsL_law_in w (inlX8 w h)
abbrev vwCl : List vw_C := [(RX0, TX0, 5), (RX1, TX1, 5), (RX2, TX2, 5), (RX3, TX3, 3), (RX4, TX4, 2), (RX5, TX5, 11), (RX6, TX6, 15), (RX7, TX7, 10), (RX8, TX8, 38)]
end
section
theorem dX0_init_0 : decode cX0_init 0 = .ok (.aload_n 0, 1) := by decide +kernel
theorem dX0_init_1 : decode cX0_init 1 = .ok (.invokespecial 3, 3) := by decide +kernel
theorem dX0_init_4 : decode cX0_init 4 = .ok (.aload_n 0, 1) := by decide +kernel
theorem dX0_init_5 : decode cX0_init 5 = .ok (.bipush 6, 2) := by decide +kernel
theorem dX0_init_7 : decode cX0_init 7 = .ok (.newarray .int, 2) := by decide +kernel
theorem dX0_init_9 : decode cX0_init 9 = .ok (.putfield 9, 3) := by decide +kernel
theorem dX0_init_12 : decode cX0_init 12 = .ok (.aload_n 0, 1) := by decide +kernel
theorem dX0_init_13 : decode cX0_init 13 = .ok (.bipush 6, 2) := by decide +kernel
theorem dX0_init_15 : decode cX0_init 15 = .ok (.newarray .int, 2) := by decide +kernel
theorem dX0_init_17 : decode cX0_init 17 = .ok (.putfield 15, 3) := by decide +kernel
theorem dX0_init_20 : decode cX0_init 20 = .ok (.aload_n 0, 1) := by decide +kernel
theorem dX0_init_21 : decode cX0_init 21 = .ok (.bipush 6, 2) := by decide +kernel
theorem dX0_init_23 : decode cX0_init 23 = .ok (.newarray .int, 2) := by decide +kernel
theorem dX0_init_25 : decode cX0_init 25 = .ok (.putfield 18, 3) := by decide +kernel
theorem dX0_init_28 : decode cX0_init 28 = .ok (.aload_n 0, 1) := by decide +kernel
theorem dX0_init_29 : decode cX0_init 29 = .ok (.aload_n 1, 1) := by decide +kernel
theorem dX0_init_30 : decode cX0_init 30 = .ok (.putfield 21, 3) := by decide +kernel
theorem dX0_init_33 : decode cX0_init 33 = .ok (.return_, 1) := by decide +kernel
theorem dX0_plan_0 : decode cX0_plan 0 = .ok (.iconst 0, 1) := by decide +kernel
theorem dX0_plan_1 : decode cX0_plan 1 = .ok (.istore_n 3, 1) := by decide +kernel
theorem dX0_plan_2 : decode cX0_plan 2 = .ok (.iload_n 3, 1) := by decide +kernel
theorem dX0_plan_3 : decode cX0_plan 3 = .ok (.bipush 6, 2) := by decide +kernel
theorem dX0_plan_5 : decode cX0_plan 5 = .ok (.if_icmp .ge 28, 3) := by decide +kernel
theorem dX0_plan_8 : decode cX0_plan 8 = .ok (.aload_n 0, 1) := by decide +kernel
theorem dX0_plan_9 : decode cX0_plan 9 = .ok (.getfield 18, 3) := by decide +kernel
theorem dX0_plan_12 : decode cX0_plan 12 = .ok (.iload_n 3, 1) := by decide +kernel
theorem dX0_plan_13 : decode cX0_plan 13 = .ok (.iload_n 1, 1) := by decide +kernel
theorem dX0_plan_14 : decode cX0_plan 14 = .ok (.iload_n 3, 1) := by decide +kernel
theorem dX0_plan_15 : decode cX0_plan 15 = .ok (.invokestatic 25, 3) := by decide +kernel
theorem dX0_plan_18 : decode cX0_plan 18 = .ok (.ifCond .eq 7, 3) := by decide +kernel
theorem dX0_plan_21 : decode cX0_plan 21 = .ok (.iload_n 2, 1) := by decide +kernel
theorem dX0_plan_22 : decode cX0_plan 22 = .ok (.goto 4, 3) := by decide +kernel
theorem dX0_plan_25 : decode cX0_plan 25 = .ok (.iconst 0, 1) := by decide +kernel
theorem dX0_plan_26 : decode cX0_plan 26 = .ok (.iastore, 1) := by decide +kernel
theorem dX0_plan_27 : decode cX0_plan 27 = .ok (.iinc 3 1, 3) := by decide +kernel
theorem dX0_plan_30 : decode cX0_plan 30 = .ok (.goto (-28), 3) := by decide +kernel
theorem dX0_plan_33 : decode cX0_plan 33 = .ok (.aload_n 0, 1) := by decide +kernel
theorem dX0_plan_34 : decode cX0_plan 34 = .ok (.ldc 31, 2) := by decide +kernel
theorem dX0_plan_36 : decode cX0_plan 36 = .ok (.putfield 32, 3) := by decide +kernel
theorem dX0_plan_39 : decode cX0_plan 39 = .ok (.aload_n 0, 1) := by decide +kernel
theorem dX0_plan_40 : decode cX0_plan 40 = .ok (.iconst 0, 1) := by decide +kernel
theorem dX0_plan_41 : decode cX0_plan 41 = .ok (.iconst 0, 1) := by decide +kernel
theorem dX0_plan_42 : decode cX0_plan 42 = .ok (.invokevirtual 36, 3) := by decide +kernel
theorem dX0_plan_45 : decode cX0_plan 45 = .ok (.aload_n 0, 1) := by decide +kernel
theorem dX0_plan_46 : decode cX0_plan 46 = .ok (.getfield 32, 3) := by decide +kernel
theorem dX0_plan_49 : decode cX0_plan 49 = .ok (.ldc 31, 2) := by decide +kernel
theorem dX0_plan_51 : decode cX0_plan 51 = .ok (.if_icmp .eq 7, 3) := by decide +kernel
theorem dX0_plan_54 : decode cX0_plan 54 = .ok (.iconst 1, 1) := by decide +kernel
theorem dX0_plan_55 : decode cX0_plan 55 = .ok (.goto 4, 3) := by decide +kernel
theorem dX0_plan_58 : decode cX0_plan 58 = .ok (.iconst 0, 1) := by decide +kernel
theorem dX0_plan_59 : decode cX0_plan 59 = .ok (.ireturn, 1) := by decide +kernel
theorem dX0_giveFrom_0 : decode cX0_giveFrom 0 = .ok (.iload_n 2, 1) := by decide +kernel
theorem dX0_giveFrom_1 : decode cX0_giveFrom 1 = .ok (.aload_n 0, 1) := by decide +kernel
theorem dX0_giveFrom_2 : decode cX0_giveFrom 2 = .ok (.getfield 32, 3) := by decide +kernel
theorem dX0_giveFrom_5 : decode cX0_giveFrom 5 = .ok (.if_icmp .lt 4, 3) := by decide +kernel
theorem dX0_giveFrom_8 : decode cX0_giveFrom 8 = .ok (.return_, 1) := by decide +kernel
theorem dX0_giveFrom_9 : decode cX0_giveFrom 9 = .ok (.aload_n 0, 1) := by decide +kernel
theorem dX0_giveFrom_10 : decode cX0_giveFrom 10 = .ok (.invokevirtual 40, 3) := by decide +kernel
theorem dX0_giveFrom_13 : decode cX0_giveFrom 13 = .ok (.istore_n 3, 1) := by decide +kernel
theorem dX0_giveFrom_14 : decode cX0_giveFrom 14 = .ok (.iload_n 3, 1) := by decide +kernel
theorem dX0_giveFrom_15 : decode cX0_giveFrom 15 = .ok (.ifCond .ne 10, 3) := by decide +kernel
theorem dX0_giveFrom_18 : decode cX0_giveFrom 18 = .ok (.aload_n 0, 1) := by decide +kernel
theorem dX0_giveFrom_19 : decode cX0_giveFrom 19 = .ok (.iload_n 1, 1) := by decide +kernel
theorem dX0_giveFrom_20 : decode cX0_giveFrom 20 = .ok (.iload_n 2, 1) := by decide +kernel
theorem dX0_giveFrom_21 : decode cX0_giveFrom 21 = .ok (.invokevirtual 44, 3) := by decide +kernel
theorem dX0_giveFrom_24 : decode cX0_giveFrom 24 = .ok (.return_, 1) := by decide +kernel
theorem dX0_giveFrom_25 : decode cX0_giveFrom 25 = .ok (.iload_n 3, 1) := by decide +kernel
theorem dX0_giveFrom_26 : decode cX0_giveFrom 26 = .ok (.aload_n 0, 1) := by decide +kernel
theorem dX0_giveFrom_27 : decode cX0_giveFrom 27 = .ok (.getfield 21, 3) := by decide +kernel
theorem dX0_giveFrom_30 : decode cX0_giveFrom 30 = .ok (.getfield 47, 3) := by decide +kernel
theorem dX0_giveFrom_33 : decode cX0_giveFrom 33 = .ok (.iload_n 1, 1) := by decide +kernel
theorem dX0_giveFrom_34 : decode cX0_giveFrom 34 = .ok (.isub, 1) := by decide +kernel
theorem dX0_giveFrom_35 : decode cX0_giveFrom 35 = .ok (.if_icmp .gt 9, 3) := by decide +kernel
theorem dX0_giveFrom_38 : decode cX0_giveFrom 38 = .ok (.iload_n 1, 1) := by decide +kernel
theorem dX0_giveFrom_39 : decode cX0_giveFrom 39 = .ok (.bipush 6, 2) := by decide +kernel
theorem dX0_giveFrom_41 : decode cX0_giveFrom 41 = .ok (.if_icmp .lt 4, 3) := by decide +kernel
theorem dX0_giveFrom_44 : decode cX0_giveFrom 44 = .ok (.return_, 1) := by decide +kernel
theorem dX0_giveFrom_45 : decode cX0_giveFrom 45 = .ok (.aload_n 0, 1) := by decide +kernel
theorem dX0_giveFrom_46 : decode cX0_giveFrom 46 = .ok (.getfield 15, 3) := by decide +kernel
theorem dX0_giveFrom_49 : decode cX0_giveFrom 49 = .ok (.iload_n 1, 1) := by decide +kernel
theorem dX0_giveFrom_50 : decode cX0_giveFrom 50 = .ok (.bipush (-4), 2) := by decide +kernel
theorem dX0_giveFrom_52 : decode cX0_giveFrom 52 = .ok (.iastore, 1) := by decide +kernel
theorem dX0_giveFrom_53 : decode cX0_giveFrom 53 = .ok (.aload_n 0, 1) := by decide +kernel
theorem dX0_giveFrom_54 : decode cX0_giveFrom 54 = .ok (.iload_n 1, 1) := by decide +kernel
theorem dX0_giveFrom_55 : decode cX0_giveFrom 55 = .ok (.iconst 1, 1) := by decide +kernel
theorem dX0_giveFrom_56 : decode cX0_giveFrom 56 = .ok (.iadd, 1) := by decide +kernel
theorem dX0_giveFrom_57 : decode cX0_giveFrom 57 = .ok (.iload_n 2, 1) := by decide +kernel
theorem dX0_giveFrom_58 : decode cX0_giveFrom 58 = .ok (.invokevirtual 36, 3) := by decide +kernel
theorem dX0_giveFrom_61 : decode cX0_giveFrom 61 = .ok (.iconst 0, 1) := by decide +kernel
theorem dX0_giveFrom_62 : decode cX0_giveFrom 62 = .ok (.istore 4, 2) := by decide +kernel
theorem dX0_giveFrom_64 : decode cX0_giveFrom 64 = .ok (.iload 4, 2) := by decide +kernel
theorem dX0_giveFrom_66 : decode cX0_giveFrom 66 = .ok (.aload_n 0, 1) := by decide +kernel
theorem dX0_giveFrom_67 : decode cX0_giveFrom 67 = .ok (.getfield 21, 3) := by decide +kernel
theorem dX0_giveFrom_70 : decode cX0_giveFrom 70 = .ok (.getfield 52, 3) := by decide +kernel
theorem dX0_giveFrom_73 : decode cX0_giveFrom 73 = .ok (.if_icmp .ge 90, 3) := by decide +kernel
theorem dX0_giveFrom_76 : decode cX0_giveFrom 76 = .ok (.aload_n 0, 1) := by decide +kernel
theorem dX0_giveFrom_77 : decode cX0_giveFrom 77 = .ok (.getfield 21, 3) := by decide +kernel
theorem dX0_giveFrom_80 : decode cX0_giveFrom 80 = .ok (.iload_n 1, 1) := by decide +kernel
theorem dX0_giveFrom_81 : decode cX0_giveFrom 81 = .ok (.invokevirtual 55, 3) := by decide +kernel
theorem dX0_giveFrom_84 : decode cX0_giveFrom 84 = .ok (.ifCond .ne 79, 3) := by decide +kernel
theorem dX0_giveFrom_87 : decode cX0_giveFrom 87 = .ok (.aload_n 0, 1) := by decide +kernel
theorem dX0_giveFrom_88 : decode cX0_giveFrom 88 = .ok (.getfield 18, 3) := by decide +kernel
theorem dX0_giveFrom_91 : decode cX0_giveFrom 91 = .ok (.iload 4, 2) := by decide +kernel
theorem dX0_giveFrom_93 : decode cX0_giveFrom 93 = .ok (.iaload, 1) := by decide +kernel
theorem dX0_giveFrom_94 : decode cX0_giveFrom 94 = .ok (.ifCond .le 63, 3) := by decide +kernel
theorem dX0_giveFrom_97 : decode cX0_giveFrom 97 = .ok (.aload_n 0, 1) := by decide +kernel
theorem dX0_giveFrom_98 : decode cX0_giveFrom 98 = .ok (.getfield 21, 3) := by decide +kernel
theorem dX0_giveFrom_101 : decode cX0_giveFrom 101 = .ok (.iload_n 1, 1) := by decide +kernel
theorem dX0_giveFrom_102 : decode cX0_giveFrom 102 = .ok (.iload 4, 2) := by decide +kernel
theorem dX0_giveFrom_104 : decode cX0_giveFrom 104 = .ok (.invokevirtual 59, 3) := by decide +kernel
theorem dX0_giveFrom_107 : decode cX0_giveFrom 107 = .ok (.istore 5, 2) := by decide +kernel
theorem dX0_giveFrom_109 : decode cX0_giveFrom 109 = .ok (.aload_n 0, 1) := by decide +kernel
theorem dX0_giveFrom_110 : decode cX0_giveFrom 110 = .ok (.getfield 15, 3) := by decide +kernel
theorem dX0_giveFrom_113 : decode cX0_giveFrom 113 = .ok (.iload_n 1, 1) := by decide +kernel
theorem dX0_giveFrom_114 : decode cX0_giveFrom 114 = .ok (.iload 4, 2) := by decide +kernel
theorem dX0_giveFrom_116 : decode cX0_giveFrom 116 = .ok (.iastore, 1) := by decide +kernel
theorem dX0_giveFrom_117 : decode cX0_giveFrom 117 = .ok (.aload_n 0, 1) := by decide +kernel
theorem dX0_giveFrom_118 : decode cX0_giveFrom 118 = .ok (.getfield 18, 3) := by decide +kernel
theorem dX0_giveFrom_121 : decode cX0_giveFrom 121 = .ok (.iload 4, 2) := by decide +kernel
theorem dX0_giveFrom_123 : decode cX0_giveFrom 123 = .ok (.dup2, 1) := by decide +kernel
theorem dX0_giveFrom_124 : decode cX0_giveFrom 124 = .ok (.iaload, 1) := by decide +kernel
theorem dX0_giveFrom_125 : decode cX0_giveFrom 125 = .ok (.iload 5, 2) := by decide +kernel
theorem dX0_giveFrom_127 : decode cX0_giveFrom 127 = .ok (.isub, 1) := by decide +kernel
theorem dX0_giveFrom_128 : decode cX0_giveFrom 128 = .ok (.iastore, 1) := by decide +kernel
theorem dX0_giveFrom_129 : decode cX0_giveFrom 129 = .ok (.aload_n 0, 1) := by decide +kernel
theorem dX0_giveFrom_130 : decode cX0_giveFrom 130 = .ok (.iload_n 1, 1) := by decide +kernel
theorem dX0_giveFrom_131 : decode cX0_giveFrom 131 = .ok (.iconst 1, 1) := by decide +kernel
theorem dX0_giveFrom_132 : decode cX0_giveFrom 132 = .ok (.iadd, 1) := by decide +kernel
theorem dX0_giveFrom_133 : decode cX0_giveFrom 133 = .ok (.iload_n 2, 1) := by decide +kernel
theorem dX0_giveFrom_134 : decode cX0_giveFrom 134 = .ok (.aload_n 0, 1) := by decide +kernel
theorem dX0_giveFrom_135 : decode cX0_giveFrom 135 = .ok (.iload_n 1, 1) := by decide +kernel
theorem dX0_giveFrom_136 : decode cX0_giveFrom 136 = .ok (.iload 4, 2) := by decide +kernel
theorem dX0_giveFrom_138 : decode cX0_giveFrom 138 = .ok (.invokevirtual 63, 3) := by decide +kernel
theorem dX0_giveFrom_141 : decode cX0_giveFrom 141 = .ok (.iadd, 1) := by decide +kernel
theorem dX0_giveFrom_142 : decode cX0_giveFrom 142 = .ok (.invokevirtual 36, 3) := by decide +kernel
theorem dX0_giveFrom_145 : decode cX0_giveFrom 145 = .ok (.aload_n 0, 1) := by decide +kernel
theorem dX0_giveFrom_146 : decode cX0_giveFrom 146 = .ok (.getfield 18, 3) := by decide +kernel
theorem dX0_giveFrom_149 : decode cX0_giveFrom 149 = .ok (.iload 4, 2) := by decide +kernel
theorem dX0_giveFrom_151 : decode cX0_giveFrom 151 = .ok (.dup2, 1) := by decide +kernel
theorem dX0_giveFrom_152 : decode cX0_giveFrom 152 = .ok (.iaload, 1) := by decide +kernel
theorem dX0_giveFrom_153 : decode cX0_giveFrom 153 = .ok (.iload 5, 2) := by decide +kernel
theorem dX0_giveFrom_155 : decode cX0_giveFrom 155 = .ok (.iadd, 1) := by decide +kernel
theorem dX0_giveFrom_156 : decode cX0_giveFrom 156 = .ok (.iastore, 1) := by decide +kernel
theorem dX0_giveFrom_157 : decode cX0_giveFrom 157 = .ok (.iinc 4 1, 3) := by decide +kernel
theorem dX0_giveFrom_160 : decode cX0_giveFrom 160 = .ok (.goto (-96), 3) := by decide +kernel
theorem dX0_giveFrom_163 : decode cX0_giveFrom 163 = .ok (.return_, 1) := by decide +kernel
theorem dX0_costTo_0 : decode cX0_costTo 0 = .ok (.aload_n 0, 1) := by decide +kernel
theorem dX0_costTo_1 : decode cX0_costTo 1 = .ok (.getfield 21, 3) := by decide +kernel
theorem dX0_costTo_4 : decode cX0_costTo 4 = .ok (.getfield 66, 3) := by decide +kernel
theorem dX0_costTo_7 : decode cX0_costTo 7 = .ok (.iload_n 1, 1) := by decide +kernel
theorem dX0_costTo_8 : decode cX0_costTo 8 = .ok (.iaload, 1) := by decide +kernel
theorem dX0_costTo_9 : decode cX0_costTo 9 = .ok (.iload_n 2, 1) := by decide +kernel
theorem dX0_costTo_10 : decode cX0_costTo 10 = .ok (.if_icmp .ne 15, 3) := by decide +kernel
theorem dX0_costTo_13 : decode cX0_costTo 13 = .ok (.aload_n 0, 1) := by decide +kernel
theorem dX0_costTo_14 : decode cX0_costTo 14 = .ok (.getfield 21, 3) := by decide +kernel
theorem dX0_costTo_17 : decode cX0_costTo 17 = .ok (.getfield 69, 3) := by decide +kernel
theorem dX0_costTo_20 : decode cX0_costTo 20 = .ok (.iload_n 1, 1) := by decide +kernel
theorem dX0_costTo_21 : decode cX0_costTo 21 = .ok (.iaload, 1) := by decide +kernel
theorem dX0_costTo_22 : decode cX0_costTo 22 = .ok (.goto 20, 3) := by decide +kernel
theorem dX0_costTo_25 : decode cX0_costTo 25 = .ok (.aload_n 0, 1) := by decide +kernel
theorem dX0_costTo_26 : decode cX0_costTo 26 = .ok (.getfield 21, 3) := by decide +kernel
theorem dX0_costTo_29 : decode cX0_costTo 29 = .ok (.getfield 69, 3) := by decide +kernel
theorem dX0_costTo_32 : decode cX0_costTo 32 = .ok (.iload_n 1, 1) := by decide +kernel
theorem dX0_costTo_33 : decode cX0_costTo 33 = .ok (.iaload, 1) := by decide +kernel
theorem dX0_costTo_34 : decode cX0_costTo 34 = .ok (.aload_n 0, 1) := by decide +kernel
theorem dX0_costTo_35 : decode cX0_costTo 35 = .ok (.getfield 21, 3) := by decide +kernel
theorem dX0_costTo_38 : decode cX0_costTo 38 = .ok (.getfield 72, 3) := by decide +kernel
theorem dX0_costTo_41 : decode cX0_costTo 41 = .ok (.iadd, 1) := by decide +kernel
theorem dX0_costTo_42 : decode cX0_costTo 42 = .ok (.ireturn, 1) := by decide +kernel
theorem dX0_needyOnes_0 : decode cX0_needyOnes 0 = .ok (.iconst 0, 1) := by decide +kernel
theorem dX0_needyOnes_1 : decode cX0_needyOnes 1 = .ok (.istore_n 1, 1) := by decide +kernel
theorem dX0_needyOnes_2 : decode cX0_needyOnes 2 = .ok (.iconst 0, 1) := by decide +kernel
theorem dX0_needyOnes_3 : decode cX0_needyOnes 3 = .ok (.istore_n 2, 1) := by decide +kernel
theorem dX0_needyOnes_4 : decode cX0_needyOnes 4 = .ok (.iload_n 2, 1) := by decide +kernel
theorem dX0_needyOnes_5 : decode cX0_needyOnes 5 = .ok (.aload_n 0, 1) := by decide +kernel
theorem dX0_needyOnes_6 : decode cX0_needyOnes 6 = .ok (.getfield 21, 3) := by decide +kernel
theorem dX0_needyOnes_9 : decode cX0_needyOnes 9 = .ok (.getfield 52, 3) := by decide +kernel
theorem dX0_needyOnes_12 : decode cX0_needyOnes 12 = .ok (.if_icmp .ge 29, 3) := by decide +kernel
theorem dX0_needyOnes_15 : decode cX0_needyOnes 15 = .ok (.iload_n 1, 1) := by decide +kernel
theorem dX0_needyOnes_16 : decode cX0_needyOnes 16 = .ok (.aload_n 0, 1) := by decide +kernel
theorem dX0_needyOnes_17 : decode cX0_needyOnes 17 = .ok (.getfield 18, 3) := by decide +kernel
theorem dX0_needyOnes_20 : decode cX0_needyOnes 20 = .ok (.iload_n 2, 1) := by decide +kernel
theorem dX0_needyOnes_21 : decode cX0_needyOnes 21 = .ok (.iaload, 1) := by decide +kernel
theorem dX0_needyOnes_22 : decode cX0_needyOnes 22 = .ok (.ifCond .le 7, 3) := by decide +kernel
theorem dX0_needyOnes_25 : decode cX0_needyOnes 25 = .ok (.iconst 1, 1) := by decide +kernel
theorem dX0_needyOnes_26 : decode cX0_needyOnes 26 = .ok (.goto 4, 3) := by decide +kernel
theorem dX0_needyOnes_29 : decode cX0_needyOnes 29 = .ok (.iconst 0, 1) := by decide +kernel
theorem dX0_needyOnes_30 : decode cX0_needyOnes 30 = .ok (.invokestatic 75, 3) := by decide +kernel
theorem dX0_needyOnes_33 : decode cX0_needyOnes 33 = .ok (.iadd, 1) := by decide +kernel
theorem dX0_needyOnes_34 : decode cX0_needyOnes 34 = .ok (.istore_n 1, 1) := by decide +kernel
theorem dX0_needyOnes_35 : decode cX0_needyOnes 35 = .ok (.iinc 2 1, 3) := by decide +kernel
theorem dX0_needyOnes_38 : decode cX0_needyOnes 38 = .ok (.goto (-34), 3) := by decide +kernel
theorem dX0_needyOnes_41 : decode cX0_needyOnes 41 = .ok (.iload_n 1, 1) := by decide +kernel
theorem dX0_needyOnes_42 : decode cX0_needyOnes 42 = .ok (.ireturn, 1) := by decide +kernel
theorem dX0_takeAsBest_0 : decode cX0_takeAsBest 0 = .ok (.aload_n 0, 1) := by decide +kernel
theorem dX0_takeAsBest_1 : decode cX0_takeAsBest 1 = .ok (.iload_n 2, 1) := by decide +kernel
theorem dX0_takeAsBest_2 : decode cX0_takeAsBest 2 = .ok (.putfield 32, 3) := by decide +kernel
theorem dX0_takeAsBest_5 : decode cX0_takeAsBest 5 = .ok (.iconst 0, 1) := by decide +kernel
theorem dX0_takeAsBest_6 : decode cX0_takeAsBest 6 = .ok (.istore_n 3, 1) := by decide +kernel
theorem dX0_takeAsBest_7 : decode cX0_takeAsBest 7 = .ok (.iload_n 3, 1) := by decide +kernel
theorem dX0_takeAsBest_8 : decode cX0_takeAsBest 8 = .ok (.bipush 6, 2) := by decide +kernel
theorem dX0_takeAsBest_10 : decode cX0_takeAsBest 10 = .ok (.if_icmp .ge 31, 3) := by decide +kernel
theorem dX0_takeAsBest_13 : decode cX0_takeAsBest 13 = .ok (.aload_n 0, 1) := by decide +kernel
theorem dX0_takeAsBest_14 : decode cX0_takeAsBest 14 = .ok (.getfield 9, 3) := by decide +kernel
theorem dX0_takeAsBest_17 : decode cX0_takeAsBest 17 = .ok (.iload_n 3, 1) := by decide +kernel
theorem dX0_takeAsBest_18 : decode cX0_takeAsBest 18 = .ok (.iload_n 3, 1) := by decide +kernel
theorem dX0_takeAsBest_19 : decode cX0_takeAsBest 19 = .ok (.iload_n 1, 1) := by decide +kernel
theorem dX0_takeAsBest_20 : decode cX0_takeAsBest 20 = .ok (.if_icmp .ge 12, 3) := by decide +kernel
theorem dX0_takeAsBest_23 : decode cX0_takeAsBest 23 = .ok (.aload_n 0, 1) := by decide +kernel
theorem dX0_takeAsBest_24 : decode cX0_takeAsBest 24 = .ok (.getfield 15, 3) := by decide +kernel
theorem dX0_takeAsBest_27 : decode cX0_takeAsBest 27 = .ok (.iload_n 3, 1) := by decide +kernel
theorem dX0_takeAsBest_28 : decode cX0_takeAsBest 28 = .ok (.iaload, 1) := by decide +kernel
theorem dX0_takeAsBest_29 : decode cX0_takeAsBest 29 = .ok (.goto 5, 3) := by decide +kernel
theorem dX0_takeAsBest_32 : decode cX0_takeAsBest 32 = .ok (.bipush (-4), 2) := by decide +kernel
theorem dX0_takeAsBest_34 : decode cX0_takeAsBest 34 = .ok (.iastore, 1) := by decide +kernel
theorem dX0_takeAsBest_35 : decode cX0_takeAsBest 35 = .ok (.iinc 3 1, 3) := by decide +kernel
theorem dX0_takeAsBest_38 : decode cX0_takeAsBest 38 = .ok (.goto (-31), 3) := by decide +kernel
theorem dX0_takeAsBest_41 : decode cX0_takeAsBest 41 = .ok (.return_, 1) := by decide +kernel
theorem dX1_init_0 : decode cX1_init 0 = .ok (.aload_n 0, 1) := by decide +kernel
theorem dX1_init_1 : decode cX1_init 1 = .ok (.invokespecial 3, 3) := by decide +kernel
theorem dX1_init_4 : decode cX1_init 4 = .ok (.aload_n 0, 1) := by decide +kernel
theorem dX1_init_5 : decode cX1_init 5 = .ok (.bipush 64, 2) := by decide +kernel
theorem dX1_init_7 : decode cX1_init 7 = .ok (.newarray .int, 2) := by decide +kernel
theorem dX1_init_9 : decode cX1_init 9 = .ok (.putfield 11, 3) := by decide +kernel
theorem dX1_init_12 : decode cX1_init 12 = .ok (.aload_n 0, 1) := by decide +kernel
theorem dX1_init_13 : decode cX1_init 13 = .ok (.bipush 8, 2) := by decide +kernel
theorem dX1_init_15 : decode cX1_init 15 = .ok (.newarray .int, 2) := by decide +kernel
theorem dX1_init_17 : decode cX1_init 17 = .ok (.putfield 15, 3) := by decide +kernel
theorem dX1_init_20 : decode cX1_init 20 = .ok (.aload_n 0, 1) := by decide +kernel
theorem dX1_init_21 : decode cX1_init 21 = .ok (.bipush 8, 2) := by decide +kernel
theorem dX1_init_23 : decode cX1_init 23 = .ok (.newarray .boolean, 2) := by decide +kernel
theorem dX1_init_25 : decode cX1_init 25 = .ok (.putfield 18, 3) := by decide +kernel
theorem dX1_init_28 : decode cX1_init 28 = .ok (.return_, 1) := by decide +kernel
theorem dX1_note_0 : decode cX1_note 0 = .ok (.aload_n 0, 1) := by decide +kernel
theorem dX1_note_1 : decode cX1_note 1 = .ok (.getfield 22, 3) := by decide +kernel
theorem dX1_note_4 : decode cX1_note 4 = .ok (.bipush 8, 2) := by decide +kernel
theorem dX1_note_6 : decode cX1_note 6 = .ok (.if_icmp .lt 6, 3) := by decide +kernel
theorem dX1_note_9 : decode cX1_note 9 = .ok (.bipush (-3), 2) := by decide +kernel
theorem dX1_note_11 : decode cX1_note 11 = .ok (.ireturn, 1) := by decide +kernel
theorem dX1_note_12 : decode cX1_note 12 = .ok (.aload_n 0, 1) := by decide +kernel
theorem dX1_note_13 : decode cX1_note 13 = .ok (.getfield 15, 3) := by decide +kernel
theorem dX1_note_16 : decode cX1_note 16 = .ok (.aload_n 0, 1) := by decide +kernel
theorem dX1_note_17 : decode cX1_note 17 = .ok (.getfield 22, 3) := by decide +kernel
theorem dX1_note_20 : decode cX1_note 20 = .ok (.iload_n 1, 1) := by decide +kernel
theorem dX1_note_21 : decode cX1_note 21 = .ok (.iastore, 1) := by decide +kernel
theorem dX1_note_22 : decode cX1_note 22 = .ok (.aload_n 0, 1) := by decide +kernel
theorem dX1_note_23 : decode cX1_note 23 = .ok (.getfield 18, 3) := by decide +kernel
theorem dX1_note_26 : decode cX1_note 26 = .ok (.aload_n 0, 1) := by decide +kernel
theorem dX1_note_27 : decode cX1_note 27 = .ok (.getfield 22, 3) := by decide +kernel
theorem dX1_note_30 : decode cX1_note 30 = .ok (.iload_n 2, 1) := by decide +kernel
theorem dX1_note_31 : decode cX1_note 31 = .ok (.bastore, 1) := by decide +kernel
theorem dX1_note_32 : decode cX1_note 32 = .ok (.aload_n 0, 1) := by decide +kernel
theorem dX1_note_33 : decode cX1_note 33 = .ok (.dup, 1) := by decide +kernel
theorem dX1_note_34 : decode cX1_note 34 = .ok (.getfield 22, 3) := by decide +kernel
theorem dX1_note_37 : decode cX1_note 37 = .ok (.iconst 1, 1) := by decide +kernel
theorem dX1_note_38 : decode cX1_note 38 = .ok (.iadd, 1) := by decide +kernel
theorem dX1_note_39 : decode cX1_note 39 = .ok (.putfield 22, 3) := by decide +kernel
theorem dX1_note_42 : decode cX1_note 42 = .ok (.aload_n 0, 1) := by decide +kernel
theorem dX1_note_43 : decode cX1_note 43 = .ok (.getfield 22, 3) := by decide +kernel
theorem dX1_note_46 : decode cX1_note 46 = .ok (.ireturn, 1) := by decide +kernel
theorem dX1_findSets_0 : decode cX1_findSets 0 = .ok (.aload_n 0, 1) := by decide +kernel
theorem dX1_findSets_1 : decode cX1_findSets 1 = .ok (.iconst 0, 1) := by decide +kernel
theorem dX1_findSets_2 : decode cX1_findSets 2 = .ok (.putfield 26, 3) := by decide +kernel
theorem dX1_findSets_5 : decode cX1_findSets 5 = .ok (.iconst 0, 1) := by decide +kernel
theorem dX1_findSets_6 : decode cX1_findSets 6 = .ok (.istore_n 3, 1) := by decide +kernel
theorem dX1_findSets_7 : decode cX1_findSets 7 = .ok (.iload_n 3, 1) := by decide +kernel
theorem dX1_findSets_8 : decode cX1_findSets 8 = .ok (.iload_n 2, 1) := by decide +kernel
theorem dX1_findSets_9 : decode cX1_findSets 9 = .ok (.invokestatic 29, 3) := by decide +kernel
theorem dX1_findSets_12 : decode cX1_findSets 12 = .ok (.if_icmp .gt 51, 3) := by decide +kernel
theorem dX1_findSets_15 : decode cX1_findSets 15 = .ok (.iload_n 3, 1) := by decide +kernel
theorem dX1_findSets_16 : decode cX1_findSets 16 = .ok (.bipush 64, 2) := by decide +kernel
theorem dX1_findSets_18 : decode cX1_findSets 18 = .ok (.if_icmp .ge 45, 3) := by decide +kernel
theorem dX1_findSets_21 : decode cX1_findSets 21 = .ok (.iload_n 3, 1) := by decide +kernel
theorem dX1_findSets_22 : decode cX1_findSets 22 = .ok (.invokestatic 33, 3) := by decide +kernel
theorem dX1_findSets_25 : decode cX1_findSets 25 = .ok (.iload_n 1, 1) := by decide +kernel
theorem dX1_findSets_26 : decode cX1_findSets 26 = .ok (.if_icmp .ne 31, 3) := by decide +kernel
theorem dX1_findSets_29 : decode cX1_findSets 29 = .ok (.aload_n 0, 1) := by decide +kernel
theorem dX1_findSets_30 : decode cX1_findSets 30 = .ok (.iload_n 3, 1) := by decide +kernel
theorem dX1_findSets_31 : decode cX1_findSets 31 = .ok (.invokevirtual 38, 3) := by decide +kernel
theorem dX1_findSets_34 : decode cX1_findSets 34 = .ok (.ifCond .eq 23, 3) := by decide +kernel
theorem dX1_findSets_37 : decode cX1_findSets 37 = .ok (.aload_n 0, 1) := by decide +kernel
theorem dX1_findSets_38 : decode cX1_findSets 38 = .ok (.getfield 11, 3) := by decide +kernel
theorem dX1_findSets_41 : decode cX1_findSets 41 = .ok (.aload_n 0, 1) := by decide +kernel
theorem dX1_findSets_42 : decode cX1_findSets 42 = .ok (.getfield 26, 3) := by decide +kernel
theorem dX1_findSets_45 : decode cX1_findSets 45 = .ok (.iload_n 3, 1) := by decide +kernel
theorem dX1_findSets_46 : decode cX1_findSets 46 = .ok (.iastore, 1) := by decide +kernel
theorem dX1_findSets_47 : decode cX1_findSets 47 = .ok (.aload_n 0, 1) := by decide +kernel
theorem dX1_findSets_48 : decode cX1_findSets 48 = .ok (.dup, 1) := by decide +kernel
theorem dX1_findSets_49 : decode cX1_findSets 49 = .ok (.getfield 26, 3) := by decide +kernel
theorem dX1_findSets_52 : decode cX1_findSets 52 = .ok (.iconst 1, 1) := by decide +kernel
theorem dX1_findSets_53 : decode cX1_findSets 53 = .ok (.iadd, 1) := by decide +kernel
theorem dX1_findSets_54 : decode cX1_findSets 54 = .ok (.putfield 26, 3) := by decide +kernel
theorem dX1_findSets_57 : decode cX1_findSets 57 = .ok (.iinc 3 1, 3) := by decide +kernel
theorem dX1_findSets_60 : decode cX1_findSets 60 = .ok (.goto (-53), 3) := by decide +kernel
theorem dX1_findSets_63 : decode cX1_findSets 63 = .ok (.return_, 1) := by decide +kernel
theorem dX1_isAsTested_0 : decode cX1_isAsTested 0 = .ok (.iconst 0, 1) := by decide +kernel
theorem dX1_isAsTested_1 : decode cX1_isAsTested 1 = .ok (.istore_n 2, 1) := by decide +kernel
theorem dX1_isAsTested_2 : decode cX1_isAsTested 2 = .ok (.iload_n 2, 1) := by decide +kernel
theorem dX1_isAsTested_3 : decode cX1_isAsTested 3 = .ok (.aload_n 0, 1) := by decide +kernel
theorem dX1_isAsTested_4 : decode cX1_isAsTested 4 = .ok (.getfield 22, 3) := by decide +kernel
theorem dX1_isAsTested_7 : decode cX1_isAsTested 7 = .ok (.if_icmp .ge 36, 3) := by decide +kernel
theorem dX1_isAsTested_10 : decode cX1_isAsTested 10 = .ok (.iload_n 1, 1) := by decide +kernel
theorem dX1_isAsTested_11 : decode cX1_isAsTested 11 = .ok (.aload_n 0, 1) := by decide +kernel
theorem dX1_isAsTested_12 : decode cX1_isAsTested 12 = .ok (.getfield 15, 3) := by decide +kernel
theorem dX1_isAsTested_15 : decode cX1_isAsTested 15 = .ok (.iload_n 2, 1) := by decide +kernel
theorem dX1_isAsTested_16 : decode cX1_isAsTested 16 = .ok (.iaload, 1) := by decide +kernel
theorem dX1_isAsTested_17 : decode cX1_isAsTested 17 = .ok (.iand, 1) := by decide +kernel
theorem dX1_isAsTested_18 : decode cX1_isAsTested 18 = .ok (.ifCond .eq 7, 3) := by decide +kernel
theorem dX1_isAsTested_21 : decode cX1_isAsTested 21 = .ok (.iconst 1, 1) := by decide +kernel
theorem dX1_isAsTested_22 : decode cX1_isAsTested 22 = .ok (.goto 4, 3) := by decide +kernel
theorem dX1_isAsTested_25 : decode cX1_isAsTested 25 = .ok (.iconst 0, 1) := by decide +kernel
theorem dX1_isAsTested_26 : decode cX1_isAsTested 26 = .ok (.aload_n 0, 1) := by decide +kernel
theorem dX1_isAsTested_27 : decode cX1_isAsTested 27 = .ok (.getfield 18, 3) := by decide +kernel
theorem dX1_isAsTested_30 : decode cX1_isAsTested 30 = .ok (.iload_n 2, 1) := by decide +kernel
theorem dX1_isAsTested_31 : decode cX1_isAsTested 31 = .ok (.baload, 1) := by decide +kernel
theorem dX1_isAsTested_32 : decode cX1_isAsTested 32 = .ok (.if_icmp .eq 5, 3) := by decide +kernel
theorem dX1_isAsTested_35 : decode cX1_isAsTested 35 = .ok (.iconst 0, 1) := by decide +kernel
theorem dX1_isAsTested_36 : decode cX1_isAsTested 36 = .ok (.ireturn, 1) := by decide +kernel
theorem dX1_isAsTested_37 : decode cX1_isAsTested 37 = .ok (.iinc 2 1, 3) := by decide +kernel
theorem dX1_isAsTested_40 : decode cX1_isAsTested 40 = .ok (.goto (-38), 3) := by decide +kernel
theorem dX1_isAsTested_43 : decode cX1_isAsTested 43 = .ok (.iconst 1, 1) := by decide +kernel
theorem dX1_isAsTested_44 : decode cX1_isAsTested 44 = .ok (.ireturn, 1) := by decide +kernel
theorem dX1_inAll_0 : decode cX1_inAll 0 = .ok (.iconst (-1), 1) := by decide +kernel
theorem dX1_inAll_1 : decode cX1_inAll 1 = .ok (.istore_n 1, 1) := by decide +kernel
theorem dX1_inAll_2 : decode cX1_inAll 2 = .ok (.iconst 0, 1) := by decide +kernel
theorem dX1_inAll_3 : decode cX1_inAll 3 = .ok (.istore_n 2, 1) := by decide +kernel
theorem dX1_inAll_4 : decode cX1_inAll 4 = .ok (.iload_n 2, 1) := by decide +kernel
theorem dX1_inAll_5 : decode cX1_inAll 5 = .ok (.aload_n 0, 1) := by decide +kernel
theorem dX1_inAll_6 : decode cX1_inAll 6 = .ok (.getfield 26, 3) := by decide +kernel
theorem dX1_inAll_9 : decode cX1_inAll 9 = .ok (.if_icmp .ge 18, 3) := by decide +kernel
theorem dX1_inAll_12 : decode cX1_inAll 12 = .ok (.iload_n 1, 1) := by decide +kernel
theorem dX1_inAll_13 : decode cX1_inAll 13 = .ok (.aload_n 0, 1) := by decide +kernel
theorem dX1_inAll_14 : decode cX1_inAll 14 = .ok (.getfield 11, 3) := by decide +kernel
theorem dX1_inAll_17 : decode cX1_inAll 17 = .ok (.iload_n 2, 1) := by decide +kernel
theorem dX1_inAll_18 : decode cX1_inAll 18 = .ok (.iaload, 1) := by decide +kernel
theorem dX1_inAll_19 : decode cX1_inAll 19 = .ok (.iand, 1) := by decide +kernel
theorem dX1_inAll_20 : decode cX1_inAll 20 = .ok (.istore_n 1, 1) := by decide +kernel
theorem dX1_inAll_21 : decode cX1_inAll 21 = .ok (.iinc 2 1, 3) := by decide +kernel
theorem dX1_inAll_24 : decode cX1_inAll 24 = .ok (.goto (-20), 3) := by decide +kernel
theorem dX1_inAll_27 : decode cX1_inAll 27 = .ok (.iload_n 1, 1) := by decide +kernel
theorem dX1_inAll_28 : decode cX1_inAll 28 = .ok (.ireturn, 1) := by decide +kernel
theorem dX1_inAny_0 : decode cX1_inAny 0 = .ok (.iconst 0, 1) := by decide +kernel
theorem dX1_inAny_1 : decode cX1_inAny 1 = .ok (.istore_n 1, 1) := by decide +kernel
theorem dX1_inAny_2 : decode cX1_inAny 2 = .ok (.iconst 0, 1) := by decide +kernel
theorem dX1_inAny_3 : decode cX1_inAny 3 = .ok (.istore_n 2, 1) := by decide +kernel
theorem dX1_inAny_4 : decode cX1_inAny 4 = .ok (.iload_n 2, 1) := by decide +kernel
theorem dX1_inAny_5 : decode cX1_inAny 5 = .ok (.aload_n 0, 1) := by decide +kernel
theorem dX1_inAny_6 : decode cX1_inAny 6 = .ok (.getfield 26, 3) := by decide +kernel
theorem dX1_inAny_9 : decode cX1_inAny 9 = .ok (.if_icmp .ge 18, 3) := by decide +kernel
theorem dX1_inAny_12 : decode cX1_inAny 12 = .ok (.iload_n 1, 1) := by decide +kernel
theorem dX1_inAny_13 : decode cX1_inAny 13 = .ok (.aload_n 0, 1) := by decide +kernel
theorem dX1_inAny_14 : decode cX1_inAny 14 = .ok (.getfield 11, 3) := by decide +kernel
theorem dX1_inAny_17 : decode cX1_inAny 17 = .ok (.iload_n 2, 1) := by decide +kernel
theorem dX1_inAny_18 : decode cX1_inAny 18 = .ok (.iaload, 1) := by decide +kernel
theorem dX1_inAny_19 : decode cX1_inAny 19 = .ok (.ior, 1) := by decide +kernel
theorem dX1_inAny_20 : decode cX1_inAny 20 = .ok (.istore_n 1, 1) := by decide +kernel
theorem dX1_inAny_21 : decode cX1_inAny 21 = .ok (.iinc 2 1, 3) := by decide +kernel
theorem dX1_inAny_24 : decode cX1_inAny 24 = .ok (.goto (-20), 3) := by decide +kernel
theorem dX1_inAny_27 : decode cX1_inAny 27 = .ok (.iload_n 1, 1) := by decide +kernel
theorem dX1_inAny_28 : decode cX1_inAny 28 = .ok (.ireturn, 1) := by decide +kernel
theorem dX1_leftAtWorst_0 : decode cX1_leftAtWorst 0 = .ok (.iconst 0, 1) := by decide +kernel
theorem dX1_leftAtWorst_1 : decode cX1_leftAtWorst 1 = .ok (.istore_n 2, 1) := by decide +kernel
theorem dX1_leftAtWorst_2 : decode cX1_leftAtWorst 2 = .ok (.iconst 0, 1) := by decide +kernel
theorem dX1_leftAtWorst_3 : decode cX1_leftAtWorst 3 = .ok (.istore_n 3, 1) := by decide +kernel
theorem dX1_leftAtWorst_4 : decode cX1_leftAtWorst 4 = .ok (.iload_n 3, 1) := by decide +kernel
theorem dX1_leftAtWorst_5 : decode cX1_leftAtWorst 5 = .ok (.aload_n 0, 1) := by decide +kernel
theorem dX1_leftAtWorst_6 : decode cX1_leftAtWorst 6 = .ok (.getfield 26, 3) := by decide +kernel
theorem dX1_leftAtWorst_9 : decode cX1_leftAtWorst 9 = .ok (.if_icmp .ge 31, 3) := by decide +kernel
theorem dX1_leftAtWorst_12 : decode cX1_leftAtWorst 12 = .ok (.iload_n 2, 1) := by decide +kernel
theorem dX1_leftAtWorst_13 : decode cX1_leftAtWorst 13 = .ok (.aload_n 0, 1) := by decide +kernel
theorem dX1_leftAtWorst_14 : decode cX1_leftAtWorst 14 = .ok (.getfield 11, 3) := by decide +kernel
theorem dX1_leftAtWorst_17 : decode cX1_leftAtWorst 17 = .ok (.iload_n 3, 1) := by decide +kernel
theorem dX1_leftAtWorst_18 : decode cX1_leftAtWorst 18 = .ok (.iaload, 1) := by decide +kernel
theorem dX1_leftAtWorst_19 : decode cX1_leftAtWorst 19 = .ok (.iload_n 1, 1) := by decide +kernel
theorem dX1_leftAtWorst_20 : decode cX1_leftAtWorst 20 = .ok (.iand, 1) := by decide +kernel
theorem dX1_leftAtWorst_21 : decode cX1_leftAtWorst 21 = .ok (.ifCond .eq 7, 3) := by decide +kernel
theorem dX1_leftAtWorst_24 : decode cX1_leftAtWorst 24 = .ok (.iconst 1, 1) := by decide +kernel
theorem dX1_leftAtWorst_25 : decode cX1_leftAtWorst 25 = .ok (.goto 4, 3) := by decide +kernel
theorem dX1_leftAtWorst_28 : decode cX1_leftAtWorst 28 = .ok (.iconst 0, 1) := by decide +kernel
theorem dX1_leftAtWorst_29 : decode cX1_leftAtWorst 29 = .ok (.invokestatic 42, 3) := by decide +kernel
theorem dX1_leftAtWorst_32 : decode cX1_leftAtWorst 32 = .ok (.iadd, 1) := by decide +kernel
theorem dX1_leftAtWorst_33 : decode cX1_leftAtWorst 33 = .ok (.istore_n 2, 1) := by decide +kernel
theorem dX1_leftAtWorst_34 : decode cX1_leftAtWorst 34 = .ok (.iinc 3 1, 3) := by decide +kernel
theorem dX1_leftAtWorst_37 : decode cX1_leftAtWorst 37 = .ok (.goto (-33), 3) := by decide +kernel
theorem dX1_leftAtWorst_40 : decode cX1_leftAtWorst 40 = .ok (.iload_n 2, 1) := by decide +kernel
theorem dX1_leftAtWorst_41 : decode cX1_leftAtWorst 41 = .ok (.aload_n 0, 1) := by decide +kernel
theorem dX1_leftAtWorst_42 : decode cX1_leftAtWorst 42 = .ok (.getfield 26, 3) := by decide +kernel
theorem dX1_leftAtWorst_45 : decode cX1_leftAtWorst 45 = .ok (.iload_n 2, 1) := by decide +kernel
theorem dX1_leftAtWorst_46 : decode cX1_leftAtWorst 46 = .ok (.isub, 1) := by decide +kernel
theorem dX1_leftAtWorst_47 : decode cX1_leftAtWorst 47 = .ok (.invokestatic 46, 3) := by decide +kernel
theorem dX1_leftAtWorst_50 : decode cX1_leftAtWorst 50 = .ok (.ireturn, 1) := by decide +kernel
theorem dX2_init_0 : decode cX2_init 0 = .ok (.aload_n 0, 1) := by decide +kernel
theorem dX2_init_1 : decode cX2_init 1 = .ok (.invokespecial 3, 3) := by decide +kernel
theorem dX2_init_4 : decode cX2_init 4 = .ok (.aload_n 0, 1) := by decide +kernel
theorem dX2_init_5 : decode cX2_init 5 = .ok (.bipush 6, 2) := by decide +kernel
theorem dX2_init_7 : decode cX2_init 7 = .ok (.newarray .int, 2) := by decide +kernel
theorem dX2_init_9 : decode cX2_init 9 = .ok (.putfield 11, 3) := by decide +kernel
theorem dX2_init_12 : decode cX2_init 12 = .ok (.aload_n 0, 1) := by decide +kernel
theorem dX2_init_13 : decode cX2_init 13 = .ok (.bipush 6, 2) := by decide +kernel
theorem dX2_init_15 : decode cX2_init 15 = .ok (.newarray .boolean, 2) := by decide +kernel
theorem dX2_init_17 : decode cX2_init 17 = .ok (.putfield 15, 3) := by decide +kernel
theorem dX2_init_20 : decode cX2_init 20 = .ok (.aload_n 0, 1) := by decide +kernel
theorem dX2_init_21 : decode cX2_init 21 = .ok (.bipush 12, 2) := by decide +kernel
theorem dX2_init_23 : decode cX2_init 23 = .ok (.newarray .int, 2) := by decide +kernel
theorem dX2_init_25 : decode cX2_init 25 = .ok (.putfield 19, 3) := by decide +kernel
theorem dX2_init_28 : decode cX2_init 28 = .ok (.aload_n 0, 1) := by decide +kernel
theorem dX2_init_29 : decode cX2_init 29 = .ok (.aload_n 1, 1) := by decide +kernel
theorem dX2_init_30 : decode cX2_init 30 = .ok (.putfield 22, 3) := by decide +kernel
theorem dX2_init_33 : decode cX2_init 33 = .ok (.return_, 1) := by decide +kernel
theorem dX2_note_0 : decode cX2_note 0 = .ok (.aload_n 0, 1) := by decide +kernel
theorem dX2_note_1 : decode cX2_note 1 = .ok (.getfield 26, 3) := by decide +kernel
theorem dX2_note_4 : decode cX2_note 4 = .ok (.bipush 6, 2) := by decide +kernel
theorem dX2_note_6 : decode cX2_note 6 = .ok (.if_icmp .lt 6, 3) := by decide +kernel
theorem dX2_note_9 : decode cX2_note 9 = .ok (.bipush (-3), 2) := by decide +kernel
theorem dX2_note_11 : decode cX2_note 11 = .ok (.ireturn, 1) := by decide +kernel
theorem dX2_note_12 : decode cX2_note 12 = .ok (.aload_n 0, 1) := by decide +kernel
theorem dX2_note_13 : decode cX2_note 13 = .ok (.getfield 11, 3) := by decide +kernel
theorem dX2_note_16 : decode cX2_note 16 = .ok (.aload_n 0, 1) := by decide +kernel
theorem dX2_note_17 : decode cX2_note 17 = .ok (.getfield 26, 3) := by decide +kernel
theorem dX2_note_20 : decode cX2_note 20 = .ok (.iload_n 1, 1) := by decide +kernel
theorem dX2_note_21 : decode cX2_note 21 = .ok (.iastore, 1) := by decide +kernel
theorem dX2_note_22 : decode cX2_note 22 = .ok (.aload_n 0, 1) := by decide +kernel
theorem dX2_note_23 : decode cX2_note 23 = .ok (.getfield 15, 3) := by decide +kernel
theorem dX2_note_26 : decode cX2_note 26 = .ok (.aload_n 0, 1) := by decide +kernel
theorem dX2_note_27 : decode cX2_note 27 = .ok (.getfield 26, 3) := by decide +kernel
theorem dX2_note_30 : decode cX2_note 30 = .ok (.iload_n 2, 1) := by decide +kernel
theorem dX2_note_31 : decode cX2_note 31 = .ok (.bastore, 1) := by decide +kernel
theorem dX2_note_32 : decode cX2_note 32 = .ok (.aload_n 0, 1) := by decide +kernel
theorem dX2_note_33 : decode cX2_note 33 = .ok (.dup, 1) := by decide +kernel
theorem dX2_note_34 : decode cX2_note 34 = .ok (.getfield 26, 3) := by decide +kernel
theorem dX2_note_37 : decode cX2_note 37 = .ok (.iconst 1, 1) := by decide +kernel
theorem dX2_note_38 : decode cX2_note 38 = .ok (.iadd, 1) := by decide +kernel
theorem dX2_note_39 : decode cX2_note 39 = .ok (.putfield 26, 3) := by decide +kernel
theorem dX2_note_42 : decode cX2_note 42 = .ok (.aload_n 0, 1) := by decide +kernel
theorem dX2_note_43 : decode cX2_note 43 = .ok (.getfield 26, 3) := by decide +kernel
theorem dX2_note_46 : decode cX2_note 46 = .ok (.ireturn, 1) := by decide +kernel
theorem dX2_takeSilence_0 : decode cX2_takeSilence 0 = .ok (.iconst 0, 1) := by decide +kernel
theorem dX2_takeSilence_1 : decode cX2_takeSilence 1 = .ok (.istore_n 1, 1) := by decide +kernel
theorem dX2_takeSilence_2 : decode cX2_takeSilence 2 = .ok (.iload_n 1, 1) := by decide +kernel
theorem dX2_takeSilence_3 : decode cX2_takeSilence 3 = .ok (.bipush 12, 2) := by decide +kernel
theorem dX2_takeSilence_5 : decode cX2_takeSilence 5 = .ok (.if_icmp .ge 23, 3) := by decide +kernel
theorem dX2_takeSilence_8 : decode cX2_takeSilence 8 = .ok (.aload_n 0, 1) := by decide +kernel
theorem dX2_takeSilence_9 : decode cX2_takeSilence 9 = .ok (.getfield 19, 3) := by decide +kernel
theorem dX2_takeSilence_12 : decode cX2_takeSilence 12 = .ok (.iload_n 1, 1) := by decide +kernel
theorem dX2_takeSilence_13 : decode cX2_takeSilence 13 = .ok (.aload_n 0, 1) := by decide +kernel
theorem dX2_takeSilence_14 : decode cX2_takeSilence 14 = .ok (.getfield 22, 3) := by decide +kernel
theorem dX2_takeSilence_17 : decode cX2_takeSilence 17 = .ok (.iload_n 1, 1) := by decide +kernel
theorem dX2_takeSilence_18 : decode cX2_takeSilence 18 = .ok (.invokevirtual 30, 3) := by decide +kernel
theorem dX2_takeSilence_21 : decode cX2_takeSilence 21 = .ok (.iastore, 1) := by decide +kernel
theorem dX2_takeSilence_22 : decode cX2_takeSilence 22 = .ok (.iinc 1 1, 3) := by decide +kernel
theorem dX2_takeSilence_25 : decode cX2_takeSilence 25 = .ok (.goto (-23), 3) := by decide +kernel
theorem dX2_takeSilence_28 : decode cX2_takeSilence 28 = .ok (.return_, 1) := by decide +kernel
theorem dX2_addSilence_0 : decode cX2_addSilence 0 = .ok (.iconst 0, 1) := by decide +kernel
theorem dX2_addSilence_1 : decode cX2_addSilence 1 = .ok (.istore_n 3, 1) := by decide +kernel
theorem dX2_addSilence_2 : decode cX2_addSilence 2 = .ok (.iload_n 3, 1) := by decide +kernel
theorem dX2_addSilence_3 : decode cX2_addSilence 3 = .ok (.bipush 12, 2) := by decide +kernel
theorem dX2_addSilence_5 : decode cX2_addSilence 5 = .ok (.if_icmp .ge 28, 3) := by decide +kernel
theorem dX2_addSilence_8 : decode cX2_addSilence 8 = .ok (.aload_n 0, 1) := by decide +kernel
theorem dX2_addSilence_9 : decode cX2_addSilence 9 = .ok (.getfield 19, 3) := by decide +kernel
theorem dX2_addSilence_12 : decode cX2_addSilence 12 = .ok (.iload_n 3, 1) := by decide +kernel
theorem dX2_addSilence_13 : decode cX2_addSilence 13 = .ok (.dup2, 1) := by decide +kernel
theorem dX2_addSilence_14 : decode cX2_addSilence 14 = .ok (.iaload, 1) := by decide +kernel
theorem dX2_addSilence_15 : decode cX2_addSilence 15 = .ok (.aload_n 0, 1) := by decide +kernel
theorem dX2_addSilence_16 : decode cX2_addSilence 16 = .ok (.getfield 22, 3) := by decide +kernel
theorem dX2_addSilence_19 : decode cX2_addSilence 19 = .ok (.iload_n 1, 1) := by decide +kernel
theorem dX2_addSilence_20 : decode cX2_addSilence 20 = .ok (.iload_n 2, 1) := by decide +kernel
theorem dX2_addSilence_21 : decode cX2_addSilence 21 = .ok (.iload_n 3, 1) := by decide +kernel
theorem dX2_addSilence_22 : decode cX2_addSilence 22 = .ok (.invokevirtual 36, 3) := by decide +kernel
theorem dX2_addSilence_25 : decode cX2_addSilence 25 = .ok (.ior, 1) := by decide +kernel
theorem dX2_addSilence_26 : decode cX2_addSilence 26 = .ok (.iastore, 1) := by decide +kernel
theorem dX2_addSilence_27 : decode cX2_addSilence 27 = .ok (.iinc 3 1, 3) := by decide +kernel
theorem dX2_addSilence_30 : decode cX2_addSilence 30 = .ok (.goto (-28), 3) := by decide +kernel
theorem dX2_addSilence_33 : decode cX2_addSilence 33 = .ok (.return_, 1) := by decide +kernel
theorem dX2_knowersBehind_0 : decode cX2_knowersBehind 0 = .ok (.iconst 1, 1) := by decide +kernel
theorem dX2_knowersBehind_1 : decode cX2_knowersBehind 1 = .ok (.iload_n 1, 1) := by decide +kernel
theorem dX2_knowersBehind_2 : decode cX2_knowersBehind 2 = .ok (.ishl, 1) := by decide +kernel
theorem dX2_knowersBehind_3 : decode cX2_knowersBehind 3 = .ok (.istore_n 3, 1) := by decide +kernel
theorem dX2_knowersBehind_4 : decode cX2_knowersBehind 4 = .ok (.iconst 0, 1) := by decide +kernel
theorem dX2_knowersBehind_5 : decode cX2_knowersBehind 5 = .ok (.istore 4, 2) := by decide +kernel
theorem dX2_knowersBehind_7 : decode cX2_knowersBehind 7 = .ok (.iload 4, 2) := by decide +kernel
theorem dX2_knowersBehind_9 : decode cX2_knowersBehind 9 = .ok (.iload_n 2, 1) := by decide +kernel
theorem dX2_knowersBehind_10 : decode cX2_knowersBehind 10 = .ok (.if_icmp .gt 24, 3) := by decide +kernel
theorem dX2_knowersBehind_13 : decode cX2_knowersBehind 13 = .ok (.iload 4, 2) := by decide +kernel
theorem dX2_knowersBehind_15 : decode cX2_knowersBehind 15 = .ok (.bipush 12, 2) := by decide +kernel
theorem dX2_knowersBehind_17 : decode cX2_knowersBehind 17 = .ok (.if_icmp .ge 17, 3) := by decide +kernel
theorem dX2_knowersBehind_20 : decode cX2_knowersBehind 20 = .ok (.aload_n 0, 1) := by decide +kernel
theorem dX2_knowersBehind_21 : decode cX2_knowersBehind 21 = .ok (.iload_n 3, 1) := by decide +kernel
theorem dX2_knowersBehind_22 : decode cX2_knowersBehind 22 = .ok (.iload 4, 2) := by decide +kernel
theorem dX2_knowersBehind_24 : decode cX2_knowersBehind 24 = .ok (.invokevirtual 40, 3) := by decide +kernel
theorem dX2_knowersBehind_27 : decode cX2_knowersBehind 27 = .ok (.istore_n 3, 1) := by decide +kernel
theorem dX2_knowersBehind_28 : decode cX2_knowersBehind 28 = .ok (.iinc 4 1, 3) := by decide +kernel
theorem dX2_knowersBehind_31 : decode cX2_knowersBehind 31 = .ok (.goto (-24), 3) := by decide +kernel
theorem dX2_knowersBehind_34 : decode cX2_knowersBehind 34 = .ok (.iload_n 3, 1) := by decide +kernel
theorem dX2_knowersBehind_35 : decode cX2_knowersBehind 35 = .ok (.ireturn, 1) := by decide +kernel
theorem dX2_hourItComes_0 : decode cX2_hourItComes 0 = .ok (.iload_n 1, 1) := by decide +kernel
theorem dX2_hourItComes_1 : decode cX2_hourItComes 1 = .ok (.iload_n 2, 1) := by decide +kernel
theorem dX2_hourItComes_2 : decode cX2_hourItComes 2 = .ok (.if_icmp .ne 5, 3) := by decide +kernel
theorem dX2_hourItComes_5 : decode cX2_hourItComes 5 = .ok (.iconst 0, 1) := by decide +kernel
theorem dX2_hourItComes_6 : decode cX2_hourItComes 6 = .ok (.ireturn, 1) := by decide +kernel
theorem dX2_hourItComes_7 : decode cX2_hourItComes 7 = .ok (.iconst 1, 1) := by decide +kernel
theorem dX2_hourItComes_8 : decode cX2_hourItComes 8 = .ok (.iload_n 1, 1) := by decide +kernel
theorem dX2_hourItComes_9 : decode cX2_hourItComes 9 = .ok (.ishl, 1) := by decide +kernel
theorem dX2_hourItComes_10 : decode cX2_hourItComes 10 = .ok (.istore_n 3, 1) := by decide +kernel
theorem dX2_hourItComes_11 : decode cX2_hourItComes 11 = .ok (.iconst 0, 1) := by decide +kernel
theorem dX2_hourItComes_12 : decode cX2_hourItComes 12 = .ok (.istore 4, 2) := by decide +kernel
theorem dX2_hourItComes_14 : decode cX2_hourItComes 14 = .ok (.iload 4, 2) := by decide +kernel
theorem dX2_hourItComes_16 : decode cX2_hourItComes 16 = .ok (.bipush 12, 2) := by decide +kernel
theorem dX2_hourItComes_18 : decode cX2_hourItComes 18 = .ok (.if_icmp .ge 28, 3) := by decide +kernel
theorem dX2_hourItComes_21 : decode cX2_hourItComes 21 = .ok (.aload_n 0, 1) := by decide +kernel
theorem dX2_hourItComes_22 : decode cX2_hourItComes 22 = .ok (.iload_n 3, 1) := by decide +kernel
theorem dX2_hourItComes_23 : decode cX2_hourItComes 23 = .ok (.iload 4, 2) := by decide +kernel
theorem dX2_hourItComes_25 : decode cX2_hourItComes 25 = .ok (.invokevirtual 40, 3) := by decide +kernel
theorem dX2_hourItComes_28 : decode cX2_hourItComes 28 = .ok (.istore_n 3, 1) := by decide +kernel
theorem dX2_hourItComes_29 : decode cX2_hourItComes 29 = .ok (.iload_n 3, 1) := by decide +kernel
theorem dX2_hourItComes_30 : decode cX2_hourItComes 30 = .ok (.iload_n 2, 1) := by decide +kernel
theorem dX2_hourItComes_31 : decode cX2_hourItComes 31 = .ok (.invokestatic 44, 3) := by decide +kernel
theorem dX2_hourItComes_34 : decode cX2_hourItComes 34 = .ok (.ifCond .eq 6, 3) := by decide +kernel
theorem dX2_hourItComes_37 : decode cX2_hourItComes 37 = .ok (.iload 4, 2) := by decide +kernel
theorem dX2_hourItComes_39 : decode cX2_hourItComes 39 = .ok (.ireturn, 1) := by decide +kernel
theorem dX2_hourItComes_40 : decode cX2_hourItComes 40 = .ok (.iinc 4 1, 3) := by decide +kernel
theorem dX2_hourItComes_43 : decode cX2_hourItComes 43 = .ok (.goto (-29), 3) := by decide +kernel
theorem dX2_hourItComes_46 : decode cX2_hourItComes 46 = .ok (.bipush (-4), 2) := by decide +kernel
theorem dX2_hourItComes_48 : decode cX2_hourItComes 48 = .ok (.ireturn, 1) := by decide +kernel
theorem dX2_knowersAfter_0 : decode cX2_knowersAfter 0 = .ok (.iload_n 1, 1) := by decide +kernel
theorem dX2_knowersAfter_1 : decode cX2_knowersAfter 1 = .ok (.istore_n 3, 1) := by decide +kernel
theorem dX2_knowersAfter_2 : decode cX2_knowersAfter 2 = .ok (.iconst 0, 1) := by decide +kernel
theorem dX2_knowersAfter_3 : decode cX2_knowersAfter 3 = .ok (.istore 4, 2) := by decide +kernel
theorem dX2_knowersAfter_5 : decode cX2_knowersAfter 5 = .ok (.iload 4, 2) := by decide +kernel
theorem dX2_knowersAfter_7 : decode cX2_knowersAfter 7 = .ok (.aload_n 0, 1) := by decide +kernel
theorem dX2_knowersAfter_8 : decode cX2_knowersAfter 8 = .ok (.getfield 22, 3) := by decide +kernel
theorem dX2_knowersAfter_11 : decode cX2_knowersAfter 11 = .ok (.getfield 48, 3) := by decide +kernel
theorem dX2_knowersAfter_14 : decode cX2_knowersAfter 14 = .ok (.if_icmp .ge 146, 3) := by decide +kernel
theorem dX2_knowersAfter_17 : decode cX2_knowersAfter 17 = .ok (.aload_n 0, 1) := by decide +kernel
theorem dX2_knowersAfter_18 : decode cX2_knowersAfter 18 = .ok (.getfield 22, 3) := by decide +kernel
theorem dX2_knowersAfter_21 : decode cX2_knowersAfter 21 = .ok (.getfield 51, 3) := by decide +kernel
theorem dX2_knowersAfter_24 : decode cX2_knowersAfter 24 = .ok (.iload 4, 2) := by decide +kernel
theorem dX2_knowersAfter_26 : decode cX2_knowersAfter 26 = .ok (.iaload, 1) := by decide +kernel
theorem dX2_knowersAfter_27 : decode cX2_knowersAfter 27 = .ok (.istore 5, 2) := by decide +kernel
theorem dX2_knowersAfter_29 : decode cX2_knowersAfter 29 = .ok (.aload_n 0, 1) := by decide +kernel
theorem dX2_knowersAfter_30 : decode cX2_knowersAfter 30 = .ok (.getfield 22, 3) := by decide +kernel
theorem dX2_knowersAfter_33 : decode cX2_knowersAfter 33 = .ok (.getfield 54, 3) := by decide +kernel
theorem dX2_knowersAfter_36 : decode cX2_knowersAfter 36 = .ok (.iload 4, 2) := by decide +kernel
theorem dX2_knowersAfter_38 : decode cX2_knowersAfter 38 = .ok (.iaload, 1) := by decide +kernel
theorem dX2_knowersAfter_39 : decode cX2_knowersAfter 39 = .ok (.istore 6, 2) := by decide +kernel
theorem dX2_knowersAfter_41 : decode cX2_knowersAfter 41 = .ok (.aload_n 0, 1) := by decide +kernel
theorem dX2_knowersAfter_42 : decode cX2_knowersAfter 42 = .ok (.getfield 22, 3) := by decide +kernel
theorem dX2_knowersAfter_45 : decode cX2_knowersAfter 45 = .ok (.getfield 57, 3) := by decide +kernel
theorem dX2_knowersAfter_48 : decode cX2_knowersAfter 48 = .ok (.iload 4, 2) := by decide +kernel
theorem dX2_knowersAfter_50 : decode cX2_knowersAfter 50 = .ok (.iaload, 1) := by decide +kernel
theorem dX2_knowersAfter_51 : decode cX2_knowersAfter 51 = .ok (.iload_n 2, 1) := by decide +kernel
theorem dX2_knowersAfter_52 : decode cX2_knowersAfter 52 = .ok (.if_icmp .ne 102, 3) := by decide +kernel
theorem dX2_knowersAfter_55 : decode cX2_knowersAfter 55 = .ok (.aload_n 0, 1) := by decide +kernel
theorem dX2_knowersAfter_56 : decode cX2_knowersAfter 56 = .ok (.getfield 22, 3) := by decide +kernel
theorem dX2_knowersAfter_59 : decode cX2_knowersAfter 59 = .ok (.aload_n 0, 1) := by decide +kernel
theorem dX2_knowersAfter_60 : decode cX2_knowersAfter 60 = .ok (.getfield 19, 3) := by decide +kernel
theorem dX2_knowersAfter_63 : decode cX2_knowersAfter 63 = .ok (.iload_n 2, 1) := by decide +kernel
theorem dX2_knowersAfter_64 : decode cX2_knowersAfter 64 = .ok (.iaload, 1) := by decide +kernel
theorem dX2_knowersAfter_65 : decode cX2_knowersAfter 65 = .ok (.iload 5, 2) := by decide +kernel
theorem dX2_knowersAfter_67 : decode cX2_knowersAfter 67 = .ok (.iload 6, 2) := by decide +kernel
theorem dX2_knowersAfter_69 : decode cX2_knowersAfter 69 = .ok (.invokevirtual 60, 3) := by decide +kernel
theorem dX2_knowersAfter_72 : decode cX2_knowersAfter 72 = .ok (.ifCond .ne 6, 3) := by decide +kernel
theorem dX2_knowersAfter_75 : decode cX2_knowersAfter 75 = .ok (.goto 79, 3) := by decide +kernel
theorem dX2_knowersAfter_78 : decode cX2_knowersAfter 78 = .ok (.iload_n 3, 1) := by decide +kernel
theorem dX2_knowersAfter_79 : decode cX2_knowersAfter 79 = .ok (.iload 5, 2) := by decide +kernel
theorem dX2_knowersAfter_81 : decode cX2_knowersAfter 81 = .ok (.invokestatic 44, 3) := by decide +kernel
theorem dX2_knowersAfter_84 : decode cX2_knowersAfter 84 = .ok (.ifCond .eq 12, 3) := by decide +kernel
theorem dX2_knowersAfter_87 : decode cX2_knowersAfter 87 = .ok (.iload_n 3, 1) := by decide +kernel
theorem dX2_knowersAfter_88 : decode cX2_knowersAfter 88 = .ok (.aload_n 0, 1) := by decide +kernel
theorem dX2_knowersAfter_89 : decode cX2_knowersAfter 89 = .ok (.iload 6, 2) := by decide +kernel
theorem dX2_knowersAfter_91 : decode cX2_knowersAfter 91 = .ok (.invokevirtual 64, 3) := by decide +kernel
theorem dX2_knowersAfter_94 : decode cX2_knowersAfter 94 = .ok (.ior, 1) := by decide +kernel
theorem dX2_knowersAfter_95 : decode cX2_knowersAfter 95 = .ok (.istore_n 3, 1) := by decide +kernel
theorem dX2_knowersAfter_96 : decode cX2_knowersAfter 96 = .ok (.aload_n 0, 1) := by decide +kernel
theorem dX2_knowersAfter_97 : decode cX2_knowersAfter 97 = .ok (.getfield 22, 3) := by decide +kernel
theorem dX2_knowersAfter_100 : decode cX2_knowersAfter 100 = .ok (.getfield 67, 3) := by decide +kernel
theorem dX2_knowersAfter_103 : decode cX2_knowersAfter 103 = .ok (.iload 5, 2) := by decide +kernel
theorem dX2_knowersAfter_105 : decode cX2_knowersAfter 105 = .ok (.iaload, 1) := by decide +kernel
theorem dX2_knowersAfter_106 : decode cX2_knowersAfter 106 = .ok (.iconst 1, 1) := by decide +kernel
theorem dX2_knowersAfter_107 : decode cX2_knowersAfter 107 = .ok (.if_icmp .eq 17, 3) := by decide +kernel
theorem dX2_knowersAfter_110 : decode cX2_knowersAfter 110 = .ok (.aload_n 0, 1) := by decide +kernel
theorem dX2_knowersAfter_111 : decode cX2_knowersAfter 111 = .ok (.getfield 22, 3) := by decide +kernel
theorem dX2_knowersAfter_114 : decode cX2_knowersAfter 114 = .ok (.getfield 67, 3) := by decide +kernel
theorem dX2_knowersAfter_117 : decode cX2_knowersAfter 117 = .ok (.iload 6, 2) := by decide +kernel
theorem dX2_knowersAfter_119 : decode cX2_knowersAfter 119 = .ok (.iaload, 1) := by decide +kernel
theorem dX2_knowersAfter_120 : decode cX2_knowersAfter 120 = .ok (.iconst 1, 1) := by decide +kernel
theorem dX2_knowersAfter_121 : decode cX2_knowersAfter 121 = .ok (.if_icmp .ne 7, 3) := by decide +kernel
theorem dX2_knowersAfter_124 : decode cX2_knowersAfter 124 = .ok (.iconst 1, 1) := by decide +kernel
theorem dX2_knowersAfter_125 : decode cX2_knowersAfter 125 = .ok (.goto 4, 3) := by decide +kernel
theorem dX2_knowersAfter_128 : decode cX2_knowersAfter 128 = .ok (.iconst 0, 1) := by decide +kernel
theorem dX2_knowersAfter_129 : decode cX2_knowersAfter 129 = .ok (.istore 7, 2) := by decide +kernel
theorem dX2_knowersAfter_131 : decode cX2_knowersAfter 131 = .ok (.iload 7, 2) := by decide +kernel
theorem dX2_knowersAfter_133 : decode cX2_knowersAfter 133 = .ok (.ifCond .eq 21, 3) := by decide +kernel
theorem dX2_knowersAfter_136 : decode cX2_knowersAfter 136 = .ok (.iload_n 3, 1) := by decide +kernel
theorem dX2_knowersAfter_137 : decode cX2_knowersAfter 137 = .ok (.iload 6, 2) := by decide +kernel
theorem dX2_knowersAfter_139 : decode cX2_knowersAfter 139 = .ok (.invokestatic 44, 3) := by decide +kernel
theorem dX2_knowersAfter_142 : decode cX2_knowersAfter 142 = .ok (.ifCond .eq 12, 3) := by decide +kernel
theorem dX2_knowersAfter_145 : decode cX2_knowersAfter 145 = .ok (.iload_n 3, 1) := by decide +kernel
theorem dX2_knowersAfter_146 : decode cX2_knowersAfter 146 = .ok (.aload_n 0, 1) := by decide +kernel
theorem dX2_knowersAfter_147 : decode cX2_knowersAfter 147 = .ok (.iload 5, 2) := by decide +kernel
theorem dX2_knowersAfter_149 : decode cX2_knowersAfter 149 = .ok (.invokevirtual 64, 3) := by decide +kernel
theorem dX2_knowersAfter_152 : decode cX2_knowersAfter 152 = .ok (.ior, 1) := by decide +kernel
theorem dX2_knowersAfter_153 : decode cX2_knowersAfter 153 = .ok (.istore_n 3, 1) := by decide +kernel
theorem dX2_knowersAfter_154 : decode cX2_knowersAfter 154 = .ok (.iinc 4 1, 3) := by decide +kernel
theorem dX2_knowersAfter_157 : decode cX2_knowersAfter 157 = .ok (.goto (-152), 3) := by decide +kernel
theorem dX2_knowersAfter_160 : decode cX2_knowersAfter 160 = .ok (.iload_n 3, 1) := by decide +kernel
theorem dX2_knowersAfter_161 : decode cX2_knowersAfter 161 = .ok (.ireturn, 1) := by decide +kernel
theorem dX2_comingTo_0 : decode cX2_comingTo 0 = .ok (.aload_n 0, 1) := by decide +kernel
theorem dX2_comingTo_1 : decode cX2_comingTo 1 = .ok (.getfield 22, 3) := by decide +kernel
theorem dX2_comingTo_4 : decode cX2_comingTo 4 = .ok (.getfield 67, 3) := by decide +kernel
theorem dX2_comingTo_7 : decode cX2_comingTo 7 = .ok (.iload_n 1, 1) := by decide +kernel
theorem dX2_comingTo_8 : decode cX2_comingTo 8 = .ok (.iaload, 1) := by decide +kernel
theorem dX2_comingTo_9 : decode cX2_comingTo 9 = .ok (.iconst 2, 1) := by decide +kernel
theorem dX2_comingTo_10 : decode cX2_comingTo 10 = .ok (.if_icmp .ne 7, 3) := by decide +kernel
theorem dX2_comingTo_13 : decode cX2_comingTo 13 = .ok (.iconst 0, 1) := by decide +kernel
theorem dX2_comingTo_14 : decode cX2_comingTo 14 = .ok (.goto 6, 3) := by decide +kernel
theorem dX2_comingTo_17 : decode cX2_comingTo 17 = .ok (.iconst 1, 1) := by decide +kernel
theorem dX2_comingTo_18 : decode cX2_comingTo 18 = .ok (.iload_n 1, 1) := by decide +kernel
theorem dX2_comingTo_19 : decode cX2_comingTo 19 = .ok (.ishl, 1) := by decide +kernel
theorem dX2_comingTo_20 : decode cX2_comingTo 20 = .ok (.ireturn, 1) := by decide +kernel
theorem dX2_hushingHour_0 : decode cX2_hushingHour 0 = .ok (.iconst 0, 1) := by decide +kernel
theorem dX2_hushingHour_1 : decode cX2_hushingHour 1 = .ok (.istore 4, 2) := by decide +kernel
theorem dX2_hushingHour_3 : decode cX2_hushingHour 3 = .ok (.iload 4, 2) := by decide +kernel
theorem dX2_hushingHour_5 : decode cX2_hushingHour 5 = .ok (.bipush 12, 2) := by decide +kernel
theorem dX2_hushingHour_7 : decode cX2_hushingHour 7 = .ok (.if_icmp .ge 34, 3) := by decide +kernel
theorem dX2_hushingHour_10 : decode cX2_hushingHour 10 = .ok (.aload_n 0, 1) := by decide +kernel
theorem dX2_hushingHour_11 : decode cX2_hushingHour 11 = .ok (.invokevirtual 70, 3) := by decide +kernel
theorem dX2_hushingHour_14 : decode cX2_hushingHour 14 = .ok (.aload_n 0, 1) := by decide +kernel
theorem dX2_hushingHour_15 : decode cX2_hushingHour 15 = .ok (.iload_n 1, 1) := by decide +kernel
theorem dX2_hushingHour_16 : decode cX2_hushingHour 16 = .ok (.iload 4, 2) := by decide +kernel
theorem dX2_hushingHour_18 : decode cX2_hushingHour 18 = .ok (.invokevirtual 73, 3) := by decide +kernel
theorem dX2_hushingHour_21 : decode cX2_hushingHour 21 = .ok (.aload_n 0, 1) := by decide +kernel
theorem dX2_hushingHour_22 : decode cX2_hushingHour 22 = .ok (.iload_n 2, 1) := by decide +kernel
theorem dX2_hushingHour_23 : decode cX2_hushingHour 23 = .ok (.iload_n 3, 1) := by decide +kernel
theorem dX2_hushingHour_24 : decode cX2_hushingHour 24 = .ok (.invokevirtual 77, 3) := by decide +kernel
theorem dX2_hushingHour_27 : decode cX2_hushingHour 27 = .ok (.bipush (-4), 2) := by decide +kernel
theorem dX2_hushingHour_29 : decode cX2_hushingHour 29 = .ok (.if_icmp .ne 6, 3) := by decide +kernel
theorem dX2_hushingHour_32 : decode cX2_hushingHour 32 = .ok (.iload 4, 2) := by decide +kernel
theorem dX2_hushingHour_34 : decode cX2_hushingHour 34 = .ok (.ireturn, 1) := by decide +kernel
theorem dX2_hushingHour_35 : decode cX2_hushingHour 35 = .ok (.iinc 4 1, 3) := by decide +kernel
theorem dX2_hushingHour_38 : decode cX2_hushingHour 38 = .ok (.goto (-35), 3) := by decide +kernel
theorem dX2_hushingHour_41 : decode cX2_hushingHour 41 = .ok (.bipush (-4), 2) := by decide +kernel
theorem dX2_hushingHour_43 : decode cX2_hushingHour 43 = .ok (.ireturn, 1) := by decide +kernel
theorem dX2_canBeginWith_0 : decode cX2_canBeginWith 0 = .ok (.aload_n 0, 1) := by decide +kernel
theorem dX2_canBeginWith_1 : decode cX2_canBeginWith 1 = .ok (.iload_n 1, 1) := by decide +kernel
theorem dX2_canBeginWith_2 : decode cX2_canBeginWith 2 = .ok (.bipush 11, 2) := by decide +kernel
theorem dX2_canBeginWith_4 : decode cX2_canBeginWith 4 = .ok (.invokevirtual 80, 3) := by decide +kernel
theorem dX2_canBeginWith_7 : decode cX2_canBeginWith 7 = .ok (.istore_n 2, 1) := by decide +kernel
theorem dX2_canBeginWith_8 : decode cX2_canBeginWith 8 = .ok (.iconst 0, 1) := by decide +kernel
theorem dX2_canBeginWith_9 : decode cX2_canBeginWith 9 = .ok (.istore_n 3, 1) := by decide +kernel
theorem dX2_canBeginWith_10 : decode cX2_canBeginWith 10 = .ok (.iload_n 3, 1) := by decide +kernel
theorem dX2_canBeginWith_11 : decode cX2_canBeginWith 11 = .ok (.aload_n 0, 1) := by decide +kernel
theorem dX2_canBeginWith_12 : decode cX2_canBeginWith 12 = .ok (.getfield 26, 3) := by decide +kernel
theorem dX2_canBeginWith_15 : decode cX2_canBeginWith 15 = .ok (.if_icmp .ge 30, 3) := by decide +kernel
theorem dX2_canBeginWith_18 : decode cX2_canBeginWith 18 = .ok (.iload_n 2, 1) := by decide +kernel
theorem dX2_canBeginWith_19 : decode cX2_canBeginWith 19 = .ok (.aload_n 0, 1) := by decide +kernel
theorem dX2_canBeginWith_20 : decode cX2_canBeginWith 20 = .ok (.getfield 11, 3) := by decide +kernel
theorem dX2_canBeginWith_23 : decode cX2_canBeginWith 23 = .ok (.iload_n 3, 1) := by decide +kernel
theorem dX2_canBeginWith_24 : decode cX2_canBeginWith 24 = .ok (.iaload, 1) := by decide +kernel
theorem dX2_canBeginWith_25 : decode cX2_canBeginWith 25 = .ok (.invokestatic 44, 3) := by decide +kernel
theorem dX2_canBeginWith_28 : decode cX2_canBeginWith 28 = .ok (.aload_n 0, 1) := by decide +kernel
theorem dX2_canBeginWith_29 : decode cX2_canBeginWith 29 = .ok (.getfield 15, 3) := by decide +kernel
theorem dX2_canBeginWith_32 : decode cX2_canBeginWith 32 = .ok (.iload_n 3, 1) := by decide +kernel
theorem dX2_canBeginWith_33 : decode cX2_canBeginWith 33 = .ok (.baload, 1) := by decide +kernel
theorem dX2_canBeginWith_34 : decode cX2_canBeginWith 34 = .ok (.if_icmp .eq 5, 3) := by decide +kernel
theorem dX2_canBeginWith_37 : decode cX2_canBeginWith 37 = .ok (.iconst 0, 1) := by decide +kernel
theorem dX2_canBeginWith_38 : decode cX2_canBeginWith 38 = .ok (.ireturn, 1) := by decide +kernel
theorem dX2_canBeginWith_39 : decode cX2_canBeginWith 39 = .ok (.iinc 3 1, 3) := by decide +kernel
theorem dX2_canBeginWith_42 : decode cX2_canBeginWith 42 = .ok (.goto (-32), 3) := by decide +kernel
theorem dX2_canBeginWith_45 : decode cX2_canBeginWith 45 = .ok (.iconst 1, 1) := by decide +kernel
theorem dX2_canBeginWith_46 : decode cX2_canBeginWith 46 = .ok (.ireturn, 1) := by decide +kernel
theorem dX3_init_0 : decode cX3_init 0 = .ok (.aload_n 0, 1) := by decide +kernel
theorem dX3_init_1 : decode cX3_init 1 = .ok (.invokespecial 3, 3) := by decide +kernel
theorem dX3_init_4 : decode cX3_init 4 = .ok (.aload_n 0, 1) := by decide +kernel
theorem dX3_init_5 : decode cX3_init 5 = .ok (.bipush 40, 2) := by decide +kernel
theorem dX3_init_7 : decode cX3_init 7 = .ok (.newarray .int, 2) := by decide +kernel
theorem dX3_init_9 : decode cX3_init 9 = .ok (.putfield 11, 3) := by decide +kernel
theorem dX3_init_12 : decode cX3_init 12 = .ok (.aload_n 0, 1) := by decide +kernel
theorem dX3_init_13 : decode cX3_init 13 = .ok (.bipush (-4), 2) := by decide +kernel
theorem dX3_init_15 : decode cX3_init 15 = .ok (.putfield 15, 3) := by decide +kernel
theorem dX3_init_18 : decode cX3_init 18 = .ok (.return_, 1) := by decide +kernel
theorem dX3_isNothing_0 : decode cX3_isNothing 0 = .ok (.aload_n 0, 1) := by decide +kernel
theorem dX3_isNothing_1 : decode cX3_isNothing 1 = .ok (.getfield 15, 3) := by decide +kernel
theorem dX3_isNothing_4 : decode cX3_isNothing 4 = .ok (.bipush (-4), 2) := by decide +kernel
theorem dX3_isNothing_6 : decode cX3_isNothing 6 = .ok (.if_icmp .ne 7, 3) := by decide +kernel
theorem dX3_isNothing_9 : decode cX3_isNothing 9 = .ok (.iconst 1, 1) := by decide +kernel
theorem dX3_isNothing_10 : decode cX3_isNothing 10 = .ok (.goto 4, 3) := by decide +kernel
theorem dX3_isNothing_13 : decode cX3_isNothing 13 = .ok (.iconst 0, 1) := by decide +kernel
theorem dX3_isNothing_14 : decode cX3_isNothing 14 = .ok (.ireturn, 1) := by decide +kernel
theorem dX3_renew_0 : decode cX3_renew 0 = .ok (.aload_n 0, 1) := by decide +kernel
theorem dX3_renew_1 : decode cX3_renew 1 = .ok (.iload_n 1, 1) := by decide +kernel
theorem dX3_renew_2 : decode cX3_renew 2 = .ok (.putfield 15, 3) := by decide +kernel
theorem dX3_renew_5 : decode cX3_renew 5 = .ok (.aload_n 0, 1) := by decide +kernel
theorem dX3_renew_6 : decode cX3_renew 6 = .ok (.iload_n 2, 1) := by decide +kernel
theorem dX3_renew_7 : decode cX3_renew 7 = .ok (.putfield 19, 3) := by decide +kernel
theorem dX3_renew_10 : decode cX3_renew 10 = .ok (.iconst 0, 1) := by decide +kernel
theorem dX3_renew_11 : decode cX3_renew 11 = .ok (.istore_n 3, 1) := by decide +kernel
theorem dX3_renew_12 : decode cX3_renew 12 = .ok (.iload_n 3, 1) := by decide +kernel
theorem dX3_renew_13 : decode cX3_renew 13 = .ok (.bipush 40, 2) := by decide +kernel
theorem dX3_renew_15 : decode cX3_renew 15 = .ok (.if_icmp .ge 16, 3) := by decide +kernel
theorem dX3_renew_18 : decode cX3_renew 18 = .ok (.aload_n 0, 1) := by decide +kernel
theorem dX3_renew_19 : decode cX3_renew 19 = .ok (.getfield 11, 3) := by decide +kernel
theorem dX3_renew_22 : decode cX3_renew 22 = .ok (.iload_n 3, 1) := by decide +kernel
theorem dX3_renew_23 : decode cX3_renew 23 = .ok (.iconst 0, 1) := by decide +kernel
theorem dX3_renew_24 : decode cX3_renew 24 = .ok (.iastore, 1) := by decide +kernel
theorem dX3_renew_25 : decode cX3_renew 25 = .ok (.iinc 3 1, 3) := by decide +kernel
theorem dX3_renew_28 : decode cX3_renew 28 = .ok (.goto (-16), 3) := by decide +kernel
theorem dX3_renew_31 : decode cX3_renew 31 = .ok (.return_, 1) := by decide +kernel
theorem dX3_put_0 : decode cX3_put 0 = .ok (.aload_n 0, 1) := by decide +kernel
theorem dX3_put_1 : decode cX3_put 1 = .ok (.getfield 15, 3) := by decide +kernel
theorem dX3_put_4 : decode cX3_put 4 = .ok (.lookupswitch 50 #[(0, 28), (1, 39)], 28) := by decide +kernel
theorem dX3_put_32 : decode cX3_put 32 = .ok (.aload_n 0, 1) := by decide +kernel
theorem dX3_put_33 : decode cX3_put 33 = .ok (.getfield 11, 3) := by decide +kernel
theorem dX3_put_36 : decode cX3_put 36 = .ok (.iload_n 1, 1) := by decide +kernel
theorem dX3_put_37 : decode cX3_put 37 = .ok (.iload_n 2, 1) := by decide +kernel
theorem dX3_put_38 : decode cX3_put 38 = .ok (.i2b, 1) := by decide +kernel
theorem dX3_put_39 : decode cX3_put 39 = .ok (.iastore, 1) := by decide +kernel
theorem dX3_put_40 : decode cX3_put 40 = .ok (.goto 21, 3) := by decide +kernel
theorem dX3_put_43 : decode cX3_put 43 = .ok (.aload_n 0, 1) := by decide +kernel
theorem dX3_put_44 : decode cX3_put 44 = .ok (.getfield 11, 3) := by decide +kernel
theorem dX3_put_47 : decode cX3_put 47 = .ok (.iload_n 1, 1) := by decide +kernel
theorem dX3_put_48 : decode cX3_put 48 = .ok (.iload_n 2, 1) := by decide +kernel
theorem dX3_put_49 : decode cX3_put 49 = .ok (.i2s, 1) := by decide +kernel
theorem dX3_put_50 : decode cX3_put 50 = .ok (.iastore, 1) := by decide +kernel
theorem dX3_put_51 : decode cX3_put 51 = .ok (.goto 10, 3) := by decide +kernel
theorem dX3_put_54 : decode cX3_put 54 = .ok (.aload_n 0, 1) := by decide +kernel
theorem dX3_put_55 : decode cX3_put 55 = .ok (.getfield 11, 3) := by decide +kernel
theorem dX3_put_58 : decode cX3_put 58 = .ok (.iload_n 1, 1) := by decide +kernel
theorem dX3_put_59 : decode cX3_put 59 = .ok (.iload_n 2, 1) := by decide +kernel
theorem dX3_put_60 : decode cX3_put 60 = .ok (.iastore, 1) := by decide +kernel
theorem dX3_put_61 : decode cX3_put 61 = .ok (.return_, 1) := by decide +kernel
theorem dX3_faultInThree_0 : decode cX3_faultInThree 0 = .ok (.aload_n 0, 1) := by decide +kernel
theorem dX3_faultInThree_1 : decode cX3_faultInThree 1 = .ok (.invokevirtual 22, 3) := by decide +kernel
theorem dX3_faultInThree_4 : decode cX3_faultInThree 4 = .ok (.ifCond .eq 5, 3) := by decide +kernel
theorem dX3_faultInThree_7 : decode cX3_faultInThree 7 = .ok (.iconst 1, 1) := by decide +kernel
theorem dX3_faultInThree_8 : decode cX3_faultInThree 8 = .ok (.ireturn, 1) := by decide +kernel
theorem dX3_faultInThree_9 : decode cX3_faultInThree 9 = .ok (.aload_n 0, 1) := by decide +kernel
theorem dX3_faultInThree_10 : decode cX3_faultInThree 10 = .ok (.getfield 15, 3) := by decide +kernel
theorem dX3_faultInThree_13 : decode cX3_faultInThree 13 = .ok (.iload_n 1, 1) := by decide +kernel
theorem dX3_faultInThree_14 : decode cX3_faultInThree 14 = .ok (.if_icmp .eq 5, 3) := by decide +kernel
theorem dX3_faultInThree_17 : decode cX3_faultInThree 17 = .ok (.iconst 3, 1) := by decide +kernel
theorem dX3_faultInThree_18 : decode cX3_faultInThree 18 = .ok (.ireturn, 1) := by decide +kernel
theorem dX3_faultInThree_19 : decode cX3_faultInThree 19 = .ok (.iload_n 2, 1) := by decide +kernel
theorem dX3_faultInThree_20 : decode cX3_faultInThree 20 = .ok (.ifCond .lt 17, 3) := by decide +kernel
theorem dX3_faultInThree_23 : decode cX3_faultInThree 23 = .ok (.iload_n 2, 1) := by decide +kernel
theorem dX3_faultInThree_24 : decode cX3_faultInThree 24 = .ok (.aload_n 0, 1) := by decide +kernel
theorem dX3_faultInThree_25 : decode cX3_faultInThree 25 = .ok (.getfield 19, 3) := by decide +kernel
theorem dX3_faultInThree_28 : decode cX3_faultInThree 28 = .ok (.iconst 3, 1) := by decide +kernel
theorem dX3_faultInThree_29 : decode cX3_faultInThree 29 = .ok (.isub, 1) := by decide +kernel
theorem dX3_faultInThree_30 : decode cX3_faultInThree 30 = .ok (.if_icmp .gt 7, 3) := by decide +kernel
theorem dX3_faultInThree_33 : decode cX3_faultInThree 33 = .ok (.iconst 0, 1) := by decide +kernel
theorem dX3_faultInThree_34 : decode cX3_faultInThree 34 = .ok (.goto 4, 3) := by decide +kernel
theorem dX3_faultInThree_37 : decode cX3_faultInThree 37 = .ok (.iconst 2, 1) := by decide +kernel
theorem dX3_faultInThree_38 : decode cX3_faultInThree 38 = .ok (.ireturn, 1) := by decide +kernel
theorem dX4_init_0 : decode cX4_init 0 = .ok (.aload_n 0, 1) := by decide +kernel
theorem dX4_init_1 : decode cX4_init 1 = .ok (.invokespecial 3, 3) := by decide +kernel
theorem dX4_init_4 : decode cX4_init 4 = .ok (.aload_n 0, 1) := by decide +kernel
theorem dX4_init_5 : decode cX4_init 5 = .ok (.sipush 320, 3) := by decide +kernel
theorem dX4_init_8 : decode cX4_init 8 = .ok (.newarray .byte, 2) := by decide +kernel
theorem dX4_init_10 : decode cX4_init 10 = .ok (.putfield 11, 3) := by decide +kernel
theorem dX4_init_13 : decode cX4_init 13 = .ok (.return_, 1) := by decide +kernel
theorem dX4_append_0 : decode cX4_append 0 = .ok (.aload_n 0, 1) := by decide +kernel
theorem dX4_append_1 : decode cX4_append 1 = .ok (.getfield 15, 3) := by decide +kernel
theorem dX4_append_4 : decode cX4_append 4 = .ok (.bipush 8, 2) := by decide +kernel
theorem dX4_append_6 : decode cX4_append 6 = .ok (.iadd, 1) := by decide +kernel
theorem dX4_append_7 : decode cX4_append 7 = .ok (.sipush 320, 3) := by decide +kernel
theorem dX4_append_10 : decode cX4_append 10 = .ok (.if_icmp .le 6, 3) := by decide +kernel
theorem dX4_append_13 : decode cX4_append 13 = .ok (.bipush (-3), 2) := by decide +kernel
theorem dX4_append_15 : decode cX4_append 15 = .ok (.ireturn, 1) := by decide +kernel
theorem dX4_append_16 : decode cX4_append 16 = .ok (.iconst 0, 1) := by decide +kernel
theorem dX4_append_17 : decode cX4_append 17 = .ok (.istore_n 3, 1) := by decide +kernel
theorem dX4_append_18 : decode cX4_append 18 = .ok (.iload_n 3, 1) := by decide +kernel
theorem dX4_append_19 : decode cX4_append 19 = .ok (.bipush 8, 2) := by decide +kernel
theorem dX4_append_21 : decode cX4_append 21 = .ok (.if_icmp .ge 31, 3) := by decide +kernel
theorem dX4_append_24 : decode cX4_append 24 = .ok (.aload_n 0, 1) := by decide +kernel
theorem dX4_append_25 : decode cX4_append 25 = .ok (.getfield 11, 3) := by decide +kernel
theorem dX4_append_28 : decode cX4_append 28 = .ok (.aload_n 0, 1) := by decide +kernel
theorem dX4_append_29 : decode cX4_append 29 = .ok (.getfield 15, 3) := by decide +kernel
theorem dX4_append_32 : decode cX4_append 32 = .ok (.iload_n 3, 1) := by decide +kernel
theorem dX4_append_33 : decode cX4_append 33 = .ok (.iadd, 1) := by decide +kernel
theorem dX4_append_34 : decode cX4_append 34 = .ok (.lload_n 1, 1) := by decide +kernel
theorem dX4_append_35 : decode cX4_append 35 = .ok (.bipush 56, 2) := by decide +kernel
theorem dX4_append_37 : decode cX4_append 37 = .ok (.bipush 8, 2) := by decide +kernel
theorem dX4_append_39 : decode cX4_append 39 = .ok (.iload_n 3, 1) := by decide +kernel
theorem dX4_append_40 : decode cX4_append 40 = .ok (.imul, 1) := by decide +kernel
theorem dX4_append_41 : decode cX4_append 41 = .ok (.isub, 1) := by decide +kernel
theorem dX4_append_42 : decode cX4_append 42 = .ok (.lshr, 1) := by decide +kernel
theorem dX4_append_43 : decode cX4_append 43 = .ok (.l2i, 1) := by decide +kernel
theorem dX4_append_44 : decode cX4_append 44 = .ok (.i2b, 1) := by decide +kernel
theorem dX4_append_45 : decode cX4_append 45 = .ok (.bastore, 1) := by decide +kernel
theorem dX4_append_46 : decode cX4_append 46 = .ok (.iinc 3 1, 3) := by decide +kernel
theorem dX4_append_49 : decode cX4_append 49 = .ok (.goto (-31), 3) := by decide +kernel
theorem dX4_append_52 : decode cX4_append 52 = .ok (.aload_n 0, 1) := by decide +kernel
theorem dX4_append_53 : decode cX4_append 53 = .ok (.dup, 1) := by decide +kernel
theorem dX4_append_54 : decode cX4_append 54 = .ok (.getfield 15, 3) := by decide +kernel
theorem dX4_append_57 : decode cX4_append 57 = .ok (.bipush 8, 2) := by decide +kernel
theorem dX4_append_59 : decode cX4_append 59 = .ok (.iadd, 1) := by decide +kernel
theorem dX4_append_60 : decode cX4_append 60 = .ok (.putfield 15, 3) := by decide +kernel
theorem dX4_append_63 : decode cX4_append 63 = .ok (.aload_n 0, 1) := by decide +kernel
theorem dX4_append_64 : decode cX4_append 64 = .ok (.getfield 15, 3) := by decide +kernel
theorem dX4_append_67 : decode cX4_append 67 = .ok (.ireturn, 1) := by decide +kernel
theorem dX4_cutTo_0 : decode cX4_cutTo 0 = .ok (.iload_n 1, 1) := by decide +kernel
theorem dX4_cutTo_1 : decode cX4_cutTo 1 = .ok (.ifCond .lt 11, 3) := by decide +kernel
theorem dX4_cutTo_4 : decode cX4_cutTo 4 = .ok (.iload_n 1, 1) := by decide +kernel
theorem dX4_cutTo_5 : decode cX4_cutTo 5 = .ok (.aload_n 0, 1) := by decide +kernel
theorem dX4_cutTo_6 : decode cX4_cutTo 6 = .ok (.getfield 15, 3) := by decide +kernel
theorem dX4_cutTo_9 : decode cX4_cutTo 9 = .ok (.if_icmp .le 5, 3) := by decide +kernel
theorem dX4_cutTo_12 : decode cX4_cutTo 12 = .ok (.iconst (-1), 1) := by decide +kernel
theorem dX4_cutTo_13 : decode cX4_cutTo 13 = .ok (.ireturn, 1) := by decide +kernel
theorem dX4_cutTo_14 : decode cX4_cutTo 14 = .ok (.aload_n 0, 1) := by decide +kernel
theorem dX4_cutTo_15 : decode cX4_cutTo 15 = .ok (.getfield 15, 3) := by decide +kernel
theorem dX4_cutTo_18 : decode cX4_cutTo 18 = .ok (.istore_n 2, 1) := by decide +kernel
theorem dX4_cutTo_19 : decode cX4_cutTo 19 = .ok (.aload_n 0, 1) := by decide +kernel
theorem dX4_cutTo_20 : decode cX4_cutTo 20 = .ok (.iload_n 1, 1) := by decide +kernel
theorem dX4_cutTo_21 : decode cX4_cutTo 21 = .ok (.putfield 15, 3) := by decide +kernel
theorem dX4_cutTo_24 : decode cX4_cutTo 24 = .ok (.iload_n 2, 1) := by decide +kernel
theorem dX4_cutTo_25 : decode cX4_cutTo 25 = .ok (.ireturn, 1) := by decide +kernel
theorem dX5_init_0 : decode cX5_init 0 = .ok (.aload_n 0, 1) := by decide +kernel
theorem dX5_init_1 : decode cX5_init 1 = .ok (.invokespecial 3, 3) := by decide +kernel
theorem dX5_init_4 : decode cX5_init 4 = .ok (.aload_n 0, 1) := by decide +kernel
theorem dX5_init_5 : decode cX5_init 5 = .ok (.new 9, 3) := by decide +kernel
theorem dX5_init_8 : decode cX5_init 8 = .ok (.dup, 1) := by decide +kernel
theorem dX5_init_9 : decode cX5_init 9 = .ok (.invokespecial 11, 3) := by decide +kernel
theorem dX5_init_12 : decode cX5_init 12 = .ok (.putfield 12, 3) := by decide +kernel
theorem dX5_init_15 : decode cX5_init 15 = .ok (.aload_n 0, 1) := by decide +kernel
theorem dX5_init_16 : decode cX5_init 16 = .ok (.aload_n 1, 1) := by decide +kernel
theorem dX5_init_17 : decode cX5_init 17 = .ok (.putfield 18, 3) := by decide +kernel
theorem dX5_init_20 : decode cX5_init 20 = .ok (.return_, 1) := by decide +kernel
theorem dX5_readTape_0 : decode cX5_readTape 0 = .ok (.aload_n 0, 1) := by decide +kernel
theorem dX5_readTape_1 : decode cX5_readTape 1 = .ok (.getfield 12, 3) := by decide +kernel
theorem dX5_readTape_4 : decode cX5_readTape 4 = .ok (.invokevirtual 22, 3) := by decide +kernel
theorem dX5_readTape_7 : decode cX5_readTape 7 = .ok (.aload_n 0, 1) := by decide +kernel
theorem dX5_readTape_8 : decode cX5_readTape 8 = .ok (.iconst 0, 1) := by decide +kernel
theorem dX5_readTape_9 : decode cX5_readTape 9 = .ok (.putfield 25, 3) := by decide +kernel
theorem dX5_readTape_12 : decode cX5_readTape 12 = .ok (.aload_n 0, 1) := by decide +kernel
theorem dX5_readTape_13 : decode cX5_readTape 13 = .ok (.iconst 0, 1) := by decide +kernel
theorem dX5_readTape_14 : decode cX5_readTape 14 = .ok (.putfield 29, 3) := by decide +kernel
theorem dX5_readTape_17 : decode cX5_readTape 17 = .ok (.aload_n 0, 1) := by decide +kernel
theorem dX5_readTape_18 : decode cX5_readTape 18 = .ok (.iconst 0, 1) := by decide +kernel
theorem dX5_readTape_19 : decode cX5_readTape 19 = .ok (.putfield 32, 3) := by decide +kernel
theorem dX5_readTape_22 : decode cX5_readTape 22 = .ok (.aload_n 0, 1) := by decide +kernel
theorem dX5_readTape_23 : decode cX5_readTape 23 = .ok (.iconst 0, 1) := by decide +kernel
theorem dX5_readTape_24 : decode cX5_readTape 24 = .ok (.putfield 35, 3) := by decide +kernel
theorem dX5_readTape_27 : decode cX5_readTape 27 = .ok (.aload_n 0, 1) := by decide +kernel
theorem dX5_readTape_28 : decode cX5_readTape 28 = .ok (.iconst 0, 1) := by decide +kernel
theorem dX5_readTape_29 : decode cX5_readTape 29 = .ok (.putfield 39, 3) := by decide +kernel
theorem dX5_readTape_32 : decode cX5_readTape 32 = .ok (.aload_n 0, 1) := by decide +kernel
theorem dX5_readTape_33 : decode cX5_readTape 33 = .ok (.iconst 0, 1) := by decide +kernel
theorem dX5_readTape_34 : decode cX5_readTape 34 = .ok (.putfield 42, 3) := by decide +kernel
theorem dX5_readTape_37 : decode cX5_readTape 37 = .ok (.iconst 0, 1) := by decide +kernel
theorem dX5_readTape_38 : decode cX5_readTape 38 = .ok (.istore_n 1, 1) := by decide +kernel
theorem dX5_readTape_39 : decode cX5_readTape 39 = .ok (.iload_n 1, 1) := by decide +kernel
theorem dX5_readTape_40 : decode cX5_readTape 40 = .ok (.aload_n 0, 1) := by decide +kernel
theorem dX5_readTape_41 : decode cX5_readTape 41 = .ok (.getfield 18, 3) := by decide +kernel
theorem dX5_readTape_44 : decode cX5_readTape 44 = .ok (.getfield 45, 3) := by decide +kernel
theorem dX5_readTape_47 : decode cX5_readTape 47 = .ok (.if_icmp .gt 49, 3) := by decide +kernel
theorem dX5_readTape_50 : decode cX5_readTape 50 = .ok (.aload_n 0, 1) := by decide +kernel
theorem dX5_readTape_51 : decode cX5_readTape 51 = .ok (.invokevirtual 50, 3) := by decide +kernel
theorem dX5_readTape_54 : decode cX5_readTape 54 = .ok (.ifCond .ne 5, 3) := by decide +kernel
theorem dX5_readTape_57 : decode cX5_readTape 57 = .ok (.iconst 0, 1) := by decide +kernel
theorem dX5_readTape_58 : decode cX5_readTape 58 = .ok (.ireturn, 1) := by decide +kernel
theorem dX5_readTape_59 : decode cX5_readTape 59 = .ok (.aload_n 0, 1) := by decide +kernel
theorem dX5_readTape_60 : decode cX5_readTape 60 = .ok (.getfield 54, 3) := by decide +kernel
theorem dX5_readTape_63 : decode cX5_readTape 63 = .ok (.ifCond .ne 8, 3) := by decide +kernel
theorem dX5_readTape_66 : decode cX5_readTape 66 = .ok (.aload_n 0, 1) := by decide +kernel
theorem dX5_readTape_67 : decode cX5_readTape 67 = .ok (.invokevirtual 57, 3) := by decide +kernel
theorem dX5_readTape_70 : decode cX5_readTape 70 = .ok (.ireturn, 1) := by decide +kernel
theorem dX5_readTape_71 : decode cX5_readTape 71 = .ok (.aload_n 0, 1) := by decide +kernel
theorem dX5_readTape_72 : decode cX5_readTape 72 = .ok (.invokevirtual 60, 3) := by decide +kernel
theorem dX5_readTape_75 : decode cX5_readTape 75 = .ok (.ifCond .ne 5, 3) := by decide +kernel
theorem dX5_readTape_78 : decode cX5_readTape 78 = .ok (.iconst 0, 1) := by decide +kernel
theorem dX5_readTape_79 : decode cX5_readTape 79 = .ok (.ireturn, 1) := by decide +kernel
theorem dX5_readTape_80 : decode cX5_readTape 80 = .ok (.aload_n 0, 1) := by decide +kernel
theorem dX5_readTape_81 : decode cX5_readTape 81 = .ok (.dup, 1) := by decide +kernel
theorem dX5_readTape_82 : decode cX5_readTape 82 = .ok (.getfield 25, 3) := by decide +kernel
theorem dX5_readTape_85 : decode cX5_readTape 85 = .ok (.iconst 1, 1) := by decide +kernel
theorem dX5_readTape_86 : decode cX5_readTape 86 = .ok (.iadd, 1) := by decide +kernel
theorem dX5_readTape_87 : decode cX5_readTape 87 = .ok (.putfield 25, 3) := by decide +kernel
theorem dX5_readTape_90 : decode cX5_readTape 90 = .ok (.iinc 1 1, 3) := by decide +kernel
theorem dX5_readTape_93 : decode cX5_readTape 93 = .ok (.goto (-54), 3) := by decide +kernel
theorem dX5_readTape_96 : decode cX5_readTape 96 = .ok (.iconst 0, 1) := by decide +kernel
theorem dX5_readTape_97 : decode cX5_readTape 97 = .ok (.ireturn, 1) := by decide +kernel
theorem dX5_fail_0 : decode cX5_fail 0 = .ok (.aload_n 0, 1) := by decide +kernel
theorem dX5_fail_1 : decode cX5_fail 1 = .ok (.iload_n 1, 1) := by decide +kernel
theorem dX5_fail_2 : decode cX5_fail 2 = .ok (.putfield 29, 3) := by decide +kernel
theorem dX5_fail_5 : decode cX5_fail 5 = .ok (.aload_n 0, 1) := by decide +kernel
theorem dX5_fail_6 : decode cX5_fail 6 = .ok (.iload_n 2, 1) := by decide +kernel
theorem dX5_fail_7 : decode cX5_fail 7 = .ok (.putfield 32, 3) := by decide +kernel
theorem dX5_fail_10 : decode cX5_fail 10 = .ok (.iconst 0, 1) := by decide +kernel
theorem dX5_fail_11 : decode cX5_fail 11 = .ok (.ireturn, 1) := by decide +kernel
theorem dX5_tokenBegunBy_0 : decode cX5_tokenBegunBy 0 = .ok (.iload_n 0, 1) := by decide +kernel
theorem dX5_tokenBegunBy_1 : decode cX5_tokenBegunBy 1 = .ok (.bipush 97, 2) := by decide +kernel
theorem dX5_tokenBegunBy_3 : decode cX5_tokenBegunBy 3 = .ok (.if_icmp .lt 11, 3) := by decide +kernel
theorem dX5_tokenBegunBy_6 : decode cX5_tokenBegunBy 6 = .ok (.iload_n 0, 1) := by decide +kernel
theorem dX5_tokenBegunBy_7 : decode cX5_tokenBegunBy 7 = .ok (.bipush 122, 2) := by decide +kernel
theorem dX5_tokenBegunBy_9 : decode cX5_tokenBegunBy 9 = .ok (.if_icmp .gt 5, 3) := by decide +kernel
theorem dX5_tokenBegunBy_12 : decode cX5_tokenBegunBy 12 = .ok (.iconst 1, 1) := by decide +kernel
theorem dX5_tokenBegunBy_13 : decode cX5_tokenBegunBy 13 = .ok (.ireturn, 1) := by decide +kernel
theorem dX5_tokenBegunBy_14 : decode cX5_tokenBegunBy 14 = .ok (.iload_n 0, 1) := by decide +kernel
theorem dX5_tokenBegunBy_15 : decode cX5_tokenBegunBy 15 = .ok (.bipush 48, 2) := by decide +kernel
theorem dX5_tokenBegunBy_17 : decode cX5_tokenBegunBy 17 = .ok (.if_icmp .lt 11, 3) := by decide +kernel
theorem dX5_tokenBegunBy_20 : decode cX5_tokenBegunBy 20 = .ok (.iload_n 0, 1) := by decide +kernel
theorem dX5_tokenBegunBy_21 : decode cX5_tokenBegunBy 21 = .ok (.bipush 57, 2) := by decide +kernel
theorem dX5_tokenBegunBy_23 : decode cX5_tokenBegunBy 23 = .ok (.if_icmp .gt 5, 3) := by decide +kernel
theorem dX5_tokenBegunBy_26 : decode cX5_tokenBegunBy 26 = .ok (.iconst 2, 1) := by decide +kernel
theorem dX5_tokenBegunBy_27 : decode cX5_tokenBegunBy 27 = .ok (.ireturn, 1) := by decide +kernel
theorem dX5_tokenBegunBy_28 : decode cX5_tokenBegunBy 28 = .ok (.iload_n 0, 1) := by decide +kernel
theorem dX5_tokenBegunBy_29 : decode cX5_tokenBegunBy 29 = .ok (.bipush 59, 2) := by decide +kernel
theorem dX5_tokenBegunBy_31 : decode cX5_tokenBegunBy 31 = .ok (.if_icmp .ne 7, 3) := by decide +kernel
theorem dX5_tokenBegunBy_34 : decode cX5_tokenBegunBy 34 = .ok (.iconst 3, 1) := by decide +kernel
theorem dX5_tokenBegunBy_35 : decode cX5_tokenBegunBy 35 = .ok (.goto 4, 3) := by decide +kernel
theorem dX5_tokenBegunBy_38 : decode cX5_tokenBegunBy 38 = .ok (.iconst 4, 1) := by decide +kernel
theorem dX5_tokenBegunBy_39 : decode cX5_tokenBegunBy 39 = .ok (.ireturn, 1) := by decide +kernel
theorem dX5_readToken_0 : decode cX5_readToken 0 = .ok (.aload_n 0, 1) := by decide +kernel
theorem dX5_readToken_1 : decode cX5_readToken 1 = .ok (.aload_n 0, 1) := by decide +kernel
theorem dX5_readToken_2 : decode cX5_readToken 2 = .ok (.getfield 42, 3) := by decide +kernel
theorem dX5_readToken_5 : decode cX5_readToken 5 = .ok (.putfield 63, 3) := by decide +kernel
theorem dX5_readToken_8 : decode cX5_readToken 8 = .ok (.aload_n 0, 1) := by decide +kernel
theorem dX5_readToken_9 : decode cX5_readToken 9 = .ok (.getfield 63, 3) := by decide +kernel
theorem dX5_readToken_12 : decode cX5_readToken 12 = .ok (.aload_n 0, 1) := by decide +kernel
theorem dX5_readToken_13 : decode cX5_readToken 13 = .ok (.getfield 18, 3) := by decide +kernel
theorem dX5_readToken_16 : decode cX5_readToken 16 = .ok (.getfield 45, 3) := by decide +kernel
theorem dX5_readToken_19 : decode cX5_readToken 19 = .ok (.if_icmp .ge 33, 3) := by decide +kernel
theorem dX5_readToken_22 : decode cX5_readToken 22 = .ok (.aload_n 0, 1) := by decide +kernel
theorem dX5_readToken_23 : decode cX5_readToken 23 = .ok (.getfield 18, 3) := by decide +kernel
theorem dX5_readToken_26 : decode cX5_readToken 26 = .ok (.getfield 66, 3) := by decide +kernel
theorem dX5_readToken_29 : decode cX5_readToken 29 = .ok (.aload_n 0, 1) := by decide +kernel
theorem dX5_readToken_30 : decode cX5_readToken 30 = .ok (.getfield 63, 3) := by decide +kernel
theorem dX5_readToken_33 : decode cX5_readToken 33 = .ok (.baload, 1) := by decide +kernel
theorem dX5_readToken_34 : decode cX5_readToken 34 = .ok (.bipush 32, 2) := by decide +kernel
theorem dX5_readToken_36 : decode cX5_readToken 36 = .ok (.if_icmp .ne 16, 3) := by decide +kernel
theorem dX5_readToken_39 : decode cX5_readToken 39 = .ok (.aload_n 0, 1) := by decide +kernel
theorem dX5_readToken_40 : decode cX5_readToken 40 = .ok (.dup, 1) := by decide +kernel
theorem dX5_readToken_41 : decode cX5_readToken 41 = .ok (.getfield 63, 3) := by decide +kernel
theorem dX5_readToken_44 : decode cX5_readToken 44 = .ok (.iconst 1, 1) := by decide +kernel
theorem dX5_readToken_45 : decode cX5_readToken 45 = .ok (.iadd, 1) := by decide +kernel
theorem dX5_readToken_46 : decode cX5_readToken 46 = .ok (.putfield 63, 3) := by decide +kernel
theorem dX5_readToken_49 : decode cX5_readToken 49 = .ok (.goto (-41), 3) := by decide +kernel
theorem dX5_readToken_52 : decode cX5_readToken 52 = .ok (.aload_n 0, 1) := by decide +kernel
theorem dX5_readToken_53 : decode cX5_readToken 53 = .ok (.aload_n 0, 1) := by decide +kernel
theorem dX5_readToken_54 : decode cX5_readToken 54 = .ok (.getfield 63, 3) := by decide +kernel
theorem dX5_readToken_57 : decode cX5_readToken 57 = .ok (.putfield 42, 3) := by decide +kernel
theorem dX5_readToken_60 : decode cX5_readToken 60 = .ok (.aload_n 0, 1) := by decide +kernel
theorem dX5_readToken_61 : decode cX5_readToken 61 = .ok (.getfield 63, 3) := by decide +kernel
theorem dX5_readToken_64 : decode cX5_readToken 64 = .ok (.aload_n 0, 1) := by decide +kernel
theorem dX5_readToken_65 : decode cX5_readToken 65 = .ok (.getfield 18, 3) := by decide +kernel
theorem dX5_readToken_68 : decode cX5_readToken 68 = .ok (.getfield 45, 3) := by decide +kernel
theorem dX5_readToken_71 : decode cX5_readToken 71 = .ok (.if_icmp .lt 10, 3) := by decide +kernel
theorem dX5_readToken_74 : decode cX5_readToken 74 = .ok (.aload_n 0, 1) := by decide +kernel
theorem dX5_readToken_75 : decode cX5_readToken 75 = .ok (.iconst 0, 1) := by decide +kernel
theorem dX5_readToken_76 : decode cX5_readToken 76 = .ok (.putfield 54, 3) := by decide +kernel
theorem dX5_readToken_79 : decode cX5_readToken 79 = .ok (.iconst 1, 1) := by decide +kernel
theorem dX5_readToken_80 : decode cX5_readToken 80 = .ok (.ireturn, 1) := by decide +kernel
theorem dX5_readToken_81 : decode cX5_readToken 81 = .ok (.aload_n 0, 1) := by decide +kernel
theorem dX5_readToken_82 : decode cX5_readToken 82 = .ok (.aload_n 0, 1) := by decide +kernel
theorem dX5_readToken_83 : decode cX5_readToken 83 = .ok (.getfield 18, 3) := by decide +kernel
theorem dX5_readToken_86 : decode cX5_readToken 86 = .ok (.getfield 66, 3) := by decide +kernel
theorem dX5_readToken_89 : decode cX5_readToken 89 = .ok (.aload_n 0, 1) := by decide +kernel
theorem dX5_readToken_90 : decode cX5_readToken 90 = .ok (.getfield 63, 3) := by decide +kernel
theorem dX5_readToken_93 : decode cX5_readToken 93 = .ok (.baload, 1) := by decide +kernel
theorem dX5_readToken_94 : decode cX5_readToken 94 = .ok (.invokestatic 70, 3) := by decide +kernel
theorem dX5_readToken_97 : decode cX5_readToken 97 = .ok (.putfield 54, 3) := by decide +kernel
theorem dX5_readToken_100 : decode cX5_readToken 100 = .ok (.aload_n 0, 1) := by decide +kernel
theorem dX5_readToken_101 : decode cX5_readToken 101 = .ok (.dup, 1) := by decide +kernel
theorem dX5_readToken_102 : decode cX5_readToken 102 = .ok (.getfield 42, 3) := by decide +kernel
theorem dX5_readToken_105 : decode cX5_readToken 105 = .ok (.iconst 1, 1) := by decide +kernel
theorem dX5_readToken_106 : decode cX5_readToken 106 = .ok (.iadd, 1) := by decide +kernel
theorem dX5_readToken_107 : decode cX5_readToken 107 = .ok (.putfield 42, 3) := by decide +kernel
theorem dX5_readToken_110 : decode cX5_readToken 110 = .ok (.aload_n 0, 1) := by decide +kernel
theorem dX5_readToken_111 : decode cX5_readToken 111 = .ok (.getfield 54, 3) := by decide +kernel
theorem dX5_readToken_114 : decode cX5_readToken 114 = .ok (.iconst 1, 1) := by decide +kernel
theorem dX5_readToken_115 : decode cX5_readToken 115 = .ok (.if_icmp .eq 11, 3) := by decide +kernel
theorem dX5_readToken_118 : decode cX5_readToken 118 = .ok (.aload_n 0, 1) := by decide +kernel
theorem dX5_readToken_119 : decode cX5_readToken 119 = .ok (.getfield 54, 3) := by decide +kernel
theorem dX5_readToken_122 : decode cX5_readToken 122 = .ok (.iconst 2, 1) := by decide +kernel
theorem dX5_readToken_123 : decode cX5_readToken 123 = .ok (.if_icmp .ne 7, 3) := by decide +kernel
theorem dX5_readToken_126 : decode cX5_readToken 126 = .ok (.iconst 1, 1) := by decide +kernel
theorem dX5_readToken_127 : decode cX5_readToken 127 = .ok (.goto 4, 3) := by decide +kernel
theorem dX5_readToken_130 : decode cX5_readToken 130 = .ok (.iconst 0, 1) := by decide +kernel
theorem dX5_readToken_131 : decode cX5_readToken 131 = .ok (.istore_n 1, 1) := by decide +kernel
theorem dX5_readToken_132 : decode cX5_readToken 132 = .ok (.iload_n 1, 1) := by decide +kernel
theorem dX5_readToken_133 : decode cX5_readToken 133 = .ok (.ifCond .eq 52, 3) := by decide +kernel
theorem dX5_readToken_136 : decode cX5_readToken 136 = .ok (.aload_n 0, 1) := by decide +kernel
theorem dX5_readToken_137 : decode cX5_readToken 137 = .ok (.getfield 42, 3) := by decide +kernel
theorem dX5_readToken_140 : decode cX5_readToken 140 = .ok (.aload_n 0, 1) := by decide +kernel
theorem dX5_readToken_141 : decode cX5_readToken 141 = .ok (.getfield 18, 3) := by decide +kernel
theorem dX5_readToken_144 : decode cX5_readToken 144 = .ok (.getfield 45, 3) := by decide +kernel
theorem dX5_readToken_147 : decode cX5_readToken 147 = .ok (.if_icmp .ge 38, 3) := by decide +kernel
theorem dX5_readToken_150 : decode cX5_readToken 150 = .ok (.aload_n 0, 1) := by decide +kernel
theorem dX5_readToken_151 : decode cX5_readToken 151 = .ok (.getfield 18, 3) := by decide +kernel
theorem dX5_readToken_154 : decode cX5_readToken 154 = .ok (.getfield 66, 3) := by decide +kernel
theorem dX5_readToken_157 : decode cX5_readToken 157 = .ok (.aload_n 0, 1) := by decide +kernel
theorem dX5_readToken_158 : decode cX5_readToken 158 = .ok (.getfield 42, 3) := by decide +kernel
theorem dX5_readToken_161 : decode cX5_readToken 161 = .ok (.baload, 1) := by decide +kernel
theorem dX5_readToken_162 : decode cX5_readToken 162 = .ok (.invokestatic 70, 3) := by decide +kernel
theorem dX5_readToken_165 : decode cX5_readToken 165 = .ok (.aload_n 0, 1) := by decide +kernel
theorem dX5_readToken_166 : decode cX5_readToken 166 = .ok (.getfield 54, 3) := by decide +kernel
theorem dX5_readToken_169 : decode cX5_readToken 169 = .ok (.if_icmp .ne 16, 3) := by decide +kernel
theorem dX5_readToken_172 : decode cX5_readToken 172 = .ok (.aload_n 0, 1) := by decide +kernel
theorem dX5_readToken_173 : decode cX5_readToken 173 = .ok (.dup, 1) := by decide +kernel
theorem dX5_readToken_174 : decode cX5_readToken 174 = .ok (.getfield 42, 3) := by decide +kernel
theorem dX5_readToken_177 : decode cX5_readToken 177 = .ok (.iconst 1, 1) := by decide +kernel
theorem dX5_readToken_178 : decode cX5_readToken 178 = .ok (.iadd, 1) := by decide +kernel
theorem dX5_readToken_179 : decode cX5_readToken 179 = .ok (.putfield 42, 3) := by decide +kernel
theorem dX5_readToken_182 : decode cX5_readToken 182 = .ok (.goto (-50), 3) := by decide +kernel
theorem dX5_readToken_185 : decode cX5_readToken 185 = .ok (.aload_n 0, 1) := by decide +kernel
theorem dX5_readToken_186 : decode cX5_readToken 186 = .ok (.getfield 54, 3) := by decide +kernel
theorem dX5_readToken_189 : decode cX5_readToken 189 = .ok (.iconst 2, 1) := by decide +kernel
theorem dX5_readToken_190 : decode cX5_readToken 190 = .ok (.if_icmp .ne 20, 3) := by decide +kernel
theorem dX5_readToken_193 : decode cX5_readToken 193 = .ok (.aload_n 0, 1) := by decide +kernel
theorem dX5_readToken_194 : decode cX5_readToken 194 = .ok (.getfield 42, 3) := by decide +kernel
theorem dX5_readToken_197 : decode cX5_readToken 197 = .ok (.aload_n 0, 1) := by decide +kernel
theorem dX5_readToken_198 : decode cX5_readToken 198 = .ok (.getfield 63, 3) := by decide +kernel
theorem dX5_readToken_201 : decode cX5_readToken 201 = .ok (.isub, 1) := by decide +kernel
theorem dX5_readToken_202 : decode cX5_readToken 202 = .ok (.iconst 2, 1) := by decide +kernel
theorem dX5_readToken_203 : decode cX5_readToken 203 = .ok (.if_icmp .le 7, 3) := by decide +kernel
theorem dX5_readToken_206 : decode cX5_readToken 206 = .ok (.iconst 1, 1) := by decide +kernel
theorem dX5_readToken_207 : decode cX5_readToken 207 = .ok (.goto 4, 3) := by decide +kernel
theorem dX5_readToken_210 : decode cX5_readToken 210 = .ok (.iconst 0, 1) := by decide +kernel
theorem dX5_readToken_211 : decode cX5_readToken 211 = .ok (.istore_n 2, 1) := by decide +kernel
theorem dX5_readToken_212 : decode cX5_readToken 212 = .ok (.aload_n 0, 1) := by decide +kernel
theorem dX5_readToken_213 : decode cX5_readToken 213 = .ok (.getfield 54, 3) := by decide +kernel
theorem dX5_readToken_216 : decode cX5_readToken 216 = .ok (.iconst 4, 1) := by decide +kernel
theorem dX5_readToken_217 : decode cX5_readToken 217 = .ok (.if_icmp .eq 7, 3) := by decide +kernel
theorem dX5_readToken_220 : decode cX5_readToken 220 = .ok (.iload_n 2, 1) := by decide +kernel
theorem dX5_readToken_221 : decode cX5_readToken 221 = .ok (.ifCond .eq 15, 3) := by decide +kernel
theorem dX5_readToken_224 : decode cX5_readToken 224 = .ok (.aload_n 0, 1) := by decide +kernel
theorem dX5_readToken_225 : decode cX5_readToken 225 = .ok (.iconst 1, 1) := by decide +kernel
theorem dX5_readToken_226 : decode cX5_readToken 226 = .ok (.aload_n 0, 1) := by decide +kernel
theorem dX5_readToken_227 : decode cX5_readToken 227 = .ok (.getfield 63, 3) := by decide +kernel
theorem dX5_readToken_230 : decode cX5_readToken 230 = .ok (.invokevirtual 74, 3) := by decide +kernel
theorem dX5_readToken_233 : decode cX5_readToken 233 = .ok (.ifCond .eq 7, 3) := by decide +kernel
theorem dX5_readToken_236 : decode cX5_readToken 236 = .ok (.iconst 1, 1) := by decide +kernel
theorem dX5_readToken_237 : decode cX5_readToken 237 = .ok (.goto 4, 3) := by decide +kernel
theorem dX5_readToken_240 : decode cX5_readToken 240 = .ok (.iconst 0, 1) := by decide +kernel
theorem dX5_readToken_241 : decode cX5_readToken 241 = .ok (.ireturn, 1) := by decide +kernel
theorem dX5_isName_0 : decode cX5_isName 0 = .ok (.aload_n 0, 1) := by decide +kernel
theorem dX5_isName_1 : decode cX5_isName 1 = .ok (.getfield 54, 3) := by decide +kernel
theorem dX5_isName_4 : decode cX5_isName 4 = .ok (.iconst 1, 1) := by decide +kernel
theorem dX5_isName_5 : decode cX5_isName 5 = .ok (.if_icmp .ne 19, 3) := by decide +kernel
theorem dX5_isName_8 : decode cX5_isName 8 = .ok (.aload_n 0, 1) := by decide +kernel
theorem dX5_isName_9 : decode cX5_isName 9 = .ok (.getfield 42, 3) := by decide +kernel
theorem dX5_isName_12 : decode cX5_isName 12 = .ok (.aload_n 0, 1) := by decide +kernel
theorem dX5_isName_13 : decode cX5_isName 13 = .ok (.getfield 63, 3) := by decide +kernel
theorem dX5_isName_16 : decode cX5_isName 16 = .ok (.isub, 1) := by decide +kernel
theorem dX5_isName_17 : decode cX5_isName 17 = .ok (.aload_n 1, 1) := by decide +kernel
theorem dX5_isName_18 : decode cX5_isName 18 = .ok (.invokevirtual 78, 3) := by decide +kernel
theorem dX5_isName_21 : decode cX5_isName 21 = .ok (.if_icmp .eq 5, 3) := by decide +kernel
theorem dX5_isName_24 : decode cX5_isName 24 = .ok (.iconst 0, 1) := by decide +kernel
theorem dX5_isName_25 : decode cX5_isName 25 = .ok (.ireturn, 1) := by decide +kernel
theorem dX5_isName_26 : decode cX5_isName 26 = .ok (.iconst 0, 1) := by decide +kernel
theorem dX5_isName_27 : decode cX5_isName 27 = .ok (.istore_n 2, 1) := by decide +kernel
theorem dX5_isName_28 : decode cX5_isName 28 = .ok (.iload_n 2, 1) := by decide +kernel
theorem dX5_isName_29 : decode cX5_isName 29 = .ok (.aload_n 1, 1) := by decide +kernel
theorem dX5_isName_30 : decode cX5_isName 30 = .ok (.invokevirtual 78, 3) := by decide +kernel
theorem dX5_isName_33 : decode cX5_isName 33 = .ok (.if_icmp .ge 49, 3) := by decide +kernel
theorem dX5_isName_36 : decode cX5_isName 36 = .ok (.aload_n 0, 1) := by decide +kernel
theorem dX5_isName_37 : decode cX5_isName 37 = .ok (.getfield 63, 3) := by decide +kernel
theorem dX5_isName_40 : decode cX5_isName 40 = .ok (.iload_n 2, 1) := by decide +kernel
theorem dX5_isName_41 : decode cX5_isName 41 = .ok (.iadd, 1) := by decide +kernel
theorem dX5_isName_42 : decode cX5_isName 42 = .ok (.aload_n 0, 1) := by decide +kernel
theorem dX5_isName_43 : decode cX5_isName 43 = .ok (.getfield 18, 3) := by decide +kernel
theorem dX5_isName_46 : decode cX5_isName 46 = .ok (.getfield 45, 3) := by decide +kernel
theorem dX5_isName_49 : decode cX5_isName 49 = .ok (.if_icmp .ge 33, 3) := by decide +kernel
theorem dX5_isName_52 : decode cX5_isName 52 = .ok (.aload_n 0, 1) := by decide +kernel
theorem dX5_isName_53 : decode cX5_isName 53 = .ok (.getfield 18, 3) := by decide +kernel
theorem dX5_isName_56 : decode cX5_isName 56 = .ok (.getfield 66, 3) := by decide +kernel
theorem dX5_isName_59 : decode cX5_isName 59 = .ok (.aload_n 0, 1) := by decide +kernel
theorem dX5_isName_60 : decode cX5_isName 60 = .ok (.getfield 63, 3) := by decide +kernel
theorem dX5_isName_63 : decode cX5_isName 63 = .ok (.iload_n 2, 1) := by decide +kernel
theorem dX5_isName_64 : decode cX5_isName 64 = .ok (.iadd, 1) := by decide +kernel
theorem dX5_isName_65 : decode cX5_isName 65 = .ok (.baload, 1) := by decide +kernel
theorem dX5_isName_66 : decode cX5_isName 66 = .ok (.aload_n 1, 1) := by decide +kernel
theorem dX5_isName_67 : decode cX5_isName 67 = .ok (.iload_n 2, 1) := by decide +kernel
theorem dX5_isName_68 : decode cX5_isName 68 = .ok (.invokevirtual 83, 3) := by decide +kernel
theorem dX5_isName_71 : decode cX5_isName 71 = .ok (.if_icmp .eq 5, 3) := by decide +kernel
theorem dX5_isName_74 : decode cX5_isName 74 = .ok (.iconst 0, 1) := by decide +kernel
theorem dX5_isName_75 : decode cX5_isName 75 = .ok (.ireturn, 1) := by decide +kernel
theorem dX5_isName_76 : decode cX5_isName 76 = .ok (.iinc 2 1, 3) := by decide +kernel
theorem dX5_isName_79 : decode cX5_isName 79 = .ok (.goto (-51), 3) := by decide +kernel
theorem dX5_isName_82 : decode cX5_isName 82 = .ok (.iconst 1, 1) := by decide +kernel
theorem dX5_isName_83 : decode cX5_isName 83 = .ok (.ireturn, 1) := by decide +kernel
theorem dX5_readNumber_0 : decode cX5_readNumber 0 = .ok (.aload_n 0, 1) := by decide +kernel
theorem dX5_readNumber_1 : decode cX5_readNumber 1 = .ok (.invokevirtual 50, 3) := by decide +kernel
theorem dX5_readNumber_4 : decode cX5_readNumber 4 = .ok (.ifCond .ne 5, 3) := by decide +kernel
theorem dX5_readNumber_7 : decode cX5_readNumber 7 = .ok (.iconst 0, 1) := by decide +kernel
theorem dX5_readNumber_8 : decode cX5_readNumber 8 = .ok (.ireturn, 1) := by decide +kernel
theorem dX5_readNumber_9 : decode cX5_readNumber 9 = .ok (.aload_n 0, 1) := by decide +kernel
theorem dX5_readNumber_10 : decode cX5_readNumber 10 = .ok (.getfield 54, 3) := by decide +kernel
theorem dX5_readNumber_13 : decode cX5_readNumber 13 = .ok (.iconst 2, 1) := by decide +kernel
theorem dX5_readNumber_14 : decode cX5_readNumber 14 = .ok (.if_icmp .eq 13, 3) := by decide +kernel
theorem dX5_readNumber_17 : decode cX5_readNumber 17 = .ok (.aload_n 0, 1) := by decide +kernel
theorem dX5_readNumber_18 : decode cX5_readNumber 18 = .ok (.iconst 2, 1) := by decide +kernel
theorem dX5_readNumber_19 : decode cX5_readNumber 19 = .ok (.aload_n 0, 1) := by decide +kernel
theorem dX5_readNumber_20 : decode cX5_readNumber 20 = .ok (.getfield 63, 3) := by decide +kernel
theorem dX5_readNumber_23 : decode cX5_readNumber 23 = .ok (.invokevirtual 74, 3) := by decide +kernel
theorem dX5_readNumber_26 : decode cX5_readNumber 26 = .ok (.ireturn, 1) := by decide +kernel
theorem dX5_readNumber_27 : decode cX5_readNumber 27 = .ok (.aload_n 0, 1) := by decide +kernel
theorem dX5_readNumber_28 : decode cX5_readNumber 28 = .ok (.iconst 0, 1) := by decide +kernel
theorem dX5_readNumber_29 : decode cX5_readNumber 29 = .ok (.putfield 87, 3) := by decide +kernel
theorem dX5_readNumber_32 : decode cX5_readNumber 32 = .ok (.aload_n 0, 1) := by decide +kernel
theorem dX5_readNumber_33 : decode cX5_readNumber 33 = .ok (.getfield 63, 3) := by decide +kernel
theorem dX5_readNumber_36 : decode cX5_readNumber 36 = .ok (.istore_n 3, 1) := by decide +kernel
theorem dX5_readNumber_37 : decode cX5_readNumber 37 = .ok (.iload_n 3, 1) := by decide +kernel
theorem dX5_readNumber_38 : decode cX5_readNumber 38 = .ok (.aload_n 0, 1) := by decide +kernel
theorem dX5_readNumber_39 : decode cX5_readNumber 39 = .ok (.getfield 42, 3) := by decide +kernel
theorem dX5_readNumber_42 : decode cX5_readNumber 42 = .ok (.if_icmp .ge 33, 3) := by decide +kernel
theorem dX5_readNumber_45 : decode cX5_readNumber 45 = .ok (.aload_n 0, 1) := by decide +kernel
theorem dX5_readNumber_46 : decode cX5_readNumber 46 = .ok (.aload_n 0, 1) := by decide +kernel
theorem dX5_readNumber_47 : decode cX5_readNumber 47 = .ok (.getfield 87, 3) := by decide +kernel
theorem dX5_readNumber_50 : decode cX5_readNumber 50 = .ok (.bipush 10, 2) := by decide +kernel
theorem dX5_readNumber_52 : decode cX5_readNumber 52 = .ok (.imul, 1) := by decide +kernel
theorem dX5_readNumber_53 : decode cX5_readNumber 53 = .ok (.aload_n 0, 1) := by decide +kernel
theorem dX5_readNumber_54 : decode cX5_readNumber 54 = .ok (.getfield 18, 3) := by decide +kernel
theorem dX5_readNumber_57 : decode cX5_readNumber 57 = .ok (.getfield 66, 3) := by decide +kernel
theorem dX5_readNumber_60 : decode cX5_readNumber 60 = .ok (.iload_n 3, 1) := by decide +kernel
theorem dX5_readNumber_61 : decode cX5_readNumber 61 = .ok (.baload, 1) := by decide +kernel
theorem dX5_readNumber_62 : decode cX5_readNumber 62 = .ok (.iadd, 1) := by decide +kernel
theorem dX5_readNumber_63 : decode cX5_readNumber 63 = .ok (.bipush 48, 2) := by decide +kernel
theorem dX5_readNumber_65 : decode cX5_readNumber 65 = .ok (.isub, 1) := by decide +kernel
theorem dX5_readNumber_66 : decode cX5_readNumber 66 = .ok (.putfield 87, 3) := by decide +kernel
theorem dX5_readNumber_69 : decode cX5_readNumber 69 = .ok (.iinc 3 1, 3) := by decide +kernel
theorem dX5_readNumber_72 : decode cX5_readNumber 72 = .ok (.goto (-35), 3) := by decide +kernel
theorem dX5_readNumber_75 : decode cX5_readNumber 75 = .ok (.aload_n 0, 1) := by decide +kernel
theorem dX5_readNumber_76 : decode cX5_readNumber 76 = .ok (.getfield 87, 3) := by decide +kernel
theorem dX5_readNumber_79 : decode cX5_readNumber 79 = .ok (.iload_n 1, 1) := by decide +kernel
theorem dX5_readNumber_80 : decode cX5_readNumber 80 = .ok (.if_icmp .lt 11, 3) := by decide +kernel
theorem dX5_readNumber_83 : decode cX5_readNumber 83 = .ok (.aload_n 0, 1) := by decide +kernel
theorem dX5_readNumber_84 : decode cX5_readNumber 84 = .ok (.getfield 87, 3) := by decide +kernel
theorem dX5_readNumber_87 : decode cX5_readNumber 87 = .ok (.iload_n 2, 1) := by decide +kernel
theorem dX5_readNumber_88 : decode cX5_readNumber 88 = .ok (.if_icmp .le 15, 3) := by decide +kernel
theorem dX5_readNumber_91 : decode cX5_readNumber 91 = .ok (.aload_n 0, 1) := by decide +kernel
theorem dX5_readNumber_92 : decode cX5_readNumber 92 = .ok (.iconst 3, 1) := by decide +kernel
theorem dX5_readNumber_93 : decode cX5_readNumber 93 = .ok (.aload_n 0, 1) := by decide +kernel
theorem dX5_readNumber_94 : decode cX5_readNumber 94 = .ok (.getfield 63, 3) := by decide +kernel
theorem dX5_readNumber_97 : decode cX5_readNumber 97 = .ok (.invokevirtual 74, 3) := by decide +kernel
theorem dX5_readNumber_100 : decode cX5_readNumber 100 = .ok (.ifCond .eq 7, 3) := by decide +kernel
theorem dX5_readNumber_103 : decode cX5_readNumber 103 = .ok (.iconst 1, 1) := by decide +kernel
theorem dX5_readNumber_104 : decode cX5_readNumber 104 = .ok (.goto 4, 3) := by decide +kernel
theorem dX5_readNumber_107 : decode cX5_readNumber 107 = .ok (.iconst 0, 1) := by decide +kernel
theorem dX5_readNumber_108 : decode cX5_readNumber 108 = .ok (.ireturn, 1) := by decide +kernel
theorem dX5_readStop_0 : decode cX5_readStop 0 = .ok (.aload_n 0, 1) := by decide +kernel
theorem dX5_readStop_1 : decode cX5_readStop 1 = .ok (.invokevirtual 50, 3) := by decide +kernel
theorem dX5_readStop_4 : decode cX5_readStop 4 = .ok (.ifCond .eq 14, 3) := by decide +kernel
theorem dX5_readStop_7 : decode cX5_readStop 7 = .ok (.aload_n 0, 1) := by decide +kernel
theorem dX5_readStop_8 : decode cX5_readStop 8 = .ok (.invokevirtual 90, 3) := by decide +kernel
theorem dX5_readStop_11 : decode cX5_readStop 11 = .ok (.ifCond .eq 7, 3) := by decide +kernel
theorem dX5_readStop_14 : decode cX5_readStop 14 = .ok (.iconst 1, 1) := by decide +kernel
theorem dX5_readStop_15 : decode cX5_readStop 15 = .ok (.goto 4, 3) := by decide +kernel
theorem dX5_readStop_18 : decode cX5_readStop 18 = .ok (.iconst 0, 1) := by decide +kernel
theorem dX5_readStop_19 : decode cX5_readStop 19 = .ok (.ireturn, 1) := by decide +kernel
theorem dX5_checkStop_0 : decode cX5_checkStop 0 = .ok (.aload_n 0, 1) := by decide +kernel
theorem dX5_checkStop_1 : decode cX5_checkStop 1 = .ok (.getfield 54, 3) := by decide +kernel
theorem dX5_checkStop_4 : decode cX5_checkStop 4 = .ok (.iconst 3, 1) := by decide +kernel
theorem dX5_checkStop_5 : decode cX5_checkStop 5 = .ok (.if_icmp .eq 15, 3) := by decide +kernel
theorem dX5_checkStop_8 : decode cX5_checkStop 8 = .ok (.aload_n 0, 1) := by decide +kernel
theorem dX5_checkStop_9 : decode cX5_checkStop 9 = .ok (.iconst 2, 1) := by decide +kernel
theorem dX5_checkStop_10 : decode cX5_checkStop 10 = .ok (.aload_n 0, 1) := by decide +kernel
theorem dX5_checkStop_11 : decode cX5_checkStop 11 = .ok (.getfield 63, 3) := by decide +kernel
theorem dX5_checkStop_14 : decode cX5_checkStop 14 = .ok (.invokevirtual 74, 3) := by decide +kernel
theorem dX5_checkStop_17 : decode cX5_checkStop 17 = .ok (.ifCond .eq 7, 3) := by decide +kernel
theorem dX5_checkStop_20 : decode cX5_checkStop 20 = .ok (.iconst 1, 1) := by decide +kernel
theorem dX5_checkStop_21 : decode cX5_checkStop 21 = .ok (.goto 4, 3) := by decide +kernel
theorem dX5_checkStop_24 : decode cX5_checkStop 24 = .ok (.iconst 0, 1) := by decide +kernel
theorem dX5_checkStop_25 : decode cX5_checkStop 25 = .ok (.ireturn, 1) := by decide +kernel
theorem dX5_readLine_0 : decode cX5_readLine 0 = .ok (.aload_n 0, 1) := by decide +kernel
theorem dX5_readLine_1 : decode cX5_readLine 1 = .ok (.ldc 93, 2) := by decide +kernel
theorem dX5_readLine_3 : decode cX5_readLine 3 = .ok (.invokevirtual 95, 3) := by decide +kernel
theorem dX5_readLine_6 : decode cX5_readLine 6 = .ok (.ifCond .eq 8, 3) := by decide +kernel
theorem dX5_readLine_9 : decode cX5_readLine 9 = .ok (.aload_n 0, 1) := by decide +kernel
theorem dX5_readLine_10 : decode cX5_readLine 10 = .ok (.invokevirtual 99, 3) := by decide +kernel
theorem dX5_readLine_13 : decode cX5_readLine 13 = .ok (.ireturn, 1) := by decide +kernel
theorem dX5_readLine_14 : decode cX5_readLine 14 = .ok (.aload_n 0, 1) := by decide +kernel
theorem dX5_readLine_15 : decode cX5_readLine 15 = .ok (.ldc 102, 2) := by decide +kernel
theorem dX5_readLine_17 : decode cX5_readLine 17 = .ok (.invokevirtual 95, 3) := by decide +kernel
theorem dX5_readLine_20 : decode cX5_readLine 20 = .ok (.ifCond .eq 8, 3) := by decide +kernel
theorem dX5_readLine_23 : decode cX5_readLine 23 = .ok (.aload_n 0, 1) := by decide +kernel
theorem dX5_readLine_24 : decode cX5_readLine 24 = .ok (.invokevirtual 104, 3) := by decide +kernel
theorem dX5_readLine_27 : decode cX5_readLine 27 = .ok (.ireturn, 1) := by decide +kernel
theorem dX5_readLine_28 : decode cX5_readLine 28 = .ok (.aload_n 0, 1) := by decide +kernel
theorem dX5_readLine_29 : decode cX5_readLine 29 = .ok (.ldc 107, 2) := by decide +kernel
theorem dX5_readLine_31 : decode cX5_readLine 31 = .ok (.invokevirtual 95, 3) := by decide +kernel
theorem dX5_readLine_34 : decode cX5_readLine 34 = .ok (.ifCond .eq 8, 3) := by decide +kernel
theorem dX5_readLine_37 : decode cX5_readLine 37 = .ok (.aload_n 0, 1) := by decide +kernel
theorem dX5_readLine_38 : decode cX5_readLine 38 = .ok (.invokevirtual 109, 3) := by decide +kernel
theorem dX5_readLine_41 : decode cX5_readLine 41 = .ok (.ireturn, 1) := by decide +kernel
theorem dX5_readLine_42 : decode cX5_readLine 42 = .ok (.aload_n 0, 1) := by decide +kernel
theorem dX5_readLine_43 : decode cX5_readLine 43 = .ok (.ldc 112, 2) := by decide +kernel
theorem dX5_readLine_45 : decode cX5_readLine 45 = .ok (.invokevirtual 95, 3) := by decide +kernel
theorem dX5_readLine_48 : decode cX5_readLine 48 = .ok (.ifCond .eq 8, 3) := by decide +kernel
theorem dX5_readLine_51 : decode cX5_readLine 51 = .ok (.aload_n 0, 1) := by decide +kernel
theorem dX5_readLine_52 : decode cX5_readLine 52 = .ok (.invokevirtual 114, 3) := by decide +kernel
theorem dX5_readLine_55 : decode cX5_readLine 55 = .ok (.ireturn, 1) := by decide +kernel
theorem dX5_readLine_56 : decode cX5_readLine 56 = .ok (.aload_n 0, 1) := by decide +kernel
theorem dX5_readLine_57 : decode cX5_readLine 57 = .ok (.ldc 117, 2) := by decide +kernel
theorem dX5_readLine_59 : decode cX5_readLine 59 = .ok (.invokevirtual 95, 3) := by decide +kernel
theorem dX5_readLine_62 : decode cX5_readLine 62 = .ok (.ifCond .eq 8, 3) := by decide +kernel
theorem dX5_readLine_65 : decode cX5_readLine 65 = .ok (.aload_n 0, 1) := by decide +kernel
theorem dX5_readLine_66 : decode cX5_readLine 66 = .ok (.invokevirtual 119, 3) := by decide +kernel
theorem dX5_readLine_69 : decode cX5_readLine 69 = .ok (.ireturn, 1) := by decide +kernel
theorem dX5_readLine_70 : decode cX5_readLine 70 = .ok (.aload_n 0, 1) := by decide +kernel
theorem dX5_readLine_71 : decode cX5_readLine 71 = .ok (.ldc 122, 2) := by decide +kernel
theorem dX5_readLine_73 : decode cX5_readLine 73 = .ok (.invokevirtual 95, 3) := by decide +kernel
theorem dX5_readLine_76 : decode cX5_readLine 76 = .ok (.ifCond .eq 10, 3) := by decide +kernel
theorem dX5_readLine_79 : decode cX5_readLine 79 = .ok (.aload_n 0, 1) := by decide +kernel
theorem dX5_readLine_80 : decode cX5_readLine 80 = .ok (.invokevirtual 124, 3) := by decide +kernel
theorem dX5_readLine_83 : decode cX5_readLine 83 = .ok (.goto 12, 3) := by decide +kernel
theorem dX5_readLine_86 : decode cX5_readLine 86 = .ok (.aload_n 0, 1) := by decide +kernel
theorem dX5_readLine_87 : decode cX5_readLine 87 = .ok (.iconst 2, 1) := by decide +kernel
theorem dX5_readLine_88 : decode cX5_readLine 88 = .ok (.aload_n 0, 1) := by decide +kernel
theorem dX5_readLine_89 : decode cX5_readLine 89 = .ok (.getfield 63, 3) := by decide +kernel
theorem dX5_readLine_92 : decode cX5_readLine 92 = .ok (.invokevirtual 74, 3) := by decide +kernel
theorem dX5_readLine_95 : decode cX5_readLine 95 = .ok (.ireturn, 1) := by decide +kernel
theorem dX5_readLaw_0 : decode cX5_readLaw 0 = .ok (.aload_n 0, 1) := by decide +kernel
theorem dX5_readLaw_1 : decode cX5_readLaw 1 = .ok (.getfield 35, 3) := by decide +kernel
theorem dX5_readLaw_4 : decode cX5_readLaw 4 = .ok (.ifCond .eq 13, 3) := by decide +kernel
theorem dX5_readLaw_7 : decode cX5_readLaw 7 = .ok (.aload_n 0, 1) := by decide +kernel
theorem dX5_readLaw_8 : decode cX5_readLaw 8 = .ok (.iconst 4, 1) := by decide +kernel
theorem dX5_readLaw_9 : decode cX5_readLaw 9 = .ok (.aload_n 0, 1) := by decide +kernel
theorem dX5_readLaw_10 : decode cX5_readLaw 10 = .ok (.getfield 63, 3) := by decide +kernel
theorem dX5_readLaw_13 : decode cX5_readLaw 13 = .ok (.invokevirtual 74, 3) := by decide +kernel
theorem dX5_readLaw_16 : decode cX5_readLaw 16 = .ok (.ireturn, 1) := by decide +kernel
theorem dX5_readLaw_17 : decode cX5_readLaw 17 = .ok (.aload_n 0, 1) := by decide +kernel
theorem dX5_readLaw_18 : decode cX5_readLaw 18 = .ok (.iconst 1, 1) := by decide +kernel
theorem dX5_readLaw_19 : decode cX5_readLaw 19 = .ok (.putfield 35, 3) := by decide +kernel
theorem dX5_readLaw_22 : decode cX5_readLaw 22 = .ok (.aload_n 0, 1) := by decide +kernel
theorem dX5_readLaw_23 : decode cX5_readLaw 23 = .ok (.iconst 0, 1) := by decide +kernel
theorem dX5_readLaw_24 : decode cX5_readLaw 24 = .ok (.iconst 2, 1) := by decide +kernel
theorem dX5_readLaw_25 : decode cX5_readLaw 25 = .ok (.invokevirtual 127, 3) := by decide +kernel
theorem dX5_readLaw_28 : decode cX5_readLaw 28 = .ok (.ifCond .ne 5, 3) := by decide +kernel
theorem dX5_readLaw_31 : decode cX5_readLaw 31 = .ok (.iconst 0, 1) := by decide +kernel
theorem dX5_readLaw_32 : decode cX5_readLaw 32 = .ok (.ireturn, 1) := by decide +kernel
theorem dX5_readLaw_33 : decode cX5_readLaw 33 = .ok (.aload_n 0, 1) := by decide +kernel
theorem dX5_readLaw_34 : decode cX5_readLaw 34 = .ok (.getfield 12, 3) := by decide +kernel
theorem dX5_readLaw_37 : decode cX5_readLaw 37 = .ok (.aload_n 0, 1) := by decide +kernel
theorem dX5_readLaw_38 : decode cX5_readLaw 38 = .ok (.getfield 87, 3) := by decide +kernel
theorem dX5_readLaw_41 : decode cX5_readLaw 41 = .ok (.putfield 130, 3) := by decide +kernel
theorem dX5_readLaw_44 : decode cX5_readLaw 44 = .ok (.aload_n 0, 1) := by decide +kernel
theorem dX5_readLaw_45 : decode cX5_readLaw 45 = .ok (.invokevirtual 133, 3) := by decide +kernel
theorem dX5_readLaw_48 : decode cX5_readLaw 48 = .ok (.ireturn, 1) := by decide +kernel
theorem dX5_readFee_0 : decode cX5_readFee 0 = .ok (.aload_n 0, 1) := by decide +kernel
theorem dX5_readFee_1 : decode cX5_readFee 1 = .ok (.getfield 39, 3) := by decide +kernel
theorem dX5_readFee_4 : decode cX5_readFee 4 = .ok (.ifCond .eq 13, 3) := by decide +kernel
theorem dX5_readFee_7 : decode cX5_readFee 7 = .ok (.aload_n 0, 1) := by decide +kernel
theorem dX5_readFee_8 : decode cX5_readFee 8 = .ok (.iconst 4, 1) := by decide +kernel
theorem dX5_readFee_9 : decode cX5_readFee 9 = .ok (.aload_n 0, 1) := by decide +kernel
theorem dX5_readFee_10 : decode cX5_readFee 10 = .ok (.getfield 63, 3) := by decide +kernel
theorem dX5_readFee_13 : decode cX5_readFee 13 = .ok (.invokevirtual 74, 3) := by decide +kernel
theorem dX5_readFee_16 : decode cX5_readFee 16 = .ok (.ireturn, 1) := by decide +kernel
theorem dX5_readFee_17 : decode cX5_readFee 17 = .ok (.aload_n 0, 1) := by decide +kernel
theorem dX5_readFee_18 : decode cX5_readFee 18 = .ok (.iconst 1, 1) := by decide +kernel
theorem dX5_readFee_19 : decode cX5_readFee 19 = .ok (.putfield 39, 3) := by decide +kernel
theorem dX5_readFee_22 : decode cX5_readFee 22 = .ok (.aload_n 0, 1) := by decide +kernel
theorem dX5_readFee_23 : decode cX5_readFee 23 = .ok (.iconst 0, 1) := by decide +kernel
theorem dX5_readFee_24 : decode cX5_readFee 24 = .ok (.bipush 9, 2) := by decide +kernel
theorem dX5_readFee_26 : decode cX5_readFee 26 = .ok (.invokevirtual 127, 3) := by decide +kernel
theorem dX5_readFee_29 : decode cX5_readFee 29 = .ok (.ifCond .ne 5, 3) := by decide +kernel
theorem dX5_readFee_32 : decode cX5_readFee 32 = .ok (.iconst 0, 1) := by decide +kernel
theorem dX5_readFee_33 : decode cX5_readFee 33 = .ok (.ireturn, 1) := by decide +kernel
theorem dX5_readFee_34 : decode cX5_readFee 34 = .ok (.aload_n 0, 1) := by decide +kernel
theorem dX5_readFee_35 : decode cX5_readFee 35 = .ok (.getfield 12, 3) := by decide +kernel
theorem dX5_readFee_38 : decode cX5_readFee 38 = .ok (.aload_n 0, 1) := by decide +kernel
theorem dX5_readFee_39 : decode cX5_readFee 39 = .ok (.getfield 87, 3) := by decide +kernel
theorem dX5_readFee_42 : decode cX5_readFee 42 = .ok (.putfield 136, 3) := by decide +kernel
theorem dX5_readFee_45 : decode cX5_readFee 45 = .ok (.aload_n 0, 1) := by decide +kernel
theorem dX5_readFee_46 : decode cX5_readFee 46 = .ok (.invokevirtual 133, 3) := by decide +kernel
theorem dX5_readFee_49 : decode cX5_readFee 49 = .ok (.ireturn, 1) := by decide +kernel
theorem dX5_readOne_0 : decode cX5_readOne 0 = .ok (.aload_n 0, 1) := by decide +kernel
theorem dX5_readOne_1 : decode cX5_readOne 1 = .ok (.getfield 12, 3) := by decide +kernel
theorem dX5_readOne_4 : decode cX5_readOne 4 = .ok (.getfield 139, 3) := by decide +kernel
theorem dX5_readOne_7 : decode cX5_readOne 7 = .ok (.istore_n 1, 1) := by decide +kernel
theorem dX5_readOne_8 : decode cX5_readOne 8 = .ok (.iload_n 1, 1) := by decide +kernel
theorem dX5_readOne_9 : decode cX5_readOne 9 = .ok (.bipush 6, 2) := by decide +kernel
theorem dX5_readOne_11 : decode cX5_readOne 11 = .ok (.if_icmp .lt 13, 3) := by decide +kernel
theorem dX5_readOne_14 : decode cX5_readOne 14 = .ok (.aload_n 0, 1) := by decide +kernel
theorem dX5_readOne_15 : decode cX5_readOne 15 = .ok (.iconst 5, 1) := by decide +kernel
theorem dX5_readOne_16 : decode cX5_readOne 16 = .ok (.aload_n 0, 1) := by decide +kernel
theorem dX5_readOne_17 : decode cX5_readOne 17 = .ok (.getfield 63, 3) := by decide +kernel
theorem dX5_readOne_20 : decode cX5_readOne 20 = .ok (.invokevirtual 74, 3) := by decide +kernel
theorem dX5_readOne_23 : decode cX5_readOne 23 = .ok (.ireturn, 1) := by decide +kernel
theorem dX5_readOne_24 : decode cX5_readOne 24 = .ok (.aload_n 0, 1) := by decide +kernel
theorem dX5_readOne_25 : decode cX5_readOne 25 = .ok (.invokevirtual 50, 3) := by decide +kernel
theorem dX5_readOne_28 : decode cX5_readOne 28 = .ok (.ifCond .ne 5, 3) := by decide +kernel
theorem dX5_readOne_31 : decode cX5_readOne 31 = .ok (.iconst 0, 1) := by decide +kernel
theorem dX5_readOne_32 : decode cX5_readOne 32 = .ok (.ireturn, 1) := by decide +kernel
theorem dX5_readOne_33 : decode cX5_readOne 33 = .ok (.aload_n 0, 1) := by decide +kernel
theorem dX5_readOne_34 : decode cX5_readOne 34 = .ok (.getfield 12, 3) := by decide +kernel
theorem dX5_readOne_37 : decode cX5_readOne 37 = .ok (.getfield 142, 3) := by decide +kernel
theorem dX5_readOne_40 : decode cX5_readOne 40 = .ok (.iload_n 1, 1) := by decide +kernel
theorem dX5_readOne_41 : decode cX5_readOne 41 = .ok (.aload_n 0, 1) := by decide +kernel
theorem dX5_readOne_42 : decode cX5_readOne 42 = .ok (.invokevirtual 146, 3) := by decide +kernel
theorem dX5_readOne_45 : decode cX5_readOne 45 = .ok (.iastore, 1) := by decide +kernel
theorem dX5_readOne_46 : decode cX5_readOne 46 = .ok (.aload_n 0, 1) := by decide +kernel
theorem dX5_readOne_47 : decode cX5_readOne 47 = .ok (.getfield 12, 3) := by decide +kernel
theorem dX5_readOne_50 : decode cX5_readOne 50 = .ok (.getfield 142, 3) := by decide +kernel
theorem dX5_readOne_53 : decode cX5_readOne 53 = .ok (.iload_n 1, 1) := by decide +kernel
theorem dX5_readOne_54 : decode cX5_readOne 54 = .ok (.iaload, 1) := by decide +kernel
theorem dX5_readOne_55 : decode cX5_readOne 55 = .ok (.bipush (-4), 2) := by decide +kernel
theorem dX5_readOne_57 : decode cX5_readOne 57 = .ok (.if_icmp .ne 13, 3) := by decide +kernel
theorem dX5_readOne_60 : decode cX5_readOne 60 = .ok (.aload_n 0, 1) := by decide +kernel
theorem dX5_readOne_61 : decode cX5_readOne 61 = .ok (.iconst 2, 1) := by decide +kernel
theorem dX5_readOne_62 : decode cX5_readOne 62 = .ok (.aload_n 0, 1) := by decide +kernel
theorem dX5_readOne_63 : decode cX5_readOne 63 = .ok (.getfield 63, 3) := by decide +kernel
theorem dX5_readOne_66 : decode cX5_readOne 66 = .ok (.invokevirtual 74, 3) := by decide +kernel
theorem dX5_readOne_69 : decode cX5_readOne 69 = .ok (.ireturn, 1) := by decide +kernel
theorem dX5_readOne_70 : decode cX5_readOne 70 = .ok (.aload_n 0, 1) := by decide +kernel
theorem dX5_readOne_71 : decode cX5_readOne 71 = .ok (.iconst 0, 1) := by decide +kernel
theorem dX5_readOne_72 : decode cX5_readOne 72 = .ok (.bipush 9, 2) := by decide +kernel
theorem dX5_readOne_74 : decode cX5_readOne 74 = .ok (.invokevirtual 127, 3) := by decide +kernel
theorem dX5_readOne_77 : decode cX5_readOne 77 = .ok (.ifCond .ne 5, 3) := by decide +kernel
theorem dX5_readOne_80 : decode cX5_readOne 80 = .ok (.iconst 0, 1) := by decide +kernel
theorem dX5_readOne_81 : decode cX5_readOne 81 = .ok (.ireturn, 1) := by decide +kernel
theorem dX5_readOne_82 : decode cX5_readOne 82 = .ok (.aload_n 0, 1) := by decide +kernel
theorem dX5_readOne_83 : decode cX5_readOne 83 = .ok (.getfield 12, 3) := by decide +kernel
theorem dX5_readOne_86 : decode cX5_readOne 86 = .ok (.getfield 149, 3) := by decide +kernel
theorem dX5_readOne_89 : decode cX5_readOne 89 = .ok (.iload_n 1, 1) := by decide +kernel
theorem dX5_readOne_90 : decode cX5_readOne 90 = .ok (.aload_n 0, 1) := by decide +kernel
theorem dX5_readOne_91 : decode cX5_readOne 91 = .ok (.getfield 87, 3) := by decide +kernel
theorem dX5_readOne_94 : decode cX5_readOne 94 = .ok (.iastore, 1) := by decide +kernel
theorem dX5_readOne_95 : decode cX5_readOne 95 = .ok (.aload_n 0, 1) := by decide +kernel
theorem dX5_readOne_96 : decode cX5_readOne 96 = .ok (.iconst 0, 1) := by decide +kernel
theorem dX5_readOne_97 : decode cX5_readOne 97 = .ok (.bipush 50, 2) := by decide +kernel
theorem dX5_readOne_99 : decode cX5_readOne 99 = .ok (.invokevirtual 127, 3) := by decide +kernel
theorem dX5_readOne_102 : decode cX5_readOne 102 = .ok (.ifCond .ne 5, 3) := by decide +kernel
theorem dX5_readOne_105 : decode cX5_readOne 105 = .ok (.iconst 0, 1) := by decide +kernel
theorem dX5_readOne_106 : decode cX5_readOne 106 = .ok (.ireturn, 1) := by decide +kernel
theorem dX5_readOne_107 : decode cX5_readOne 107 = .ok (.aload_n 0, 1) := by decide +kernel
theorem dX5_readOne_108 : decode cX5_readOne 108 = .ok (.getfield 12, 3) := by decide +kernel
theorem dX5_readOne_111 : decode cX5_readOne 111 = .ok (.getfield 152, 3) := by decide +kernel
theorem dX5_readOne_114 : decode cX5_readOne 114 = .ok (.iload_n 1, 1) := by decide +kernel
theorem dX5_readOne_115 : decode cX5_readOne 115 = .ok (.aload_n 0, 1) := by decide +kernel
theorem dX5_readOne_116 : decode cX5_readOne 116 = .ok (.getfield 87, 3) := by decide +kernel
theorem dX5_readOne_119 : decode cX5_readOne 119 = .ok (.iastore, 1) := by decide +kernel
theorem dX5_readOne_120 : decode cX5_readOne 120 = .ok (.aload_n 0, 1) := by decide +kernel
theorem dX5_readOne_121 : decode cX5_readOne 121 = .ok (.getfield 12, 3) := by decide +kernel
theorem dX5_readOne_124 : decode cX5_readOne 124 = .ok (.dup, 1) := by decide +kernel
theorem dX5_readOne_125 : decode cX5_readOne 125 = .ok (.getfield 139, 3) := by decide +kernel
theorem dX5_readOne_128 : decode cX5_readOne 128 = .ok (.iconst 1, 1) := by decide +kernel
theorem dX5_readOne_129 : decode cX5_readOne 129 = .ok (.iadd, 1) := by decide +kernel
theorem dX5_readOne_130 : decode cX5_readOne 130 = .ok (.putfield 139, 3) := by decide +kernel
theorem dX5_readOne_133 : decode cX5_readOne 133 = .ok (.aload_n 0, 1) := by decide +kernel
theorem dX5_readOne_134 : decode cX5_readOne 134 = .ok (.invokevirtual 133, 3) := by decide +kernel
theorem dX5_readOne_137 : decode cX5_readOne 137 = .ok (.ireturn, 1) := by decide +kernel
theorem dX5_kindNamed_0 : decode cX5_kindNamed 0 = .ok (.aload_n 0, 1) := by decide +kernel
theorem dX5_kindNamed_1 : decode cX5_kindNamed 1 = .ok (.ldc 155, 2) := by decide +kernel
theorem dX5_kindNamed_3 : decode cX5_kindNamed 3 = .ok (.invokevirtual 95, 3) := by decide +kernel
theorem dX5_kindNamed_6 : decode cX5_kindNamed 6 = .ok (.ifCond .eq 5, 3) := by decide +kernel
theorem dX5_kindNamed_9 : decode cX5_kindNamed 9 = .ok (.iconst 0, 1) := by decide +kernel
theorem dX5_kindNamed_10 : decode cX5_kindNamed 10 = .ok (.ireturn, 1) := by decide +kernel
theorem dX5_kindNamed_11 : decode cX5_kindNamed 11 = .ok (.aload_n 0, 1) := by decide +kernel
theorem dX5_kindNamed_12 : decode cX5_kindNamed 12 = .ok (.ldc 157, 2) := by decide +kernel
theorem dX5_kindNamed_14 : decode cX5_kindNamed 14 = .ok (.invokevirtual 95, 3) := by decide +kernel
theorem dX5_kindNamed_17 : decode cX5_kindNamed 17 = .ok (.ifCond .eq 5, 3) := by decide +kernel
theorem dX5_kindNamed_20 : decode cX5_kindNamed 20 = .ok (.iconst 1, 1) := by decide +kernel
theorem dX5_kindNamed_21 : decode cX5_kindNamed 21 = .ok (.ireturn, 1) := by decide +kernel
theorem dX5_kindNamed_22 : decode cX5_kindNamed 22 = .ok (.aload_n 0, 1) := by decide +kernel
theorem dX5_kindNamed_23 : decode cX5_kindNamed 23 = .ok (.ldc 159, 2) := by decide +kernel
theorem dX5_kindNamed_25 : decode cX5_kindNamed 25 = .ok (.invokevirtual 95, 3) := by decide +kernel
theorem dX5_kindNamed_28 : decode cX5_kindNamed 28 = .ok (.ifCond .eq 5, 3) := by decide +kernel
theorem dX5_kindNamed_31 : decode cX5_kindNamed 31 = .ok (.iconst 2, 1) := by decide +kernel
theorem dX5_kindNamed_32 : decode cX5_kindNamed 32 = .ok (.ireturn, 1) := by decide +kernel
theorem dX5_kindNamed_33 : decode cX5_kindNamed 33 = .ok (.aload_n 0, 1) := by decide +kernel
theorem dX5_kindNamed_34 : decode cX5_kindNamed 34 = .ok (.ldc 161, 2) := by decide +kernel
theorem dX5_kindNamed_36 : decode cX5_kindNamed 36 = .ok (.invokevirtual 95, 3) := by decide +kernel
theorem dX5_kindNamed_39 : decode cX5_kindNamed 39 = .ok (.ifCond .eq 5, 3) := by decide +kernel
theorem dX5_kindNamed_42 : decode cX5_kindNamed 42 = .ok (.iconst 3, 1) := by decide +kernel
theorem dX5_kindNamed_43 : decode cX5_kindNamed 43 = .ok (.ireturn, 1) := by decide +kernel
theorem dX5_kindNamed_44 : decode cX5_kindNamed 44 = .ok (.aload_n 0, 1) := by decide +kernel
theorem dX5_kindNamed_45 : decode cX5_kindNamed 45 = .ok (.ldc 163, 2) := by decide +kernel
theorem dX5_kindNamed_47 : decode cX5_kindNamed 47 = .ok (.invokevirtual 95, 3) := by decide +kernel
theorem dX5_kindNamed_50 : decode cX5_kindNamed 50 = .ok (.ifCond .eq 7, 3) := by decide +kernel
theorem dX5_kindNamed_53 : decode cX5_kindNamed 53 = .ok (.iconst 4, 1) := by decide +kernel
theorem dX5_kindNamed_54 : decode cX5_kindNamed 54 = .ok (.goto 5, 3) := by decide +kernel
theorem dX5_kindNamed_57 : decode cX5_kindNamed 57 = .ok (.bipush (-4), 2) := by decide +kernel
theorem dX5_kindNamed_59 : decode cX5_kindNamed 59 = .ok (.ireturn, 1) := by decide +kernel
theorem dX5_readCoin_0 : decode cX5_readCoin 0 = .ok (.aload_n 0, 1) := by decide +kernel
theorem dX5_readCoin_1 : decode cX5_readCoin 1 = .ok (.getfield 12, 3) := by decide +kernel
theorem dX5_readCoin_4 : decode cX5_readCoin 4 = .ok (.getfield 165, 3) := by decide +kernel
theorem dX5_readCoin_7 : decode cX5_readCoin 7 = .ok (.istore_n 1, 1) := by decide +kernel
theorem dX5_readCoin_8 : decode cX5_readCoin 8 = .ok (.iload_n 1, 1) := by decide +kernel
theorem dX5_readCoin_9 : decode cX5_readCoin 9 = .ok (.bipush 6, 2) := by decide +kernel
theorem dX5_readCoin_11 : decode cX5_readCoin 11 = .ok (.if_icmp .lt 13, 3) := by decide +kernel
theorem dX5_readCoin_14 : decode cX5_readCoin 14 = .ok (.aload_n 0, 1) := by decide +kernel
theorem dX5_readCoin_15 : decode cX5_readCoin 15 = .ok (.iconst 5, 1) := by decide +kernel
theorem dX5_readCoin_16 : decode cX5_readCoin 16 = .ok (.aload_n 0, 1) := by decide +kernel
theorem dX5_readCoin_17 : decode cX5_readCoin 17 = .ok (.getfield 63, 3) := by decide +kernel
theorem dX5_readCoin_20 : decode cX5_readCoin 20 = .ok (.invokevirtual 74, 3) := by decide +kernel
theorem dX5_readCoin_23 : decode cX5_readCoin 23 = .ok (.ireturn, 1) := by decide +kernel
theorem dX5_readCoin_24 : decode cX5_readCoin 24 = .ok (.aload_n 0, 1) := by decide +kernel
theorem dX5_readCoin_25 : decode cX5_readCoin 25 = .ok (.iconst 1, 1) := by decide +kernel
theorem dX5_readCoin_26 : decode cX5_readCoin 26 = .ok (.iconst 3, 1) := by decide +kernel
theorem dX5_readCoin_27 : decode cX5_readCoin 27 = .ok (.invokevirtual 127, 3) := by decide +kernel
theorem dX5_readCoin_30 : decode cX5_readCoin 30 = .ok (.ifCond .ne 5, 3) := by decide +kernel
theorem dX5_readCoin_33 : decode cX5_readCoin 33 = .ok (.iconst 0, 1) := by decide +kernel
theorem dX5_readCoin_34 : decode cX5_readCoin 34 = .ok (.ireturn, 1) := by decide +kernel
theorem dX5_readCoin_35 : decode cX5_readCoin 35 = .ok (.aload_n 0, 1) := by decide +kernel
theorem dX5_readCoin_36 : decode cX5_readCoin 36 = .ok (.getfield 12, 3) := by decide +kernel
theorem dX5_readCoin_39 : decode cX5_readCoin 39 = .ok (.getfield 168, 3) := by decide +kernel
theorem dX5_readCoin_42 : decode cX5_readCoin 42 = .ok (.iload_n 1, 1) := by decide +kernel
theorem dX5_readCoin_43 : decode cX5_readCoin 43 = .ok (.aload_n 0, 1) := by decide +kernel
theorem dX5_readCoin_44 : decode cX5_readCoin 44 = .ok (.getfield 87, 3) := by decide +kernel
end
section
theorem dX5_readCoin_47 : decode cX5_readCoin 47 = .ok (.iastore, 1) := by decide +kernel
theorem dX5_readCoin_48 : decode cX5_readCoin 48 = .ok (.aload_n 0, 1) := by decide +kernel
theorem dX5_readCoin_49 : decode cX5_readCoin 49 = .ok (.iconst 0, 1) := by decide +kernel
theorem dX5_readCoin_50 : decode cX5_readCoin 50 = .ok (.iconst 5, 1) := by decide +kernel
theorem dX5_readCoin_51 : decode cX5_readCoin 51 = .ok (.invokevirtual 127, 3) := by decide +kernel
theorem dX5_readCoin_54 : decode cX5_readCoin 54 = .ok (.ifCond .ne 5, 3) := by decide +kernel
theorem dX5_readCoin_57 : decode cX5_readCoin 57 = .ok (.iconst 0, 1) := by decide +kernel
theorem dX5_readCoin_58 : decode cX5_readCoin 58 = .ok (.ireturn, 1) := by decide +kernel
theorem dX5_readCoin_59 : decode cX5_readCoin 59 = .ok (.aload_n 0, 1) := by decide +kernel
theorem dX5_readCoin_60 : decode cX5_readCoin 60 = .ok (.getfield 12, 3) := by decide +kernel
theorem dX5_readCoin_63 : decode cX5_readCoin 63 = .ok (.getfield 171, 3) := by decide +kernel
theorem dX5_readCoin_66 : decode cX5_readCoin 66 = .ok (.iload_n 1, 1) := by decide +kernel
theorem dX5_readCoin_67 : decode cX5_readCoin 67 = .ok (.aload_n 0, 1) := by decide +kernel
theorem dX5_readCoin_68 : decode cX5_readCoin 68 = .ok (.getfield 87, 3) := by decide +kernel
theorem dX5_readCoin_71 : decode cX5_readCoin 71 = .ok (.iastore, 1) := by decide +kernel
theorem dX5_readCoin_72 : decode cX5_readCoin 72 = .ok (.aload_n 0, 1) := by decide +kernel
theorem dX5_readCoin_73 : decode cX5_readCoin 73 = .ok (.getfield 12, 3) := by decide +kernel
theorem dX5_readCoin_76 : decode cX5_readCoin 76 = .ok (.dup, 1) := by decide +kernel
theorem dX5_readCoin_77 : decode cX5_readCoin 77 = .ok (.getfield 165, 3) := by decide +kernel
theorem dX5_readCoin_80 : decode cX5_readCoin 80 = .ok (.iconst 1, 1) := by decide +kernel
theorem dX5_readCoin_81 : decode cX5_readCoin 81 = .ok (.iadd, 1) := by decide +kernel
theorem dX5_readCoin_82 : decode cX5_readCoin 82 = .ok (.putfield 165, 3) := by decide +kernel
theorem dX5_readCoin_85 : decode cX5_readCoin 85 = .ok (.aload_n 0, 1) := by decide +kernel
theorem dX5_readCoin_86 : decode cX5_readCoin 86 = .ok (.invokevirtual 50, 3) := by decide +kernel
theorem dX5_readCoin_89 : decode cX5_readCoin 89 = .ok (.ifCond .ne 5, 3) := by decide +kernel
theorem dX5_readCoin_92 : decode cX5_readCoin 92 = .ok (.iconst 0, 1) := by decide +kernel
theorem dX5_readCoin_93 : decode cX5_readCoin 93 = .ok (.ireturn, 1) := by decide +kernel
theorem dX5_readCoin_94 : decode cX5_readCoin 94 = .ok (.aload_n 0, 1) := by decide +kernel
theorem dX5_readCoin_95 : decode cX5_readCoin 95 = .ok (.ldc 174, 2) := by decide +kernel
theorem dX5_readCoin_97 : decode cX5_readCoin 97 = .ok (.invokevirtual 95, 3) := by decide +kernel
theorem dX5_readCoin_100 : decode cX5_readCoin 100 = .ok (.ifCond .eq 18, 3) := by decide +kernel
theorem dX5_readCoin_103 : decode cX5_readCoin 103 = .ok (.aload_n 0, 1) := by decide +kernel
theorem dX5_readCoin_104 : decode cX5_readCoin 104 = .ok (.getfield 12, 3) := by decide +kernel
theorem dX5_readCoin_107 : decode cX5_readCoin 107 = .ok (.getfield 176, 3) := by decide +kernel
theorem dX5_readCoin_110 : decode cX5_readCoin 110 = .ok (.iload_n 1, 1) := by decide +kernel
theorem dX5_readCoin_111 : decode cX5_readCoin 111 = .ok (.iconst 1, 1) := by decide +kernel
theorem dX5_readCoin_112 : decode cX5_readCoin 112 = .ok (.bastore, 1) := by decide +kernel
theorem dX5_readCoin_113 : decode cX5_readCoin 113 = .ok (.aload_n 0, 1) := by decide +kernel
theorem dX5_readCoin_114 : decode cX5_readCoin 114 = .ok (.invokevirtual 133, 3) := by decide +kernel
theorem dX5_readCoin_117 : decode cX5_readCoin 117 = .ok (.ireturn, 1) := by decide +kernel
theorem dX5_readCoin_118 : decode cX5_readCoin 118 = .ok (.aload_n 0, 1) := by decide +kernel
theorem dX5_readCoin_119 : decode cX5_readCoin 119 = .ok (.invokevirtual 90, 3) := by decide +kernel
theorem dX5_readCoin_122 : decode cX5_readCoin 122 = .ok (.ireturn, 1) := by decide +kernel
theorem dX5_readSpend_0 : decode cX5_readSpend 0 = .ok (.aload_n 0, 1) := by decide +kernel
theorem dX5_readSpend_1 : decode cX5_readSpend 1 = .ok (.iconst 0, 1) := by decide +kernel
theorem dX5_readSpend_2 : decode cX5_readSpend 2 = .ok (.iconst 5, 1) := by decide +kernel
theorem dX5_readSpend_3 : decode cX5_readSpend 3 = .ok (.invokevirtual 127, 3) := by decide +kernel
theorem dX5_readSpend_6 : decode cX5_readSpend 6 = .ok (.ifCond .ne 5, 3) := by decide +kernel
theorem dX5_readSpend_9 : decode cX5_readSpend 9 = .ok (.iconst 0, 1) := by decide +kernel
theorem dX5_readSpend_10 : decode cX5_readSpend 10 = .ok (.ireturn, 1) := by decide +kernel
theorem dX5_readSpend_11 : decode cX5_readSpend 11 = .ok (.aload_n 0, 1) := by decide +kernel
theorem dX5_readSpend_12 : decode cX5_readSpend 12 = .ok (.getfield 87, 3) := by decide +kernel
theorem dX5_readSpend_15 : decode cX5_readSpend 15 = .ok (.istore_n 1, 1) := by decide +kernel
theorem dX5_readSpend_16 : decode cX5_readSpend 16 = .ok (.aload_n 0, 1) := by decide +kernel
theorem dX5_readSpend_17 : decode cX5_readSpend 17 = .ok (.getfield 12, 3) := by decide +kernel
theorem dX5_readSpend_20 : decode cX5_readSpend 20 = .ok (.iload_n 1, 1) := by decide +kernel
theorem dX5_readSpend_21 : decode cX5_readSpend 21 = .ok (.invokevirtual 180, 3) := by decide +kernel
theorem dX5_readSpend_24 : decode cX5_readSpend 24 = .ok (.ifCond .eq 13, 3) := by decide +kernel
theorem dX5_readSpend_27 : decode cX5_readSpend 27 = .ok (.aload_n 0, 1) := by decide +kernel
theorem dX5_readSpend_28 : decode cX5_readSpend 28 = .ok (.iconst 4, 1) := by decide +kernel
theorem dX5_readSpend_29 : decode cX5_readSpend 29 = .ok (.aload_n 0, 1) := by decide +kernel
theorem dX5_readSpend_30 : decode cX5_readSpend 30 = .ok (.getfield 63, 3) := by decide +kernel
theorem dX5_readSpend_33 : decode cX5_readSpend 33 = .ok (.invokevirtual 74, 3) := by decide +kernel
theorem dX5_readSpend_36 : decode cX5_readSpend 36 = .ok (.ireturn, 1) := by decide +kernel
theorem dX5_readSpend_37 : decode cX5_readSpend 37 = .ok (.aload_n 0, 1) := by decide +kernel
theorem dX5_readSpend_38 : decode cX5_readSpend 38 = .ok (.iconst 0, 1) := by decide +kernel
theorem dX5_readSpend_39 : decode cX5_readSpend 39 = .ok (.bipush 11, 2) := by decide +kernel
theorem dX5_readSpend_41 : decode cX5_readSpend 41 = .ok (.invokevirtual 127, 3) := by decide +kernel
theorem dX5_readSpend_44 : decode cX5_readSpend 44 = .ok (.ifCond .ne 5, 3) := by decide +kernel
theorem dX5_readSpend_47 : decode cX5_readSpend 47 = .ok (.iconst 0, 1) := by decide +kernel
theorem dX5_readSpend_48 : decode cX5_readSpend 48 = .ok (.ireturn, 1) := by decide +kernel
theorem dX5_readSpend_49 : decode cX5_readSpend 49 = .ok (.aload_n 0, 1) := by decide +kernel
theorem dX5_readSpend_50 : decode cX5_readSpend 50 = .ok (.getfield 12, 3) := by decide +kernel
theorem dX5_readSpend_53 : decode cX5_readSpend 53 = .ok (.getfield 184, 3) := by decide +kernel
theorem dX5_readSpend_56 : decode cX5_readSpend 56 = .ok (.iload_n 1, 1) := by decide +kernel
theorem dX5_readSpend_57 : decode cX5_readSpend 57 = .ok (.aload_n 0, 1) := by decide +kernel
theorem dX5_readSpend_58 : decode cX5_readSpend 58 = .ok (.getfield 87, 3) := by decide +kernel
theorem dX5_readSpend_61 : decode cX5_readSpend 61 = .ok (.iastore, 1) := by decide +kernel
theorem dX5_readSpend_62 : decode cX5_readSpend 62 = .ok (.aload_n 0, 1) := by decide +kernel
theorem dX5_readSpend_63 : decode cX5_readSpend 63 = .ok (.invokevirtual 133, 3) := by decide +kernel
theorem dX5_readSpend_66 : decode cX5_readSpend 66 = .ok (.ireturn, 1) := by decide +kernel
theorem dX5_readTalk_0 : decode cX5_readTalk 0 = .ok (.aload_n 0, 1) := by decide +kernel
theorem dX5_readTalk_1 : decode cX5_readTalk 1 = .ok (.getfield 12, 3) := by decide +kernel
theorem dX5_readTalk_4 : decode cX5_readTalk 4 = .ok (.getfield 187, 3) := by decide +kernel
theorem dX5_readTalk_7 : decode cX5_readTalk 7 = .ok (.bipush 10, 2) := by decide +kernel
theorem dX5_readTalk_9 : decode cX5_readTalk 9 = .ok (.if_icmp .lt 13, 3) := by decide +kernel
theorem dX5_readTalk_12 : decode cX5_readTalk 12 = .ok (.aload_n 0, 1) := by decide +kernel
theorem dX5_readTalk_13 : decode cX5_readTalk 13 = .ok (.iconst 5, 1) := by decide +kernel
theorem dX5_readTalk_14 : decode cX5_readTalk 14 = .ok (.aload_n 0, 1) := by decide +kernel
theorem dX5_readTalk_15 : decode cX5_readTalk 15 = .ok (.getfield 63, 3) := by decide +kernel
theorem dX5_readTalk_18 : decode cX5_readTalk 18 = .ok (.invokevirtual 74, 3) := by decide +kernel
theorem dX5_readTalk_21 : decode cX5_readTalk 21 = .ok (.ireturn, 1) := by decide +kernel
theorem dX5_readTalk_22 : decode cX5_readTalk 22 = .ok (.aload_n 0, 1) := by decide +kernel
theorem dX5_readTalk_23 : decode cX5_readTalk 23 = .ok (.iconst 0, 1) := by decide +kernel
theorem dX5_readTalk_24 : decode cX5_readTalk 24 = .ok (.bipush 11, 2) := by decide +kernel
theorem dX5_readTalk_26 : decode cX5_readTalk 26 = .ok (.invokevirtual 127, 3) := by decide +kernel
theorem dX5_readTalk_29 : decode cX5_readTalk 29 = .ok (.ifCond .ne 5, 3) := by decide +kernel
theorem dX5_readTalk_32 : decode cX5_readTalk 32 = .ok (.iconst 0, 1) := by decide +kernel
theorem dX5_readTalk_33 : decode cX5_readTalk 33 = .ok (.ireturn, 1) := by decide +kernel
theorem dX5_readTalk_34 : decode cX5_readTalk 34 = .ok (.aload_n 0, 1) := by decide +kernel
theorem dX5_readTalk_35 : decode cX5_readTalk 35 = .ok (.getfield 87, 3) := by decide +kernel
theorem dX5_readTalk_38 : decode cX5_readTalk 38 = .ok (.istore_n 1, 1) := by decide +kernel
theorem dX5_readTalk_39 : decode cX5_readTalk 39 = .ok (.aload_n 0, 1) := by decide +kernel
theorem dX5_readTalk_40 : decode cX5_readTalk 40 = .ok (.iconst 0, 1) := by decide +kernel
theorem dX5_readTalk_41 : decode cX5_readTalk 41 = .ok (.iconst 5, 1) := by decide +kernel
theorem dX5_readTalk_42 : decode cX5_readTalk 42 = .ok (.invokevirtual 127, 3) := by decide +kernel
theorem dX5_readTalk_45 : decode cX5_readTalk 45 = .ok (.ifCond .ne 5, 3) := by decide +kernel
theorem dX5_readTalk_48 : decode cX5_readTalk 48 = .ok (.iconst 0, 1) := by decide +kernel
theorem dX5_readTalk_49 : decode cX5_readTalk 49 = .ok (.ireturn, 1) := by decide +kernel
theorem dX5_readTalk_50 : decode cX5_readTalk 50 = .ok (.aload_n 0, 1) := by decide +kernel
theorem dX5_readTalk_51 : decode cX5_readTalk 51 = .ok (.getfield 87, 3) := by decide +kernel
theorem dX5_readTalk_54 : decode cX5_readTalk 54 = .ok (.istore_n 2, 1) := by decide +kernel
theorem dX5_readTalk_55 : decode cX5_readTalk 55 = .ok (.aload_n 0, 1) := by decide +kernel
theorem dX5_readTalk_56 : decode cX5_readTalk 56 = .ok (.iconst 0, 1) := by decide +kernel
theorem dX5_readTalk_57 : decode cX5_readTalk 57 = .ok (.iconst 5, 1) := by decide +kernel
theorem dX5_readTalk_58 : decode cX5_readTalk 58 = .ok (.invokevirtual 127, 3) := by decide +kernel
theorem dX5_readTalk_61 : decode cX5_readTalk 61 = .ok (.ifCond .ne 5, 3) := by decide +kernel
theorem dX5_readTalk_64 : decode cX5_readTalk 64 = .ok (.iconst 0, 1) := by decide +kernel
theorem dX5_readTalk_65 : decode cX5_readTalk 65 = .ok (.ireturn, 1) := by decide +kernel
theorem dX5_readTalk_66 : decode cX5_readTalk 66 = .ok (.aload_n 0, 1) := by decide +kernel
theorem dX5_readTalk_67 : decode cX5_readTalk 67 = .ok (.getfield 87, 3) := by decide +kernel
theorem dX5_readTalk_70 : decode cX5_readTalk 70 = .ok (.iload_n 2, 1) := by decide +kernel
theorem dX5_readTalk_71 : decode cX5_readTalk 71 = .ok (.if_icmp .ne 13, 3) := by decide +kernel
theorem dX5_readTalk_74 : decode cX5_readTalk 74 = .ok (.aload_n 0, 1) := by decide +kernel
theorem dX5_readTalk_75 : decode cX5_readTalk 75 = .ok (.iconst 4, 1) := by decide +kernel
theorem dX5_readTalk_76 : decode cX5_readTalk 76 = .ok (.aload_n 0, 1) := by decide +kernel
theorem dX5_readTalk_77 : decode cX5_readTalk 77 = .ok (.getfield 63, 3) := by decide +kernel
theorem dX5_readTalk_80 : decode cX5_readTalk 80 = .ok (.invokevirtual 74, 3) := by decide +kernel
theorem dX5_readTalk_83 : decode cX5_readTalk 83 = .ok (.ireturn, 1) := by decide +kernel
theorem dX5_readTalk_84 : decode cX5_readTalk 84 = .ok (.aload_n 0, 1) := by decide +kernel
theorem dX5_readTalk_85 : decode cX5_readTalk 85 = .ok (.getfield 12, 3) := by decide +kernel
theorem dX5_readTalk_88 : decode cX5_readTalk 88 = .ok (.iload_n 1, 1) := by decide +kernel
theorem dX5_readTalk_89 : decode cX5_readTalk 89 = .ok (.iload_n 2, 1) := by decide +kernel
theorem dX5_readTalk_90 : decode cX5_readTalk 90 = .ok (.aload_n 0, 1) := by decide +kernel
theorem dX5_readTalk_91 : decode cX5_readTalk 91 = .ok (.getfield 87, 3) := by decide +kernel
theorem dX5_readTalk_94 : decode cX5_readTalk 94 = .ok (.invokevirtual 190, 3) := by decide +kernel
theorem dX5_readTalk_97 : decode cX5_readTalk 97 = .ok (.aload_n 0, 1) := by decide +kernel
theorem dX5_readTalk_98 : decode cX5_readTalk 98 = .ok (.invokevirtual 133, 3) := by decide +kernel
theorem dX5_readTalk_101 : decode cX5_readTalk 101 = .ok (.ireturn, 1) := by decide +kernel
theorem dX5_checkNamed_0 : decode cX5_checkNamed 0 = .ok (.iconst 0, 1) := by decide +kernel
theorem dX5_checkNamed_1 : decode cX5_checkNamed 1 = .ok (.istore_n 1, 1) := by decide +kernel
theorem dX5_checkNamed_2 : decode cX5_checkNamed 2 = .ok (.iload_n 1, 1) := by decide +kernel
theorem dX5_checkNamed_3 : decode cX5_checkNamed 3 = .ok (.bipush 6, 2) := by decide +kernel
theorem dX5_checkNamed_5 : decode cX5_checkNamed 5 = .ok (.if_icmp .ge 70, 3) := by decide +kernel
theorem dX5_checkNamed_8 : decode cX5_checkNamed 8 = .ok (.aload_n 0, 1) := by decide +kernel
theorem dX5_checkNamed_9 : decode cX5_checkNamed 9 = .ok (.getfield 12, 3) := by decide +kernel
theorem dX5_checkNamed_12 : decode cX5_checkNamed 12 = .ok (.iload_n 1, 1) := by decide +kernel
theorem dX5_checkNamed_13 : decode cX5_checkNamed 13 = .ok (.invokevirtual 194, 3) := by decide +kernel
theorem dX5_checkNamed_16 : decode cX5_checkNamed 16 = .ok (.istore_n 2, 1) := by decide +kernel
theorem dX5_checkNamed_17 : decode cX5_checkNamed 17 = .ok (.iload_n 2, 1) := by decide +kernel
theorem dX5_checkNamed_18 : decode cX5_checkNamed 18 = .ok (.ifCond .eq 22, 3) := by decide +kernel
theorem dX5_checkNamed_21 : decode cX5_checkNamed 21 = .ok (.aload_n 0, 1) := by decide +kernel
theorem dX5_checkNamed_22 : decode cX5_checkNamed 22 = .ok (.getfield 12, 3) := by decide +kernel
theorem dX5_checkNamed_25 : decode cX5_checkNamed 25 = .ok (.aload_n 0, 1) := by decide +kernel
theorem dX5_checkNamed_26 : decode cX5_checkNamed 26 = .ok (.getfield 12, 3) := by decide +kernel
theorem dX5_checkNamed_29 : decode cX5_checkNamed 29 = .ok (.getfield 171, 3) := by decide +kernel
theorem dX5_checkNamed_32 : decode cX5_checkNamed 32 = .ok (.iload_n 1, 1) := by decide +kernel
theorem dX5_checkNamed_33 : decode cX5_checkNamed 33 = .ok (.iaload, 1) := by decide +kernel
theorem dX5_checkNamed_34 : decode cX5_checkNamed 34 = .ok (.invokevirtual 197, 3) := by decide +kernel
theorem dX5_checkNamed_37 : decode cX5_checkNamed 37 = .ok (.ifCond .eq 18, 3) := by decide +kernel
theorem dX5_checkNamed_40 : decode cX5_checkNamed 40 = .ok (.iload_n 2, 1) := by decide +kernel
theorem dX5_checkNamed_41 : decode cX5_checkNamed 41 = .ok (.ifCond .ne 28, 3) := by decide +kernel
theorem dX5_checkNamed_44 : decode cX5_checkNamed 44 = .ok (.aload_n 0, 1) := by decide +kernel
theorem dX5_checkNamed_45 : decode cX5_checkNamed 45 = .ok (.getfield 12, 3) := by decide +kernel
theorem dX5_checkNamed_48 : decode cX5_checkNamed 48 = .ok (.iload_n 1, 1) := by decide +kernel
theorem dX5_checkNamed_49 : decode cX5_checkNamed 49 = .ok (.invokevirtual 180, 3) := by decide +kernel
theorem dX5_checkNamed_52 : decode cX5_checkNamed 52 = .ok (.ifCond .eq 17, 3) := by decide +kernel
theorem dX5_checkNamed_55 : decode cX5_checkNamed 55 = .ok (.aload_n 0, 1) := by decide +kernel
theorem dX5_checkNamed_56 : decode cX5_checkNamed 56 = .ok (.bipush 6, 2) := by decide +kernel
theorem dX5_checkNamed_58 : decode cX5_checkNamed 58 = .ok (.aload_n 0, 1) := by decide +kernel
theorem dX5_checkNamed_59 : decode cX5_checkNamed 59 = .ok (.getfield 18, 3) := by decide +kernel
theorem dX5_checkNamed_62 : decode cX5_checkNamed 62 = .ok (.getfield 45, 3) := by decide +kernel
theorem dX5_checkNamed_65 : decode cX5_checkNamed 65 = .ok (.invokevirtual 74, 3) := by decide +kernel
theorem dX5_checkNamed_68 : decode cX5_checkNamed 68 = .ok (.ireturn, 1) := by decide +kernel
theorem dX5_checkNamed_69 : decode cX5_checkNamed 69 = .ok (.iinc 1 1, 3) := by decide +kernel
theorem dX5_checkNamed_72 : decode cX5_checkNamed 72 = .ok (.goto (-70), 3) := by decide +kernel
theorem dX5_checkNamed_75 : decode cX5_checkNamed 75 = .ok (.iconst 0, 1) := by decide +kernel
theorem dX5_checkNamed_76 : decode cX5_checkNamed 76 = .ok (.istore_n 1, 1) := by decide +kernel
theorem dX5_checkNamed_77 : decode cX5_checkNamed 77 = .ok (.iload_n 1, 1) := by decide +kernel
theorem dX5_checkNamed_78 : decode cX5_checkNamed 78 = .ok (.aload_n 0, 1) := by decide +kernel
theorem dX5_checkNamed_79 : decode cX5_checkNamed 79 = .ok (.getfield 12, 3) := by decide +kernel
theorem dX5_checkNamed_82 : decode cX5_checkNamed 82 = .ok (.getfield 187, 3) := by decide +kernel
theorem dX5_checkNamed_85 : decode cX5_checkNamed 85 = .ok (.if_icmp .ge 61, 3) := by decide +kernel
theorem dX5_checkNamed_88 : decode cX5_checkNamed 88 = .ok (.aload_n 0, 1) := by decide +kernel
theorem dX5_checkNamed_89 : decode cX5_checkNamed 89 = .ok (.getfield 12, 3) := by decide +kernel
theorem dX5_checkNamed_92 : decode cX5_checkNamed 92 = .ok (.aload_n 0, 1) := by decide +kernel
theorem dX5_checkNamed_93 : decode cX5_checkNamed 93 = .ok (.getfield 12, 3) := by decide +kernel
theorem dX5_checkNamed_96 : decode cX5_checkNamed 96 = .ok (.getfield 200, 3) := by decide +kernel
theorem dX5_checkNamed_99 : decode cX5_checkNamed 99 = .ok (.iload_n 1, 1) := by decide +kernel
theorem dX5_checkNamed_100 : decode cX5_checkNamed 100 = .ok (.iaload, 1) := by decide +kernel
theorem dX5_checkNamed_101 : decode cX5_checkNamed 101 = .ok (.invokevirtual 197, 3) := by decide +kernel
theorem dX5_checkNamed_104 : decode cX5_checkNamed 104 = .ok (.ifCond .eq 22, 3) := by decide +kernel
theorem dX5_checkNamed_107 : decode cX5_checkNamed 107 = .ok (.aload_n 0, 1) := by decide +kernel
theorem dX5_checkNamed_108 : decode cX5_checkNamed 108 = .ok (.getfield 12, 3) := by decide +kernel
theorem dX5_checkNamed_111 : decode cX5_checkNamed 111 = .ok (.aload_n 0, 1) := by decide +kernel
theorem dX5_checkNamed_112 : decode cX5_checkNamed 112 = .ok (.getfield 12, 3) := by decide +kernel
theorem dX5_checkNamed_115 : decode cX5_checkNamed 115 = .ok (.getfield 203, 3) := by decide +kernel
theorem dX5_checkNamed_118 : decode cX5_checkNamed 118 = .ok (.iload_n 1, 1) := by decide +kernel
theorem dX5_checkNamed_119 : decode cX5_checkNamed 119 = .ok (.iaload, 1) := by decide +kernel
theorem dX5_checkNamed_120 : decode cX5_checkNamed 120 = .ok (.invokevirtual 197, 3) := by decide +kernel
theorem dX5_checkNamed_123 : decode cX5_checkNamed 123 = .ok (.ifCond .ne 17, 3) := by decide +kernel
theorem dX5_checkNamed_126 : decode cX5_checkNamed 126 = .ok (.aload_n 0, 1) := by decide +kernel
theorem dX5_checkNamed_127 : decode cX5_checkNamed 127 = .ok (.bipush 6, 2) := by decide +kernel
theorem dX5_checkNamed_129 : decode cX5_checkNamed 129 = .ok (.aload_n 0, 1) := by decide +kernel
theorem dX5_checkNamed_130 : decode cX5_checkNamed 130 = .ok (.getfield 18, 3) := by decide +kernel
theorem dX5_checkNamed_133 : decode cX5_checkNamed 133 = .ok (.getfield 45, 3) := by decide +kernel
theorem dX5_checkNamed_136 : decode cX5_checkNamed 136 = .ok (.invokevirtual 74, 3) := by decide +kernel
theorem dX5_checkNamed_139 : decode cX5_checkNamed 139 = .ok (.ireturn, 1) := by decide +kernel
theorem dX5_checkNamed_140 : decode cX5_checkNamed 140 = .ok (.iinc 1 1, 3) := by decide +kernel
theorem dX5_checkNamed_143 : decode cX5_checkNamed 143 = .ok (.goto (-66), 3) := by decide +kernel
theorem dX5_checkNamed_146 : decode cX5_checkNamed 146 = .ok (.iconst 1, 1) := by decide +kernel
theorem dX5_checkNamed_147 : decode cX5_checkNamed 147 = .ok (.ireturn, 1) := by decide +kernel
theorem dX6_init_0 : decode cX6_init 0 = .ok (.aload_n 0, 1) := by decide +kernel
theorem dX6_init_1 : decode cX6_init 1 = .ok (.invokespecial 3, 3) := by decide +kernel
theorem dX6_init_4 : decode cX6_init 4 = .ok (.aload_n 0, 1) := by decide +kernel
theorem dX6_init_5 : decode cX6_init 5 = .ok (.bipush 6, 2) := by decide +kernel
theorem dX6_init_7 : decode cX6_init 7 = .ok (.newarray .int, 2) := by decide +kernel
theorem dX6_init_9 : decode cX6_init 9 = .ok (.putfield 9, 3) := by decide +kernel
theorem dX6_init_12 : decode cX6_init 12 = .ok (.aload_n 0, 1) := by decide +kernel
theorem dX6_init_13 : decode cX6_init 13 = .ok (.bipush 6, 2) := by decide +kernel
theorem dX6_init_15 : decode cX6_init 15 = .ok (.newarray .int, 2) := by decide +kernel
theorem dX6_init_17 : decode cX6_init 17 = .ok (.putfield 15, 3) := by decide +kernel
theorem dX6_init_20 : decode cX6_init 20 = .ok (.aload_n 0, 1) := by decide +kernel
theorem dX6_init_21 : decode cX6_init 21 = .ok (.bipush 6, 2) := by decide +kernel
theorem dX6_init_23 : decode cX6_init 23 = .ok (.newarray .int, 2) := by decide +kernel
theorem dX6_init_25 : decode cX6_init 25 = .ok (.putfield 18, 3) := by decide +kernel
theorem dX6_init_28 : decode cX6_init 28 = .ok (.aload_n 0, 1) := by decide +kernel
theorem dX6_init_29 : decode cX6_init 29 = .ok (.bipush 6, 2) := by decide +kernel
theorem dX6_init_31 : decode cX6_init 31 = .ok (.newarray .int, 2) := by decide +kernel
theorem dX6_init_33 : decode cX6_init 33 = .ok (.putfield 21, 3) := by decide +kernel
theorem dX6_init_36 : decode cX6_init 36 = .ok (.aload_n 0, 1) := by decide +kernel
theorem dX6_init_37 : decode cX6_init 37 = .ok (.bipush 6, 2) := by decide +kernel
theorem dX6_init_39 : decode cX6_init 39 = .ok (.newarray .int, 2) := by decide +kernel
theorem dX6_init_41 : decode cX6_init 41 = .ok (.putfield 24, 3) := by decide +kernel
theorem dX6_init_44 : decode cX6_init 44 = .ok (.aload_n 0, 1) := by decide +kernel
theorem dX6_init_45 : decode cX6_init 45 = .ok (.bipush 6, 2) := by decide +kernel
theorem dX6_init_47 : decode cX6_init 47 = .ok (.newarray .boolean, 2) := by decide +kernel
theorem dX6_init_49 : decode cX6_init 49 = .ok (.putfield 27, 3) := by decide +kernel
theorem dX6_init_52 : decode cX6_init 52 = .ok (.aload_n 0, 1) := by decide +kernel
theorem dX6_init_53 : decode cX6_init 53 = .ok (.bipush 6, 2) := by decide +kernel
theorem dX6_init_55 : decode cX6_init 55 = .ok (.newarray .int, 2) := by decide +kernel
theorem dX6_init_57 : decode cX6_init 57 = .ok (.putfield 31, 3) := by decide +kernel
theorem dX6_init_60 : decode cX6_init 60 = .ok (.aload_n 0, 1) := by decide +kernel
theorem dX6_init_61 : decode cX6_init 61 = .ok (.bipush 10, 2) := by decide +kernel
theorem dX6_init_63 : decode cX6_init 63 = .ok (.newarray .int, 2) := by decide +kernel
theorem dX6_init_65 : decode cX6_init 65 = .ok (.putfield 34, 3) := by decide +kernel
theorem dX6_init_68 : decode cX6_init 68 = .ok (.aload_n 0, 1) := by decide +kernel
theorem dX6_init_69 : decode cX6_init 69 = .ok (.bipush 10, 2) := by decide +kernel
theorem dX6_init_71 : decode cX6_init 71 = .ok (.newarray .int, 2) := by decide +kernel
theorem dX6_init_73 : decode cX6_init 73 = .ok (.putfield 37, 3) := by decide +kernel
theorem dX6_init_76 : decode cX6_init 76 = .ok (.aload_n 0, 1) := by decide +kernel
theorem dX6_init_77 : decode cX6_init 77 = .ok (.bipush 10, 2) := by decide +kernel
theorem dX6_init_79 : decode cX6_init 79 = .ok (.newarray .int, 2) := by decide +kernel
theorem dX6_init_81 : decode cX6_init 81 = .ok (.putfield 40, 3) := by decide +kernel
theorem dX6_init_84 : decode cX6_init 84 = .ok (.aload_n 0, 1) := by decide +kernel
theorem dX6_init_85 : decode cX6_init 85 = .ok (.invokevirtual 43, 3) := by decide +kernel
theorem dX6_init_88 : decode cX6_init 88 = .ok (.return_, 1) := by decide +kernel
theorem dX6_clear_0 : decode cX6_clear 0 = .ok (.aload_n 0, 1) := by decide +kernel
theorem dX6_clear_1 : decode cX6_clear 1 = .ok (.iconst 0, 1) := by decide +kernel
theorem dX6_clear_2 : decode cX6_clear 2 = .ok (.putfield 46, 3) := by decide +kernel
theorem dX6_clear_5 : decode cX6_clear 5 = .ok (.aload_n 0, 1) := by decide +kernel
theorem dX6_clear_6 : decode cX6_clear 6 = .ok (.iconst 0, 1) := by decide +kernel
theorem dX6_clear_7 : decode cX6_clear 7 = .ok (.putfield 50, 3) := by decide +kernel
theorem dX6_clear_10 : decode cX6_clear 10 = .ok (.aload_n 0, 1) := by decide +kernel
theorem dX6_clear_11 : decode cX6_clear 11 = .ok (.iconst 0, 1) := by decide +kernel
theorem dX6_clear_12 : decode cX6_clear 12 = .ok (.putfield 53, 3) := by decide +kernel
theorem dX6_clear_15 : decode cX6_clear 15 = .ok (.aload_n 0, 1) := by decide +kernel
theorem dX6_clear_16 : decode cX6_clear 16 = .ok (.iconst 0, 1) := by decide +kernel
theorem dX6_clear_17 : decode cX6_clear 17 = .ok (.putfield 56, 3) := by decide +kernel
theorem dX6_clear_20 : decode cX6_clear 20 = .ok (.aload_n 0, 1) := by decide +kernel
theorem dX6_clear_21 : decode cX6_clear 21 = .ok (.iconst 1, 1) := by decide +kernel
theorem dX6_clear_22 : decode cX6_clear 22 = .ok (.putfield 59, 3) := by decide +kernel
theorem dX6_clear_25 : decode cX6_clear 25 = .ok (.iconst 0, 1) := by decide +kernel
theorem dX6_clear_26 : decode cX6_clear 26 = .ok (.istore_n 1, 1) := by decide +kernel
theorem dX6_clear_27 : decode cX6_clear 27 = .ok (.iload_n 1, 1) := by decide +kernel
theorem dX6_clear_28 : decode cX6_clear 28 = .ok (.bipush 6, 2) := by decide +kernel
theorem dX6_clear_30 : decode cX6_clear 30 = .ok (.if_icmp .ge 24, 3) := by decide +kernel
theorem dX6_clear_33 : decode cX6_clear 33 = .ok (.aload_n 0, 1) := by decide +kernel
theorem dX6_clear_34 : decode cX6_clear 34 = .ok (.getfield 27, 3) := by decide +kernel
theorem dX6_clear_37 : decode cX6_clear 37 = .ok (.iload_n 1, 1) := by decide +kernel
theorem dX6_clear_38 : decode cX6_clear 38 = .ok (.iconst 0, 1) := by decide +kernel
theorem dX6_clear_39 : decode cX6_clear 39 = .ok (.bastore, 1) := by decide +kernel
theorem dX6_clear_40 : decode cX6_clear 40 = .ok (.aload_n 0, 1) := by decide +kernel
theorem dX6_clear_41 : decode cX6_clear 41 = .ok (.getfield 31, 3) := by decide +kernel
theorem dX6_clear_44 : decode cX6_clear 44 = .ok (.iload_n 1, 1) := by decide +kernel
theorem dX6_clear_45 : decode cX6_clear 45 = .ok (.bipush (-4), 2) := by decide +kernel
theorem dX6_clear_47 : decode cX6_clear 47 = .ok (.iastore, 1) := by decide +kernel
theorem dX6_clear_48 : decode cX6_clear 48 = .ok (.iinc 1 1, 3) := by decide +kernel
theorem dX6_clear_51 : decode cX6_clear 51 = .ok (.goto (-24), 3) := by decide +kernel
theorem dX6_clear_54 : decode cX6_clear 54 = .ok (.return_, 1) := by decide +kernel
theorem dX6_copyFrom_0 : decode cX6_copyFrom 0 = .ok (.aload_n 0, 1) := by decide +kernel
theorem dX6_copyFrom_1 : decode cX6_copyFrom 1 = .ok (.aload_n 1, 1) := by decide +kernel
theorem dX6_copyFrom_2 : decode cX6_copyFrom 2 = .ok (.getfield 46, 3) := by decide +kernel
theorem dX6_copyFrom_5 : decode cX6_copyFrom 5 = .ok (.putfield 46, 3) := by decide +kernel
theorem dX6_copyFrom_8 : decode cX6_copyFrom 8 = .ok (.aload_n 1, 1) := by decide +kernel
theorem dX6_copyFrom_9 : decode cX6_copyFrom 9 = .ok (.getfield 9, 3) := by decide +kernel
theorem dX6_copyFrom_12 : decode cX6_copyFrom 12 = .ok (.iconst 0, 1) := by decide +kernel
theorem dX6_copyFrom_13 : decode cX6_copyFrom 13 = .ok (.aload_n 0, 1) := by decide +kernel
theorem dX6_copyFrom_14 : decode cX6_copyFrom 14 = .ok (.getfield 9, 3) := by decide +kernel
theorem dX6_copyFrom_17 : decode cX6_copyFrom 17 = .ok (.iconst 0, 1) := by decide +kernel
theorem dX6_copyFrom_18 : decode cX6_copyFrom 18 = .ok (.bipush 6, 2) := by decide +kernel
theorem dX6_copyFrom_20 : decode cX6_copyFrom 20 = .ok (.invokestatic 62, 3) := by decide +kernel
theorem dX6_copyFrom_23 : decode cX6_copyFrom 23 = .ok (.aload_n 1, 1) := by decide +kernel
theorem dX6_copyFrom_24 : decode cX6_copyFrom 24 = .ok (.getfield 15, 3) := by decide +kernel
theorem dX6_copyFrom_27 : decode cX6_copyFrom 27 = .ok (.iconst 0, 1) := by decide +kernel
theorem dX6_copyFrom_28 : decode cX6_copyFrom 28 = .ok (.aload_n 0, 1) := by decide +kernel
theorem dX6_copyFrom_29 : decode cX6_copyFrom 29 = .ok (.getfield 15, 3) := by decide +kernel
theorem dX6_copyFrom_32 : decode cX6_copyFrom 32 = .ok (.iconst 0, 1) := by decide +kernel
theorem dX6_copyFrom_33 : decode cX6_copyFrom 33 = .ok (.bipush 6, 2) := by decide +kernel
theorem dX6_copyFrom_35 : decode cX6_copyFrom 35 = .ok (.invokestatic 62, 3) := by decide +kernel
theorem dX6_copyFrom_38 : decode cX6_copyFrom 38 = .ok (.aload_n 1, 1) := by decide +kernel
theorem dX6_copyFrom_39 : decode cX6_copyFrom 39 = .ok (.getfield 18, 3) := by decide +kernel
theorem dX6_copyFrom_42 : decode cX6_copyFrom 42 = .ok (.iconst 0, 1) := by decide +kernel
theorem dX6_copyFrom_43 : decode cX6_copyFrom 43 = .ok (.aload_n 0, 1) := by decide +kernel
theorem dX6_copyFrom_44 : decode cX6_copyFrom 44 = .ok (.getfield 18, 3) := by decide +kernel
theorem dX6_copyFrom_47 : decode cX6_copyFrom 47 = .ok (.iconst 0, 1) := by decide +kernel
theorem dX6_copyFrom_48 : decode cX6_copyFrom 48 = .ok (.bipush 6, 2) := by decide +kernel
theorem dX6_copyFrom_50 : decode cX6_copyFrom 50 = .ok (.invokestatic 62, 3) := by decide +kernel
theorem dX6_copyFrom_53 : decode cX6_copyFrom 53 = .ok (.aload_n 0, 1) := by decide +kernel
theorem dX6_copyFrom_54 : decode cX6_copyFrom 54 = .ok (.aload_n 1, 1) := by decide +kernel
theorem dX6_copyFrom_55 : decode cX6_copyFrom 55 = .ok (.getfield 50, 3) := by decide +kernel
theorem dX6_copyFrom_58 : decode cX6_copyFrom 58 = .ok (.putfield 50, 3) := by decide +kernel
theorem dX6_copyFrom_61 : decode cX6_copyFrom 61 = .ok (.aload_n 1, 1) := by decide +kernel
theorem dX6_copyFrom_62 : decode cX6_copyFrom 62 = .ok (.getfield 21, 3) := by decide +kernel
theorem dX6_copyFrom_65 : decode cX6_copyFrom 65 = .ok (.iconst 0, 1) := by decide +kernel
theorem dX6_copyFrom_66 : decode cX6_copyFrom 66 = .ok (.aload_n 0, 1) := by decide +kernel
theorem dX6_copyFrom_67 : decode cX6_copyFrom 67 = .ok (.getfield 21, 3) := by decide +kernel
theorem dX6_copyFrom_70 : decode cX6_copyFrom 70 = .ok (.iconst 0, 1) := by decide +kernel
theorem dX6_copyFrom_71 : decode cX6_copyFrom 71 = .ok (.bipush 6, 2) := by decide +kernel
theorem dX6_copyFrom_73 : decode cX6_copyFrom 73 = .ok (.invokestatic 62, 3) := by decide +kernel
theorem dX6_copyFrom_76 : decode cX6_copyFrom 76 = .ok (.aload_n 1, 1) := by decide +kernel
theorem dX6_copyFrom_77 : decode cX6_copyFrom 77 = .ok (.getfield 24, 3) := by decide +kernel
theorem dX6_copyFrom_80 : decode cX6_copyFrom 80 = .ok (.iconst 0, 1) := by decide +kernel
theorem dX6_copyFrom_81 : decode cX6_copyFrom 81 = .ok (.aload_n 0, 1) := by decide +kernel
theorem dX6_copyFrom_82 : decode cX6_copyFrom 82 = .ok (.getfield 24, 3) := by decide +kernel
theorem dX6_copyFrom_85 : decode cX6_copyFrom 85 = .ok (.iconst 0, 1) := by decide +kernel
theorem dX6_copyFrom_86 : decode cX6_copyFrom 86 = .ok (.bipush 6, 2) := by decide +kernel
theorem dX6_copyFrom_88 : decode cX6_copyFrom 88 = .ok (.invokestatic 62, 3) := by decide +kernel
theorem dX6_copyFrom_91 : decode cX6_copyFrom 91 = .ok (.aload_n 1, 1) := by decide +kernel
theorem dX6_copyFrom_92 : decode cX6_copyFrom 92 = .ok (.getfield 31, 3) := by decide +kernel
theorem dX6_copyFrom_95 : decode cX6_copyFrom 95 = .ok (.iconst 0, 1) := by decide +kernel
theorem dX6_copyFrom_96 : decode cX6_copyFrom 96 = .ok (.aload_n 0, 1) := by decide +kernel
theorem dX6_copyFrom_97 : decode cX6_copyFrom 97 = .ok (.getfield 31, 3) := by decide +kernel
theorem dX6_copyFrom_100 : decode cX6_copyFrom 100 = .ok (.iconst 0, 1) := by decide +kernel
theorem dX6_copyFrom_101 : decode cX6_copyFrom 101 = .ok (.bipush 6, 2) := by decide +kernel
theorem dX6_copyFrom_103 : decode cX6_copyFrom 103 = .ok (.invokestatic 62, 3) := by decide +kernel
theorem dX6_copyFrom_106 : decode cX6_copyFrom 106 = .ok (.iconst 0, 1) := by decide +kernel
theorem dX6_copyFrom_107 : decode cX6_copyFrom 107 = .ok (.istore_n 2, 1) := by decide +kernel
theorem dX6_copyFrom_108 : decode cX6_copyFrom 108 = .ok (.iload_n 2, 1) := by decide +kernel
theorem dX6_copyFrom_109 : decode cX6_copyFrom 109 = .ok (.bipush 6, 2) := by decide +kernel
theorem dX6_copyFrom_111 : decode cX6_copyFrom 111 = .ok (.if_icmp .ge 21, 3) := by decide +kernel
theorem dX6_copyFrom_114 : decode cX6_copyFrom 114 = .ok (.aload_n 0, 1) := by decide +kernel
theorem dX6_copyFrom_115 : decode cX6_copyFrom 115 = .ok (.getfield 27, 3) := by decide +kernel
theorem dX6_copyFrom_118 : decode cX6_copyFrom 118 = .ok (.iload_n 2, 1) := by decide +kernel
theorem dX6_copyFrom_119 : decode cX6_copyFrom 119 = .ok (.aload_n 1, 1) := by decide +kernel
theorem dX6_copyFrom_120 : decode cX6_copyFrom 120 = .ok (.getfield 27, 3) := by decide +kernel
theorem dX6_copyFrom_123 : decode cX6_copyFrom 123 = .ok (.iload_n 2, 1) := by decide +kernel
theorem dX6_copyFrom_124 : decode cX6_copyFrom 124 = .ok (.baload, 1) := by decide +kernel
theorem dX6_copyFrom_125 : decode cX6_copyFrom 125 = .ok (.bastore, 1) := by decide +kernel
theorem dX6_copyFrom_126 : decode cX6_copyFrom 126 = .ok (.iinc 2 1, 3) := by decide +kernel
theorem dX6_copyFrom_129 : decode cX6_copyFrom 129 = .ok (.goto (-21), 3) := by decide +kernel
theorem dX6_copyFrom_132 : decode cX6_copyFrom 132 = .ok (.aload_n 0, 1) := by decide +kernel
theorem dX6_copyFrom_133 : decode cX6_copyFrom 133 = .ok (.aload_n 1, 1) := by decide +kernel
theorem dX6_copyFrom_134 : decode cX6_copyFrom 134 = .ok (.getfield 53, 3) := by decide +kernel
theorem dX6_copyFrom_137 : decode cX6_copyFrom 137 = .ok (.putfield 53, 3) := by decide +kernel
theorem dX6_copyFrom_140 : decode cX6_copyFrom 140 = .ok (.aload_n 1, 1) := by decide +kernel
theorem dX6_copyFrom_141 : decode cX6_copyFrom 141 = .ok (.getfield 34, 3) := by decide +kernel
theorem dX6_copyFrom_144 : decode cX6_copyFrom 144 = .ok (.iconst 0, 1) := by decide +kernel
theorem dX6_copyFrom_145 : decode cX6_copyFrom 145 = .ok (.aload_n 0, 1) := by decide +kernel
theorem dX6_copyFrom_146 : decode cX6_copyFrom 146 = .ok (.getfield 34, 3) := by decide +kernel
theorem dX6_copyFrom_149 : decode cX6_copyFrom 149 = .ok (.iconst 0, 1) := by decide +kernel
theorem dX6_copyFrom_150 : decode cX6_copyFrom 150 = .ok (.bipush 10, 2) := by decide +kernel
theorem dX6_copyFrom_152 : decode cX6_copyFrom 152 = .ok (.invokestatic 62, 3) := by decide +kernel
theorem dX6_copyFrom_155 : decode cX6_copyFrom 155 = .ok (.aload_n 1, 1) := by decide +kernel
theorem dX6_copyFrom_156 : decode cX6_copyFrom 156 = .ok (.getfield 37, 3) := by decide +kernel
theorem dX6_copyFrom_159 : decode cX6_copyFrom 159 = .ok (.iconst 0, 1) := by decide +kernel
theorem dX6_copyFrom_160 : decode cX6_copyFrom 160 = .ok (.aload_n 0, 1) := by decide +kernel
theorem dX6_copyFrom_161 : decode cX6_copyFrom 161 = .ok (.getfield 37, 3) := by decide +kernel
theorem dX6_copyFrom_164 : decode cX6_copyFrom 164 = .ok (.iconst 0, 1) := by decide +kernel
theorem dX6_copyFrom_165 : decode cX6_copyFrom 165 = .ok (.bipush 10, 2) := by decide +kernel
theorem dX6_copyFrom_167 : decode cX6_copyFrom 167 = .ok (.invokestatic 62, 3) := by decide +kernel
theorem dX6_copyFrom_170 : decode cX6_copyFrom 170 = .ok (.aload_n 1, 1) := by decide +kernel
theorem dX6_copyFrom_171 : decode cX6_copyFrom 171 = .ok (.getfield 40, 3) := by decide +kernel
theorem dX6_copyFrom_174 : decode cX6_copyFrom 174 = .ok (.iconst 0, 1) := by decide +kernel
theorem dX6_copyFrom_175 : decode cX6_copyFrom 175 = .ok (.aload_n 0, 1) := by decide +kernel
theorem dX6_copyFrom_176 : decode cX6_copyFrom 176 = .ok (.getfield 40, 3) := by decide +kernel
theorem dX6_copyFrom_179 : decode cX6_copyFrom 179 = .ok (.iconst 0, 1) := by decide +kernel
theorem dX6_copyFrom_180 : decode cX6_copyFrom 180 = .ok (.bipush 10, 2) := by decide +kernel
theorem dX6_copyFrom_182 : decode cX6_copyFrom 182 = .ok (.invokestatic 62, 3) := by decide +kernel
theorem dX6_copyFrom_185 : decode cX6_copyFrom 185 = .ok (.aload_n 0, 1) := by decide +kernel
theorem dX6_copyFrom_186 : decode cX6_copyFrom 186 = .ok (.aload_n 1, 1) := by decide +kernel
theorem dX6_copyFrom_187 : decode cX6_copyFrom 187 = .ok (.getfield 56, 3) := by decide +kernel
theorem dX6_copyFrom_190 : decode cX6_copyFrom 190 = .ok (.putfield 56, 3) := by decide +kernel
theorem dX6_copyFrom_193 : decode cX6_copyFrom 193 = .ok (.aload_n 0, 1) := by decide +kernel
theorem dX6_copyFrom_194 : decode cX6_copyFrom 194 = .ok (.aload_n 1, 1) := by decide +kernel
theorem dX6_copyFrom_195 : decode cX6_copyFrom 195 = .ok (.getfield 59, 3) := by decide +kernel
theorem dX6_copyFrom_198 : decode cX6_copyFrom 198 = .ok (.putfield 59, 3) := by decide +kernel
theorem dX6_copyFrom_201 : decode cX6_copyFrom 201 = .ok (.return_, 1) := by decide +kernel
theorem dX6_hasOne_0 : decode cX6_hasOne 0 = .ok (.iload_n 1, 1) := by decide +kernel
theorem dX6_hasOne_1 : decode cX6_hasOne 1 = .ok (.ifCond .lt 15, 3) := by decide +kernel
theorem dX6_hasOne_4 : decode cX6_hasOne 4 = .ok (.iload_n 1, 1) := by decide +kernel
theorem dX6_hasOne_5 : decode cX6_hasOne 5 = .ok (.aload_n 0, 1) := by decide +kernel
theorem dX6_hasOne_6 : decode cX6_hasOne 6 = .ok (.getfield 46, 3) := by decide +kernel
theorem dX6_hasOne_9 : decode cX6_hasOne 9 = .ok (.if_icmp .ge 7, 3) := by decide +kernel
theorem dX6_hasOne_12 : decode cX6_hasOne 12 = .ok (.iconst 1, 1) := by decide +kernel
theorem dX6_hasOne_13 : decode cX6_hasOne 13 = .ok (.goto 4, 3) := by decide +kernel
theorem dX6_hasOne_16 : decode cX6_hasOne 16 = .ok (.iconst 0, 1) := by decide +kernel
theorem dX6_hasOne_17 : decode cX6_hasOne 17 = .ok (.ireturn, 1) := by decide +kernel
theorem dX6_hasCoin_0 : decode cX6_hasCoin 0 = .ok (.iload_n 1, 1) := by decide +kernel
theorem dX6_hasCoin_1 : decode cX6_hasCoin 1 = .ok (.ifCond .lt 15, 3) := by decide +kernel
theorem dX6_hasCoin_4 : decode cX6_hasCoin 4 = .ok (.iload_n 1, 1) := by decide +kernel
theorem dX6_hasCoin_5 : decode cX6_hasCoin 5 = .ok (.aload_n 0, 1) := by decide +kernel
theorem dX6_hasCoin_6 : decode cX6_hasCoin 6 = .ok (.getfield 50, 3) := by decide +kernel
theorem dX6_hasCoin_9 : decode cX6_hasCoin 9 = .ok (.if_icmp .ge 7, 3) := by decide +kernel
theorem dX6_hasCoin_12 : decode cX6_hasCoin 12 = .ok (.iconst 1, 1) := by decide +kernel
theorem dX6_hasCoin_13 : decode cX6_hasCoin 13 = .ok (.goto 4, 3) := by decide +kernel
theorem dX6_hasCoin_16 : decode cX6_hasCoin 16 = .ok (.iconst 0, 1) := by decide +kernel
theorem dX6_hasCoin_17 : decode cX6_hasCoin 17 = .ok (.ireturn, 1) := by decide +kernel
theorem dX6_isSpent_0 : decode cX6_isSpent 0 = .ok (.aload_n 0, 1) := by decide +kernel
theorem dX6_isSpent_1 : decode cX6_isSpent 1 = .ok (.getfield 31, 3) := by decide +kernel
theorem dX6_isSpent_4 : decode cX6_isSpent 4 = .ok (.iload_n 1, 1) := by decide +kernel
theorem dX6_isSpent_5 : decode cX6_isSpent 5 = .ok (.iaload, 1) := by decide +kernel
theorem dX6_isSpent_6 : decode cX6_isSpent 6 = .ok (.bipush (-4), 2) := by decide +kernel
theorem dX6_isSpent_8 : decode cX6_isSpent 8 = .ok (.if_icmp .eq 7, 3) := by decide +kernel
theorem dX6_isSpent_11 : decode cX6_isSpent 11 = .ok (.iconst 1, 1) := by decide +kernel
theorem dX6_isSpent_12 : decode cX6_isSpent 12 = .ok (.goto 4, 3) := by decide +kernel
theorem dX6_isSpent_15 : decode cX6_isSpent 15 = .ok (.iconst 0, 1) := by decide +kernel
theorem dX6_isSpent_16 : decode cX6_isSpent 16 = .ok (.ireturn, 1) := by decide +kernel
theorem dX6_canTalk_0 : decode cX6_canTalk 0 = .ok (.iload_n 1, 1) := by decide +kernel
theorem dX6_canTalk_1 : decode cX6_canTalk 1 = .ok (.invokestatic 68, 3) := by decide +kernel
theorem dX6_canTalk_4 : decode cX6_canTalk 4 = .ok (.ifCond .eq 28, 3) := by decide +kernel
theorem dX6_canTalk_7 : decode cX6_canTalk 7 = .ok (.aload_n 0, 1) := by decide +kernel
theorem dX6_canTalk_8 : decode cX6_canTalk 8 = .ok (.iload_n 2, 1) := by decide +kernel
theorem dX6_canTalk_9 : decode cX6_canTalk 9 = .ok (.invokevirtual 72, 3) := by decide +kernel
theorem dX6_canTalk_12 : decode cX6_canTalk 12 = .ok (.ifCond .eq 20, 3) := by decide +kernel
theorem dX6_canTalk_15 : decode cX6_canTalk 15 = .ok (.aload_n 0, 1) := by decide +kernel
theorem dX6_canTalk_16 : decode cX6_canTalk 16 = .ok (.iload_n 3, 1) := by decide +kernel
theorem dX6_canTalk_17 : decode cX6_canTalk 17 = .ok (.invokevirtual 72, 3) := by decide +kernel
theorem dX6_canTalk_20 : decode cX6_canTalk 20 = .ok (.ifCond .eq 12, 3) := by decide +kernel
theorem dX6_canTalk_23 : decode cX6_canTalk 23 = .ok (.iload_n 2, 1) := by decide +kernel
theorem dX6_canTalk_24 : decode cX6_canTalk 24 = .ok (.iload_n 3, 1) := by decide +kernel
theorem dX6_canTalk_25 : decode cX6_canTalk 25 = .ok (.if_icmp .eq 7, 3) := by decide +kernel
theorem dX6_canTalk_28 : decode cX6_canTalk 28 = .ok (.iconst 1, 1) := by decide +kernel
theorem dX6_canTalk_29 : decode cX6_canTalk 29 = .ok (.goto 4, 3) := by decide +kernel
theorem dX6_canTalk_32 : decode cX6_canTalk 32 = .ok (.iconst 0, 1) := by decide +kernel
theorem dX6_canTalk_33 : decode cX6_canTalk 33 = .ok (.ireturn, 1) := by decide +kernel
theorem dX6_addTalk_0 : decode cX6_addTalk 0 = .ok (.aload_n 0, 1) := by decide +kernel
theorem dX6_addTalk_1 : decode cX6_addTalk 1 = .ok (.iload_n 1, 1) := by decide +kernel
theorem dX6_addTalk_2 : decode cX6_addTalk 2 = .ok (.iload_n 2, 1) := by decide +kernel
theorem dX6_addTalk_3 : decode cX6_addTalk 3 = .ok (.iload_n 3, 1) := by decide +kernel
theorem dX6_addTalk_4 : decode cX6_addTalk 4 = .ok (.invokevirtual 75, 3) := by decide +kernel
theorem dX6_addTalk_7 : decode cX6_addTalk 7 = .ok (.ifCond .ne 5, 3) := by decide +kernel
theorem dX6_addTalk_10 : decode cX6_addTalk 10 = .ok (.iconst (-1), 1) := by decide +kernel
theorem dX6_addTalk_11 : decode cX6_addTalk 11 = .ok (.ireturn, 1) := by decide +kernel
theorem dX6_addTalk_12 : decode cX6_addTalk 12 = .ok (.aload_n 0, 1) := by decide +kernel
theorem dX6_addTalk_13 : decode cX6_addTalk 13 = .ok (.getfield 53, 3) := by decide +kernel
theorem dX6_addTalk_16 : decode cX6_addTalk 16 = .ok (.bipush 10, 2) := by decide +kernel
theorem dX6_addTalk_18 : decode cX6_addTalk 18 = .ok (.if_icmp .lt 6, 3) := by decide +kernel
theorem dX6_addTalk_21 : decode cX6_addTalk 21 = .ok (.bipush (-3), 2) := by decide +kernel
theorem dX6_addTalk_23 : decode cX6_addTalk 23 = .ok (.ireturn, 1) := by decide +kernel
theorem dX6_addTalk_24 : decode cX6_addTalk 24 = .ok (.aload_n 0, 1) := by decide +kernel
theorem dX6_addTalk_25 : decode cX6_addTalk 25 = .ok (.iload_n 1, 1) := by decide +kernel
theorem dX6_addTalk_26 : decode cX6_addTalk 26 = .ok (.iload_n 2, 1) := by decide +kernel
theorem dX6_addTalk_27 : decode cX6_addTalk 27 = .ok (.iload_n 3, 1) := by decide +kernel
theorem dX6_addTalk_28 : decode cX6_addTalk 28 = .ok (.invokevirtual 79, 3) := by decide +kernel
theorem dX6_addTalk_31 : decode cX6_addTalk 31 = .ok (.aload_n 0, 1) := by decide +kernel
theorem dX6_addTalk_32 : decode cX6_addTalk 32 = .ok (.getfield 53, 3) := by decide +kernel
theorem dX6_addTalk_35 : decode cX6_addTalk 35 = .ok (.ireturn, 1) := by decide +kernel
theorem dX6_putTalk_0 : decode cX6_putTalk 0 = .ok (.aload_n 0, 1) := by decide +kernel
theorem dX6_putTalk_1 : decode cX6_putTalk 1 = .ok (.getfield 53, 3) := by decide +kernel
theorem dX6_putTalk_4 : decode cX6_putTalk 4 = .ok (.bipush 10, 2) := by decide +kernel
theorem dX6_putTalk_6 : decode cX6_putTalk 6 = .ok (.if_icmp .ge 43, 3) := by decide +kernel
theorem dX6_putTalk_9 : decode cX6_putTalk 9 = .ok (.aload_n 0, 1) := by decide +kernel
theorem dX6_putTalk_10 : decode cX6_putTalk 10 = .ok (.getfield 34, 3) := by decide +kernel
theorem dX6_putTalk_13 : decode cX6_putTalk 13 = .ok (.aload_n 0, 1) := by decide +kernel
theorem dX6_putTalk_14 : decode cX6_putTalk 14 = .ok (.getfield 53, 3) := by decide +kernel
theorem dX6_putTalk_17 : decode cX6_putTalk 17 = .ok (.iload_n 1, 1) := by decide +kernel
theorem dX6_putTalk_18 : decode cX6_putTalk 18 = .ok (.iastore, 1) := by decide +kernel
theorem dX6_putTalk_19 : decode cX6_putTalk 19 = .ok (.aload_n 0, 1) := by decide +kernel
theorem dX6_putTalk_20 : decode cX6_putTalk 20 = .ok (.getfield 37, 3) := by decide +kernel
theorem dX6_putTalk_23 : decode cX6_putTalk 23 = .ok (.aload_n 0, 1) := by decide +kernel
theorem dX6_putTalk_24 : decode cX6_putTalk 24 = .ok (.getfield 53, 3) := by decide +kernel
theorem dX6_putTalk_27 : decode cX6_putTalk 27 = .ok (.iload_n 2, 1) := by decide +kernel
theorem dX6_putTalk_28 : decode cX6_putTalk 28 = .ok (.iastore, 1) := by decide +kernel
theorem dX6_putTalk_29 : decode cX6_putTalk 29 = .ok (.aload_n 0, 1) := by decide +kernel
theorem dX6_putTalk_30 : decode cX6_putTalk 30 = .ok (.getfield 40, 3) := by decide +kernel
theorem dX6_putTalk_33 : decode cX6_putTalk 33 = .ok (.aload_n 0, 1) := by decide +kernel
theorem dX6_putTalk_34 : decode cX6_putTalk 34 = .ok (.getfield 53, 3) := by decide +kernel
theorem dX6_putTalk_37 : decode cX6_putTalk 37 = .ok (.iload_n 3, 1) := by decide +kernel
theorem dX6_putTalk_38 : decode cX6_putTalk 38 = .ok (.iastore, 1) := by decide +kernel
theorem dX6_putTalk_39 : decode cX6_putTalk 39 = .ok (.aload_n 0, 1) := by decide +kernel
theorem dX6_putTalk_40 : decode cX6_putTalk 40 = .ok (.dup, 1) := by decide +kernel
theorem dX6_putTalk_41 : decode cX6_putTalk 41 = .ok (.getfield 53, 3) := by decide +kernel
theorem dX6_putTalk_44 : decode cX6_putTalk 44 = .ok (.iconst 1, 1) := by decide +kernel
theorem dX6_putTalk_45 : decode cX6_putTalk 45 = .ok (.iadd, 1) := by decide +kernel
theorem dX6_putTalk_46 : decode cX6_putTalk 46 = .ok (.putfield 53, 3) := by decide +kernel
theorem dX6_putTalk_49 : decode cX6_putTalk 49 = .ok (.return_, 1) := by decide +kernel
theorem dX6_lengthBy_0 : decode cX6_lengthBy 0 = .ok (.aload_n 0, 1) := by decide +kernel
theorem dX6_lengthBy_1 : decode cX6_lengthBy 1 = .ok (.getfield 27, 3) := by decide +kernel
theorem dX6_lengthBy_4 : decode cX6_lengthBy 4 = .ok (.iload_n 1, 1) := by decide +kernel
theorem dX6_lengthBy_5 : decode cX6_lengthBy 5 = .ok (.baload, 1) := by decide +kernel
theorem dX6_lengthBy_6 : decode cX6_lengthBy 6 = .ok (.ifCond .eq 18, 3) := by decide +kernel
theorem dX6_lengthBy_9 : decode cX6_lengthBy 9 = .ok (.iconst 1, 1) := by decide +kernel
theorem dX6_lengthBy_10 : decode cX6_lengthBy 10 = .ok (.aload_n 0, 1) := by decide +kernel
theorem dX6_lengthBy_11 : decode cX6_lengthBy 11 = .ok (.getfield 21, 3) := by decide +kernel
theorem dX6_lengthBy_14 : decode cX6_lengthBy 14 = .ok (.iload_n 1, 1) := by decide +kernel
theorem dX6_lengthBy_15 : decode cX6_lengthBy 15 = .ok (.iaload, 1) := by decide +kernel
theorem dX6_lengthBy_16 : decode cX6_lengthBy 16 = .ok (.iconst 1, 1) := by decide +kernel
theorem dX6_lengthBy_17 : decode cX6_lengthBy 17 = .ok (.isub, 1) := by decide +kernel
theorem dX6_lengthBy_18 : decode cX6_lengthBy 18 = .ok (.invokestatic 83, 3) := by decide +kernel
theorem dX6_lengthBy_21 : decode cX6_lengthBy 21 = .ok (.goto 9, 3) := by decide +kernel
theorem dX6_lengthBy_24 : decode cX6_lengthBy 24 = .ok (.aload_n 0, 1) := by decide +kernel
theorem dX6_lengthBy_25 : decode cX6_lengthBy 25 = .ok (.getfield 21, 3) := by decide +kernel
theorem dX6_lengthBy_28 : decode cX6_lengthBy 28 = .ok (.iload_n 1, 1) := by decide +kernel
theorem dX6_lengthBy_29 : decode cX6_lengthBy 29 = .ok (.iaload, 1) := by decide +kernel
theorem dX6_lengthBy_30 : decode cX6_lengthBy 30 = .ok (.istore_n 3, 1) := by decide +kernel
theorem dX6_lengthBy_31 : decode cX6_lengthBy 31 = .ok (.aload_n 0, 1) := by decide +kernel
theorem dX6_lengthBy_32 : decode cX6_lengthBy 32 = .ok (.getfield 9, 3) := by decide +kernel
theorem dX6_lengthBy_35 : decode cX6_lengthBy 35 = .ok (.iload_n 2, 1) := by decide +kernel
theorem dX6_lengthBy_36 : decode cX6_lengthBy 36 = .ok (.iaload, 1) := by decide +kernel
theorem dX6_lengthBy_37 : decode cX6_lengthBy 37 = .ok (.iconst 3, 1) := by decide +kernel
theorem dX6_lengthBy_38 : decode cX6_lengthBy 38 = .ok (.if_icmp .ne 9, 3) := by decide +kernel
theorem dX6_lengthBy_41 : decode cX6_lengthBy 41 = .ok (.iload_n 3, 1) := by decide +kernel
theorem dX6_lengthBy_42 : decode cX6_lengthBy 42 = .ok (.iconst 1, 1) := by decide +kernel
theorem dX6_lengthBy_43 : decode cX6_lengthBy 43 = .ok (.iadd, 1) := by decide +kernel
theorem dX6_lengthBy_44 : decode cX6_lengthBy 44 = .ok (.goto 4, 3) := by decide +kernel
theorem dX6_lengthBy_47 : decode cX6_lengthBy 47 = .ok (.iload_n 3, 1) := by decide +kernel
theorem dX6_lengthBy_48 : decode cX6_lengthBy 48 = .ok (.ireturn, 1) := by decide +kernel
theorem dX6_silencedBy_0 : decode cX6_silencedBy 0 = .ok (.aload_n 0, 1) := by decide +kernel
theorem dX6_silencedBy_1 : decode cX6_silencedBy 1 = .ok (.getfield 24, 3) := by decide +kernel
theorem dX6_silencedBy_4 : decode cX6_silencedBy 4 = .ok (.iload_n 1, 1) := by decide +kernel
theorem dX6_silencedBy_5 : decode cX6_silencedBy 5 = .ok (.iaload, 1) := by decide +kernel
theorem dX6_silencedBy_6 : decode cX6_silencedBy 6 = .ok (.istore 4, 2) := by decide +kernel
theorem dX6_silencedBy_8 : decode cX6_silencedBy 8 = .ok (.iload_n 3, 1) := by decide +kernel
theorem dX6_silencedBy_9 : decode cX6_silencedBy 9 = .ok (.iload_n 2, 1) := by decide +kernel
theorem dX6_silencedBy_10 : decode cX6_silencedBy 10 = .ok (.if_icmp .lt 23, 3) := by decide +kernel
theorem dX6_silencedBy_13 : decode cX6_silencedBy 13 = .ok (.iload_n 3, 1) := by decide +kernel
theorem dX6_silencedBy_14 : decode cX6_silencedBy 14 = .ok (.iload_n 2, 1) := by decide +kernel
theorem dX6_silencedBy_15 : decode cX6_silencedBy 15 = .ok (.aload_n 0, 1) := by decide +kernel
theorem dX6_silencedBy_16 : decode cX6_silencedBy 16 = .ok (.iload_n 1, 1) := by decide +kernel
theorem dX6_silencedBy_17 : decode cX6_silencedBy 17 = .ok (.iload 4, 2) := by decide +kernel
theorem dX6_silencedBy_19 : decode cX6_silencedBy 19 = .ok (.invokevirtual 89, 3) := by decide +kernel
theorem dX6_silencedBy_22 : decode cX6_silencedBy 22 = .ok (.iadd, 1) := by decide +kernel
theorem dX6_silencedBy_23 : decode cX6_silencedBy 23 = .ok (.if_icmp .ge 10, 3) := by decide +kernel
theorem dX6_silencedBy_26 : decode cX6_silencedBy 26 = .ok (.iconst 1, 1) := by decide +kernel
theorem dX6_silencedBy_27 : decode cX6_silencedBy 27 = .ok (.iload 4, 2) := by decide +kernel
theorem dX6_silencedBy_29 : decode cX6_silencedBy 29 = .ok (.ishl, 1) := by decide +kernel
theorem dX6_silencedBy_30 : decode cX6_silencedBy 30 = .ok (.goto 4, 3) := by decide +kernel
theorem dX6_silencedBy_33 : decode cX6_silencedBy 33 = .ok (.iconst 0, 1) := by decide +kernel
theorem dX6_silencedBy_34 : decode cX6_silencedBy 34 = .ok (.ireturn, 1) := by decide +kernel
theorem dX6_silentOnes_0 : decode cX6_silentOnes 0 = .ok (.iconst 0, 1) := by decide +kernel
theorem dX6_silentOnes_1 : decode cX6_silentOnes 1 = .ok (.istore_n 2, 1) := by decide +kernel
theorem dX6_silentOnes_2 : decode cX6_silentOnes 2 = .ok (.iconst 0, 1) := by decide +kernel
theorem dX6_silentOnes_3 : decode cX6_silentOnes 3 = .ok (.istore_n 3, 1) := by decide +kernel
theorem dX6_silentOnes_4 : decode cX6_silentOnes 4 = .ok (.iload_n 3, 1) := by decide +kernel
theorem dX6_silentOnes_5 : decode cX6_silentOnes 5 = .ok (.aload_n 0, 1) := by decide +kernel
theorem dX6_silentOnes_6 : decode cX6_silentOnes 6 = .ok (.getfield 50, 3) := by decide +kernel
theorem dX6_silentOnes_9 : decode cX6_silentOnes 9 = .ok (.if_icmp .ge 32, 3) := by decide +kernel
theorem dX6_silentOnes_12 : decode cX6_silentOnes 12 = .ok (.aload_n 0, 1) := by decide +kernel
theorem dX6_silentOnes_13 : decode cX6_silentOnes 13 = .ok (.iload_n 3, 1) := by decide +kernel
theorem dX6_silentOnes_14 : decode cX6_silentOnes 14 = .ok (.invokevirtual 92, 3) := by decide +kernel
theorem dX6_silentOnes_17 : decode cX6_silentOnes 17 = .ok (.ifCond .eq 18, 3) := by decide +kernel
theorem dX6_silentOnes_20 : decode cX6_silentOnes 20 = .ok (.iload_n 2, 1) := by decide +kernel
theorem dX6_silentOnes_21 : decode cX6_silentOnes 21 = .ok (.aload_n 0, 1) := by decide +kernel
theorem dX6_silentOnes_22 : decode cX6_silentOnes 22 = .ok (.iload_n 3, 1) := by decide +kernel
theorem dX6_silentOnes_23 : decode cX6_silentOnes 23 = .ok (.aload_n 0, 1) := by decide +kernel
theorem dX6_silentOnes_24 : decode cX6_silentOnes 24 = .ok (.getfield 31, 3) := by decide +kernel
theorem dX6_silentOnes_27 : decode cX6_silentOnes 27 = .ok (.iload_n 3, 1) := by decide +kernel
theorem dX6_silentOnes_28 : decode cX6_silentOnes 28 = .ok (.iaload, 1) := by decide +kernel
theorem dX6_silentOnes_29 : decode cX6_silentOnes 29 = .ok (.iload_n 1, 1) := by decide +kernel
theorem dX6_silentOnes_30 : decode cX6_silentOnes 30 = .ok (.invokevirtual 95, 3) := by decide +kernel
theorem dX6_silentOnes_33 : decode cX6_silentOnes 33 = .ok (.ior, 1) := by decide +kernel
theorem dX6_silentOnes_34 : decode cX6_silentOnes 34 = .ok (.istore_n 2, 1) := by decide +kernel
theorem dX6_silentOnes_35 : decode cX6_silentOnes 35 = .ok (.iinc 3 1, 3) := by decide +kernel
theorem dX6_silentOnes_38 : decode cX6_silentOnes 38 = .ok (.goto (-34), 3) := by decide +kernel
theorem dX6_silentOnes_41 : decode cX6_silentOnes 41 = .ok (.iload_n 2, 1) := by decide +kernel
theorem dX6_silentOnes_42 : decode cX6_silentOnes 42 = .ok (.ireturn, 1) := by decide +kernel
theorem dX6_isSaid_0 : decode cX6_isSaid 0 = .ok (.aload_n 0, 1) := by decide +kernel
theorem dX6_isSaid_1 : decode cX6_isSaid 1 = .ok (.getfield 9, 3) := by decide +kernel
theorem dX6_isSaid_4 : decode cX6_isSaid 4 = .ok (.iload_n 2, 1) := by decide +kernel
theorem dX6_isSaid_5 : decode cX6_isSaid 5 = .ok (.iaload, 1) := by decide +kernel
theorem dX6_isSaid_6 : decode cX6_isSaid 6 = .ok (.iconst 4, 1) := by decide +kernel
theorem dX6_isSaid_7 : decode cX6_isSaid 7 = .ok (.if_icmp .ne 5, 3) := by decide +kernel
theorem dX6_isSaid_10 : decode cX6_isSaid 10 = .ok (.iconst 1, 1) := by decide +kernel
theorem dX6_isSaid_11 : decode cX6_isSaid 11 = .ok (.ireturn, 1) := by decide +kernel
theorem dX6_isSaid_12 : decode cX6_isSaid 12 = .ok (.iload_n 1, 1) := by decide +kernel
theorem dX6_isSaid_13 : decode cX6_isSaid 13 = .ok (.iload_n 2, 1) := by decide +kernel
theorem dX6_isSaid_14 : decode cX6_isSaid 14 = .ok (.invokestatic 99, 3) := by decide +kernel
theorem dX6_isSaid_17 : decode cX6_isSaid 17 = .ok (.istore 4, 2) := by decide +kernel
theorem dX6_isSaid_19 : decode cX6_isSaid 19 = .ok (.iload_n 1, 1) := by decide +kernel
theorem dX6_isSaid_20 : decode cX6_isSaid 20 = .ok (.iload_n 3, 1) := by decide +kernel
theorem dX6_isSaid_21 : decode cX6_isSaid 21 = .ok (.invokestatic 99, 3) := by decide +kernel
theorem dX6_isSaid_24 : decode cX6_isSaid 24 = .ok (.istore 5, 2) := by decide +kernel
theorem dX6_isSaid_26 : decode cX6_isSaid 26 = .ok (.aload_n 0, 1) := by decide +kernel
theorem dX6_isSaid_27 : decode cX6_isSaid 27 = .ok (.getfield 56, 3) := by decide +kernel
theorem dX6_isSaid_30 : decode cX6_isSaid 30 = .ok (.lookupswitch 53 #[(0, 26), (1, 37)], 26) := by decide +kernel
theorem dX6_isSaid_56 : decode cX6_isSaid 56 = .ok (.iload 5, 2) := by decide +kernel
theorem dX6_isSaid_58 : decode cX6_isSaid 58 = .ok (.ifCond .ne 7, 3) := by decide +kernel
theorem dX6_isSaid_61 : decode cX6_isSaid 61 = .ok (.iconst 1, 1) := by decide +kernel
theorem dX6_isSaid_62 : decode cX6_isSaid 62 = .ok (.goto 4, 3) := by decide +kernel
theorem dX6_isSaid_65 : decode cX6_isSaid 65 = .ok (.iconst 0, 1) := by decide +kernel
theorem dX6_isSaid_66 : decode cX6_isSaid 66 = .ok (.ireturn, 1) := by decide +kernel
theorem dX6_isSaid_67 : decode cX6_isSaid 67 = .ok (.iload 5, 2) := by decide +kernel
theorem dX6_isSaid_69 : decode cX6_isSaid 69 = .ok (.ifCond .eq 8, 3) := by decide +kernel
theorem dX6_isSaid_72 : decode cX6_isSaid 72 = .ok (.iload 4, 2) := by decide +kernel
theorem dX6_isSaid_74 : decode cX6_isSaid 74 = .ok (.ifCond .eq 7, 3) := by decide +kernel
theorem dX6_isSaid_77 : decode cX6_isSaid 77 = .ok (.iconst 1, 1) := by decide +kernel
theorem dX6_isSaid_78 : decode cX6_isSaid 78 = .ok (.goto 4, 3) := by decide +kernel
theorem dX6_isSaid_81 : decode cX6_isSaid 81 = .ok (.iconst 0, 1) := by decide +kernel
theorem dX6_isSaid_82 : decode cX6_isSaid 82 = .ok (.ireturn, 1) := by decide +kernel
theorem dX6_isSaid_83 : decode cX6_isSaid 83 = .ok (.iload 5, 2) := by decide +kernel
theorem dX6_isSaid_85 : decode cX6_isSaid 85 = .ok (.ifCond .ne 12, 3) := by decide +kernel
theorem dX6_isSaid_88 : decode cX6_isSaid 88 = .ok (.iload 4, 2) := by decide +kernel
theorem dX6_isSaid_90 : decode cX6_isSaid 90 = .ok (.ifCond .ne 7, 3) := by decide +kernel
theorem dX6_isSaid_93 : decode cX6_isSaid 93 = .ok (.iconst 1, 1) := by decide +kernel
theorem dX6_isSaid_94 : decode cX6_isSaid 94 = .ok (.goto 4, 3) := by decide +kernel
theorem dX6_isSaid_97 : decode cX6_isSaid 97 = .ok (.iconst 0, 1) := by decide +kernel
theorem dX6_isSaid_98 : decode cX6_isSaid 98 = .ok (.ireturn, 1) := by decide +kernel
theorem dX6_isTalkSaid_0 : decode cX6_isTalkSaid 0 = .ok (.aload_n 0, 1) := by decide +kernel
theorem dX6_isTalkSaid_1 : decode cX6_isTalkSaid 1 = .ok (.aload_n 0, 1) := by decide +kernel
theorem dX6_isTalkSaid_2 : decode cX6_isTalkSaid 2 = .ok (.aload_n 0, 1) := by decide +kernel
theorem dX6_isTalkSaid_3 : decode cX6_isTalkSaid 3 = .ok (.getfield 34, 3) := by decide +kernel
theorem dX6_isTalkSaid_6 : decode cX6_isTalkSaid 6 = .ok (.iload_n 1, 1) := by decide +kernel
theorem dX6_isTalkSaid_7 : decode cX6_isTalkSaid 7 = .ok (.iaload, 1) := by decide +kernel
theorem dX6_isTalkSaid_8 : decode cX6_isTalkSaid 8 = .ok (.invokevirtual 103, 3) := by decide +kernel
theorem dX6_isTalkSaid_11 : decode cX6_isTalkSaid 11 = .ok (.aload_n 0, 1) := by decide +kernel
theorem dX6_isTalkSaid_12 : decode cX6_isTalkSaid 12 = .ok (.getfield 37, 3) := by decide +kernel
theorem dX6_isTalkSaid_15 : decode cX6_isTalkSaid 15 = .ok (.iload_n 1, 1) := by decide +kernel
theorem dX6_isTalkSaid_16 : decode cX6_isTalkSaid 16 = .ok (.iaload, 1) := by decide +kernel
theorem dX6_isTalkSaid_17 : decode cX6_isTalkSaid 17 = .ok (.aload_n 0, 1) := by decide +kernel
theorem dX6_isTalkSaid_18 : decode cX6_isTalkSaid 18 = .ok (.getfield 40, 3) := by decide +kernel
theorem dX6_isTalkSaid_21 : decode cX6_isTalkSaid 21 = .ok (.iload_n 1, 1) := by decide +kernel
theorem dX6_isTalkSaid_22 : decode cX6_isTalkSaid 22 = .ok (.iaload, 1) := by decide +kernel
theorem dX6_isTalkSaid_23 : decode cX6_isTalkSaid 23 = .ok (.invokevirtual 107, 3) := by decide +kernel
theorem dX6_isTalkSaid_26 : decode cX6_isTalkSaid 26 = .ok (.ireturn, 1) := by decide +kernel
theorem dX6_spentCoins_0 : decode cX6_spentCoins 0 = .ok (.iconst 0, 1) := by decide +kernel
theorem dX6_spentCoins_1 : decode cX6_spentCoins 1 = .ok (.istore_n 1, 1) := by decide +kernel
theorem dX6_spentCoins_2 : decode cX6_spentCoins 2 = .ok (.iconst 0, 1) := by decide +kernel
theorem dX6_spentCoins_3 : decode cX6_spentCoins 3 = .ok (.istore_n 2, 1) := by decide +kernel
theorem dX6_spentCoins_4 : decode cX6_spentCoins 4 = .ok (.iload_n 2, 1) := by decide +kernel
theorem dX6_spentCoins_5 : decode cX6_spentCoins 5 = .ok (.aload_n 0, 1) := by decide +kernel
theorem dX6_spentCoins_6 : decode cX6_spentCoins 6 = .ok (.getfield 50, 3) := by decide +kernel
theorem dX6_spentCoins_9 : decode cX6_spentCoins 9 = .ok (.if_icmp .ge 20, 3) := by decide +kernel
theorem dX6_spentCoins_12 : decode cX6_spentCoins 12 = .ok (.iload_n 1, 1) := by decide +kernel
theorem dX6_spentCoins_13 : decode cX6_spentCoins 13 = .ok (.aload_n 0, 1) := by decide +kernel
theorem dX6_spentCoins_14 : decode cX6_spentCoins 14 = .ok (.iload_n 2, 1) := by decide +kernel
theorem dX6_spentCoins_15 : decode cX6_spentCoins 15 = .ok (.invokevirtual 92, 3) := by decide +kernel
theorem dX6_spentCoins_18 : decode cX6_spentCoins 18 = .ok (.invokestatic 110, 3) := by decide +kernel
theorem dX6_spentCoins_21 : decode cX6_spentCoins 21 = .ok (.iadd, 1) := by decide +kernel
theorem dX6_spentCoins_22 : decode cX6_spentCoins 22 = .ok (.istore_n 1, 1) := by decide +kernel
theorem dX6_spentCoins_23 : decode cX6_spentCoins 23 = .ok (.iinc 2 1, 3) := by decide +kernel
theorem dX6_spentCoins_26 : decode cX6_spentCoins 26 = .ok (.goto (-22), 3) := by decide +kernel
theorem dX6_spentCoins_29 : decode cX6_spentCoins 29 = .ok (.iload_n 1, 1) := by decide +kernel
theorem dX6_spentCoins_30 : decode cX6_spentCoins 30 = .ok (.ireturn, 1) := by decide +kernel
theorem dX6_unspentWorths_0 : decode cX6_unspentWorths 0 = .ok (.iconst 0, 1) := by decide +kernel
theorem dX6_unspentWorths_1 : decode cX6_unspentWorths 1 = .ok (.istore_n 1, 1) := by decide +kernel
theorem dX6_unspentWorths_2 : decode cX6_unspentWorths 2 = .ok (.iconst 0, 1) := by decide +kernel
theorem dX6_unspentWorths_3 : decode cX6_unspentWorths 3 = .ok (.istore_n 2, 1) := by decide +kernel
theorem dX6_unspentWorths_4 : decode cX6_unspentWorths 4 = .ok (.iload_n 2, 1) := by decide +kernel
theorem dX6_unspentWorths_5 : decode cX6_unspentWorths 5 = .ok (.aload_n 0, 1) := by decide +kernel
theorem dX6_unspentWorths_6 : decode cX6_unspentWorths 6 = .ok (.getfield 50, 3) := by decide +kernel
theorem dX6_unspentWorths_9 : decode cX6_unspentWorths 9 = .ok (.if_icmp .ge 30, 3) := by decide +kernel
theorem dX6_unspentWorths_12 : decode cX6_unspentWorths 12 = .ok (.iload_n 1, 1) := by decide +kernel
theorem dX6_unspentWorths_13 : decode cX6_unspentWorths 13 = .ok (.aload_n 0, 1) := by decide +kernel
theorem dX6_unspentWorths_14 : decode cX6_unspentWorths 14 = .ok (.iload_n 2, 1) := by decide +kernel
theorem dX6_unspentWorths_15 : decode cX6_unspentWorths 15 = .ok (.invokevirtual 92, 3) := by decide +kernel
theorem dX6_unspentWorths_18 : decode cX6_unspentWorths 18 = .ok (.ifCond .eq 7, 3) := by decide +kernel
theorem dX6_unspentWorths_21 : decode cX6_unspentWorths 21 = .ok (.iconst 0, 1) := by decide +kernel
theorem dX6_unspentWorths_22 : decode cX6_unspentWorths 22 = .ok (.goto 9, 3) := by decide +kernel
theorem dX6_unspentWorths_25 : decode cX6_unspentWorths 25 = .ok (.aload_n 0, 1) := by decide +kernel
theorem dX6_unspentWorths_26 : decode cX6_unspentWorths 26 = .ok (.getfield 21, 3) := by decide +kernel
theorem dX6_unspentWorths_29 : decode cX6_unspentWorths 29 = .ok (.iload_n 2, 1) := by decide +kernel
theorem dX6_unspentWorths_30 : decode cX6_unspentWorths 30 = .ok (.iaload, 1) := by decide +kernel
theorem dX6_unspentWorths_31 : decode cX6_unspentWorths 31 = .ok (.iadd, 1) := by decide +kernel
theorem dX6_unspentWorths_32 : decode cX6_unspentWorths 32 = .ok (.istore_n 1, 1) := by decide +kernel
theorem dX6_unspentWorths_33 : decode cX6_unspentWorths 33 = .ok (.iinc 2 1, 3) := by decide +kernel
theorem dX6_unspentWorths_36 : decode cX6_unspentWorths 36 = .ok (.goto (-32), 3) := by decide +kernel
theorem dX6_unspentWorths_39 : decode cX6_unspentWorths 39 = .ok (.iload_n 1, 1) := by decide +kernel
theorem dX6_unspentWorths_40 : decode cX6_unspentWorths 40 = .ok (.ireturn, 1) := by decide +kernel
theorem dX6_raidedIn_0 : decode cX6_raidedIn 0 = .ok (.aload_n 0, 1) := by decide +kernel
theorem dX6_raidedIn_1 : decode cX6_raidedIn 1 = .ok (.iload_n 1, 1) := by decide +kernel
theorem dX6_raidedIn_2 : decode cX6_raidedIn 2 = .ok (.invokevirtual 103, 3) := by decide +kernel
theorem dX6_raidedIn_5 : decode cX6_raidedIn 5 = .ok (.istore_n 2, 1) := by decide +kernel
theorem dX6_raidedIn_6 : decode cX6_raidedIn 6 = .ok (.iconst 0, 1) := by decide +kernel
theorem dX6_raidedIn_7 : decode cX6_raidedIn 7 = .ok (.istore_n 3, 1) := by decide +kernel
theorem dX6_raidedIn_8 : decode cX6_raidedIn 8 = .ok (.iconst 0, 1) := by decide +kernel
theorem dX6_raidedIn_9 : decode cX6_raidedIn 9 = .ok (.istore 4, 2) := by decide +kernel
theorem dX6_raidedIn_11 : decode cX6_raidedIn 11 = .ok (.iload 4, 2) := by decide +kernel
theorem dX6_raidedIn_13 : decode cX6_raidedIn 13 = .ok (.aload_n 0, 1) := by decide +kernel
theorem dX6_raidedIn_14 : decode cX6_raidedIn 14 = .ok (.getfield 46, 3) := by decide +kernel
theorem dX6_raidedIn_17 : decode cX6_raidedIn 17 = .ok (.if_icmp .ge 38, 3) := by decide +kernel
theorem dX6_raidedIn_20 : decode cX6_raidedIn 20 = .ok (.aload_n 0, 1) := by decide +kernel
theorem dX6_raidedIn_21 : decode cX6_raidedIn 21 = .ok (.getfield 9, 3) := by decide +kernel
theorem dX6_raidedIn_24 : decode cX6_raidedIn 24 = .ok (.iload 4, 2) := by decide +kernel
theorem dX6_raidedIn_26 : decode cX6_raidedIn 26 = .ok (.iaload, 1) := by decide +kernel
theorem dX6_raidedIn_27 : decode cX6_raidedIn 27 = .ok (.iconst 4, 1) := by decide +kernel
theorem dX6_raidedIn_28 : decode cX6_raidedIn 28 = .ok (.if_icmp .eq 21, 3) := by decide +kernel
theorem dX6_raidedIn_31 : decode cX6_raidedIn 31 = .ok (.iload_n 2, 1) := by decide +kernel
theorem dX6_raidedIn_32 : decode cX6_raidedIn 32 = .ok (.iload 4, 2) := by decide +kernel
theorem dX6_raidedIn_34 : decode cX6_raidedIn 34 = .ok (.invokestatic 99, 3) := by decide +kernel
theorem dX6_raidedIn_37 : decode cX6_raidedIn 37 = .ok (.ifCond .ne 12, 3) := by decide +kernel
theorem dX6_raidedIn_40 : decode cX6_raidedIn 40 = .ok (.iload_n 3, 1) := by decide +kernel
theorem dX6_raidedIn_41 : decode cX6_raidedIn 41 = .ok (.aload_n 0, 1) := by decide +kernel
theorem dX6_raidedIn_42 : decode cX6_raidedIn 42 = .ok (.iload 4, 2) := by decide +kernel
theorem dX6_raidedIn_44 : decode cX6_raidedIn 44 = .ok (.invokevirtual 114, 3) := by decide +kernel
theorem dX6_raidedIn_47 : decode cX6_raidedIn 47 = .ok (.iadd, 1) := by decide +kernel
theorem dX6_raidedIn_48 : decode cX6_raidedIn 48 = .ok (.istore_n 3, 1) := by decide +kernel
theorem dX6_raidedIn_49 : decode cX6_raidedIn 49 = .ok (.iinc 4 1, 3) := by decide +kernel
theorem dX6_raidedIn_52 : decode cX6_raidedIn 52 = .ok (.goto (-41), 3) := by decide +kernel
theorem dX6_raidedIn_55 : decode cX6_raidedIn 55 = .ok (.iload_n 3, 1) := by decide +kernel
theorem dX6_raidedIn_56 : decode cX6_raidedIn 56 = .ok (.ireturn, 1) := by decide +kernel
theorem dX6_greatestUnspent_0 : decode cX6_greatestUnspent 0 = .ok (.iconst 0, 1) := by decide +kernel
theorem dX6_greatestUnspent_1 : decode cX6_greatestUnspent 1 = .ok (.istore_n 2, 1) := by decide +kernel
theorem dX6_greatestUnspent_2 : decode cX6_greatestUnspent 2 = .ok (.iconst 0, 1) := by decide +kernel
theorem dX6_greatestUnspent_3 : decode cX6_greatestUnspent 3 = .ok (.istore_n 3, 1) := by decide +kernel
theorem dX6_greatestUnspent_4 : decode cX6_greatestUnspent 4 = .ok (.iload_n 3, 1) := by decide +kernel
theorem dX6_greatestUnspent_5 : decode cX6_greatestUnspent 5 = .ok (.aload_n 0, 1) := by decide +kernel
theorem dX6_greatestUnspent_6 : decode cX6_greatestUnspent 6 = .ok (.getfield 50, 3) := by decide +kernel
theorem dX6_greatestUnspent_9 : decode cX6_greatestUnspent 9 = .ok (.if_icmp .ge 38, 3) := by decide +kernel
theorem dX6_greatestUnspent_12 : decode cX6_greatestUnspent 12 = .ok (.aload_n 0, 1) := by decide +kernel
theorem dX6_greatestUnspent_13 : decode cX6_greatestUnspent 13 = .ok (.getfield 24, 3) := by decide +kernel
theorem dX6_greatestUnspent_16 : decode cX6_greatestUnspent 16 = .ok (.iload_n 3, 1) := by decide +kernel
theorem dX6_greatestUnspent_17 : decode cX6_greatestUnspent 17 = .ok (.iaload, 1) := by decide +kernel
theorem dX6_greatestUnspent_18 : decode cX6_greatestUnspent 18 = .ok (.iload_n 1, 1) := by decide +kernel
theorem dX6_greatestUnspent_19 : decode cX6_greatestUnspent 19 = .ok (.if_icmp .ne 22, 3) := by decide +kernel
theorem dX6_greatestUnspent_22 : decode cX6_greatestUnspent 22 = .ok (.aload_n 0, 1) := by decide +kernel
theorem dX6_greatestUnspent_23 : decode cX6_greatestUnspent 23 = .ok (.iload_n 3, 1) := by decide +kernel
theorem dX6_greatestUnspent_24 : decode cX6_greatestUnspent 24 = .ok (.invokevirtual 92, 3) := by decide +kernel
theorem dX6_greatestUnspent_27 : decode cX6_greatestUnspent 27 = .ok (.ifCond .ne 14, 3) := by decide +kernel
theorem dX6_greatestUnspent_30 : decode cX6_greatestUnspent 30 = .ok (.iload_n 2, 1) := by decide +kernel
theorem dX6_greatestUnspent_31 : decode cX6_greatestUnspent 31 = .ok (.aload_n 0, 1) := by decide +kernel
theorem dX6_greatestUnspent_32 : decode cX6_greatestUnspent 32 = .ok (.getfield 21, 3) := by decide +kernel
theorem dX6_greatestUnspent_35 : decode cX6_greatestUnspent 35 = .ok (.iload_n 3, 1) := by decide +kernel
theorem dX6_greatestUnspent_36 : decode cX6_greatestUnspent 36 = .ok (.iaload, 1) := by decide +kernel
theorem dX6_greatestUnspent_37 : decode cX6_greatestUnspent 37 = .ok (.invokestatic 83, 3) := by decide +kernel
theorem dX6_greatestUnspent_40 : decode cX6_greatestUnspent 40 = .ok (.istore_n 2, 1) := by decide +kernel
theorem dX6_greatestUnspent_41 : decode cX6_greatestUnspent 41 = .ok (.iinc 3 1, 3) := by decide +kernel
theorem dX6_greatestUnspent_44 : decode cX6_greatestUnspent 44 = .ok (.goto (-40), 3) := by decide +kernel
theorem dX6_greatestUnspent_47 : decode cX6_greatestUnspent 47 = .ok (.iload_n 2, 1) := by decide +kernel
theorem dX6_greatestUnspent_48 : decode cX6_greatestUnspent 48 = .ok (.ireturn, 1) := by decide +kernel
theorem dX6_priceAfter_0 : decode cX6_priceAfter 0 = .ok (.iconst 1, 1) := by decide +kernel
theorem dX6_priceAfter_1 : decode cX6_priceAfter 1 = .ok (.iload_n 1, 1) := by decide +kernel
theorem dX6_priceAfter_2 : decode cX6_priceAfter 2 = .ok (.invokestatic 83, 3) := by decide +kernel
theorem dX6_priceAfter_5 : decode cX6_priceAfter 5 = .ok (.istore_n 2, 1) := by decide +kernel
theorem dX6_priceAfter_6 : decode cX6_priceAfter 6 = .ok (.iconst 0, 1) := by decide +kernel
theorem dX6_priceAfter_7 : decode cX6_priceAfter 7 = .ok (.istore_n 3, 1) := by decide +kernel
theorem dX6_priceAfter_8 : decode cX6_priceAfter 8 = .ok (.iconst 0, 1) := by decide +kernel
theorem dX6_priceAfter_9 : decode cX6_priceAfter 9 = .ok (.istore 4, 2) := by decide +kernel
theorem dX6_priceAfter_11 : decode cX6_priceAfter 11 = .ok (.iload 4, 2) := by decide +kernel
theorem dX6_priceAfter_13 : decode cX6_priceAfter 13 = .ok (.aload_n 0, 1) := by decide +kernel
theorem dX6_priceAfter_14 : decode cX6_priceAfter 14 = .ok (.getfield 46, 3) := by decide +kernel
theorem dX6_priceAfter_17 : decode cX6_priceAfter 17 = .ok (.if_icmp .ge 31, 3) := by decide +kernel
theorem dX6_priceAfter_20 : decode cX6_priceAfter 20 = .ok (.iload_n 3, 1) := by decide +kernel
theorem dX6_priceAfter_21 : decode cX6_priceAfter 21 = .ok (.aload_n 0, 1) := by decide +kernel
theorem dX6_priceAfter_22 : decode cX6_priceAfter 22 = .ok (.getfield 15, 3) := by decide +kernel
theorem dX6_priceAfter_25 : decode cX6_priceAfter 25 = .ok (.iload 4, 2) := by decide +kernel
theorem dX6_priceAfter_27 : decode cX6_priceAfter 27 = .ok (.iaload, 1) := by decide +kernel
theorem dX6_priceAfter_28 : decode cX6_priceAfter 28 = .ok (.aload_n 0, 1) := by decide +kernel
theorem dX6_priceAfter_29 : decode cX6_priceAfter 29 = .ok (.getfield 18, 3) := by decide +kernel
theorem dX6_priceAfter_32 : decode cX6_priceAfter 32 = .ok (.iload 4, 2) := by decide +kernel
theorem dX6_priceAfter_34 : decode cX6_priceAfter 34 = .ok (.iaload, 1) := by decide +kernel
theorem dX6_priceAfter_35 : decode cX6_priceAfter 35 = .ok (.iload_n 2, 1) := by decide +kernel
theorem dX6_priceAfter_36 : decode cX6_priceAfter 36 = .ok (.idiv, 1) := by decide +kernel
theorem dX6_priceAfter_37 : decode cX6_priceAfter 37 = .ok (.invokestatic 117, 3) := by decide +kernel
theorem dX6_priceAfter_40 : decode cX6_priceAfter 40 = .ok (.iadd, 1) := by decide +kernel
theorem dX6_priceAfter_41 : decode cX6_priceAfter 41 = .ok (.istore_n 3, 1) := by decide +kernel
theorem dX6_priceAfter_42 : decode cX6_priceAfter 42 = .ok (.iinc 4 1, 3) := by decide +kernel
theorem dX6_priceAfter_45 : decode cX6_priceAfter 45 = .ok (.goto (-34), 3) := by decide +kernel
theorem dX6_priceAfter_48 : decode cX6_priceAfter 48 = .ok (.aload_n 0, 1) := by decide +kernel
theorem dX6_priceAfter_49 : decode cX6_priceAfter 49 = .ok (.invokevirtual 120, 3) := by decide +kernel
theorem dX6_priceAfter_52 : decode cX6_priceAfter 52 = .ok (.istore 4, 2) := by decide +kernel
theorem dX6_priceAfter_54 : decode cX6_priceAfter 54 = .ok (.iload_n 3, 1) := by decide +kernel
theorem dX6_priceAfter_55 : decode cX6_priceAfter 55 = .ok (.iload 4, 2) := by decide +kernel
theorem dX6_priceAfter_57 : decode cX6_priceAfter 57 = .ok (.if_icmp .le 12, 3) := by decide +kernel
theorem dX6_priceAfter_60 : decode cX6_priceAfter 60 = .ok (.bipush 99, 2) := by decide +kernel
theorem dX6_priceAfter_62 : decode cX6_priceAfter 62 = .ok (.iload_n 1, 1) := by decide +kernel
theorem dX6_priceAfter_63 : decode cX6_priceAfter 63 = .ok (.iconst 1, 1) := by decide +kernel
theorem dX6_priceAfter_64 : decode cX6_priceAfter 64 = .ok (.iadd, 1) := by decide +kernel
theorem dX6_priceAfter_65 : decode cX6_priceAfter 65 = .ok (.invokestatic 117, 3) := by decide +kernel
theorem dX6_priceAfter_68 : decode cX6_priceAfter 68 = .ok (.ireturn, 1) := by decide +kernel
theorem dX6_priceAfter_69 : decode cX6_priceAfter 69 = .ok (.iload_n 3, 1) := by decide +kernel
theorem dX6_priceAfter_70 : decode cX6_priceAfter 70 = .ok (.iload 4, 2) := by decide +kernel
theorem dX6_priceAfter_72 : decode cX6_priceAfter 72 = .ok (.if_icmp .ge 13, 3) := by decide +kernel
theorem dX6_priceAfter_75 : decode cX6_priceAfter 75 = .ok (.iconst 1, 1) := by decide +kernel
theorem dX6_priceAfter_76 : decode cX6_priceAfter 76 = .ok (.iload_n 1, 1) := by decide +kernel
theorem dX6_priceAfter_77 : decode cX6_priceAfter 77 = .ok (.iconst 1, 1) := by decide +kernel
theorem dX6_priceAfter_78 : decode cX6_priceAfter 78 = .ok (.isub, 1) := by decide +kernel
theorem dX6_priceAfter_79 : decode cX6_priceAfter 79 = .ok (.invokestatic 83, 3) := by decide +kernel
theorem dX6_priceAfter_82 : decode cX6_priceAfter 82 = .ok (.goto 4, 3) := by decide +kernel
theorem dX6_priceAfter_85 : decode cX6_priceAfter 85 = .ok (.iload_n 1, 1) := by decide +kernel
theorem dX6_priceAfter_86 : decode cX6_priceAfter 86 = .ok (.ireturn, 1) := by decide +kernel
theorem dX7_init_0 : decode cX7_init 0 = .ok (.aload_n 0, 1) := by decide +kernel
theorem dX7_init_1 : decode cX7_init 1 = .ok (.invokespecial 1, 3) := by decide +kernel
theorem dX7_init_4 : decode cX7_init 4 = .ok (.aload_n 0, 1) := by decide +kernel
theorem dX7_init_5 : decode cX7_init 5 = .ok (.new 7, 3) := by decide +kernel
theorem dX7_init_8 : decode cX7_init 8 = .ok (.dup, 1) := by decide +kernel
theorem dX7_init_9 : decode cX7_init 9 = .ok (.invokespecial 9, 3) := by decide +kernel
theorem dX7_init_12 : decode cX7_init 12 = .ok (.putfield 10, 3) := by decide +kernel
theorem dX7_init_15 : decode cX7_init 15 = .ok (.aload_n 0, 1) := by decide +kernel
theorem dX7_init_16 : decode cX7_init 16 = .ok (.new 16, 3) := by decide +kernel
theorem dX7_init_19 : decode cX7_init 19 = .ok (.dup, 1) := by decide +kernel
theorem dX7_init_20 : decode cX7_init 20 = .ok (.aload_n 0, 1) := by decide +kernel
theorem dX7_init_21 : decode cX7_init 21 = .ok (.getfield 10, 3) := by decide +kernel
theorem dX7_init_24 : decode cX7_init 24 = .ok (.invokespecial 18, 3) := by decide +kernel
theorem dX7_init_27 : decode cX7_init 27 = .ok (.putfield 21, 3) := by decide +kernel
theorem dX7_init_30 : decode cX7_init 30 = .ok (.aload_n 0, 1) := by decide +kernel
theorem dX7_init_31 : decode cX7_init 31 = .ok (.new 25, 3) := by decide +kernel
theorem dX7_init_34 : decode cX7_init 34 = .ok (.dup, 1) := by decide +kernel
theorem dX7_init_35 : decode cX7_init 35 = .ok (.invokespecial 27, 3) := by decide +kernel
theorem dX7_init_38 : decode cX7_init 38 = .ok (.putfield 28, 3) := by decide +kernel
theorem dX7_init_41 : decode cX7_init 41 = .ok (.aload_n 0, 1) := by decide +kernel
theorem dX7_init_42 : decode cX7_init 42 = .ok (.new 32, 3) := by decide +kernel
theorem dX7_init_45 : decode cX7_init 45 = .ok (.dup, 1) := by decide +kernel
theorem dX7_init_46 : decode cX7_init 46 = .ok (.aload_n 0, 1) := by decide +kernel
theorem dX7_init_47 : decode cX7_init 47 = .ok (.getfield 28, 3) := by decide +kernel
theorem dX7_init_50 : decode cX7_init 50 = .ok (.invokespecial 34, 3) := by decide +kernel
theorem dX7_init_53 : decode cX7_init 53 = .ok (.putfield 37, 3) := by decide +kernel
theorem dX7_init_56 : decode cX7_init 56 = .ok (.aload_n 0, 1) := by decide +kernel
theorem dX7_init_57 : decode cX7_init 57 = .ok (.new 41, 3) := by decide +kernel
theorem dX7_init_60 : decode cX7_init 60 = .ok (.dup, 1) := by decide +kernel
theorem dX7_init_61 : decode cX7_init 61 = .ok (.aload_n 0, 1) := by decide +kernel
theorem dX7_init_62 : decode cX7_init 62 = .ok (.getfield 28, 3) := by decide +kernel
theorem dX7_init_65 : decode cX7_init 65 = .ok (.invokespecial 43, 3) := by decide +kernel
theorem dX7_init_68 : decode cX7_init 68 = .ok (.putfield 44, 3) := by decide +kernel
theorem dX7_init_71 : decode cX7_init 71 = .ok (.aload_n 0, 1) := by decide +kernel
theorem dX7_init_72 : decode cX7_init 72 = .ok (.new 48, 3) := by decide +kernel
theorem dX7_init_75 : decode cX7_init 75 = .ok (.dup, 1) := by decide +kernel
theorem dX7_init_76 : decode cX7_init 76 = .ok (.invokespecial 50, 3) := by decide +kernel
theorem dX7_init_79 : decode cX7_init 79 = .ok (.putfield 51, 3) := by decide +kernel
theorem dX7_init_82 : decode cX7_init 82 = .ok (.aload_n 0, 1) := by decide +kernel
theorem dX7_init_83 : decode cX7_init 83 = .ok (.iconst 2, 1) := by decide +kernel
theorem dX7_init_84 : decode cX7_init 84 = .ok (.anewarray 25, 3) := by decide +kernel
theorem dX7_init_87 : decode cX7_init 87 = .ok (.putfield 55, 3) := by decide +kernel
theorem dX7_init_90 : decode cX7_init 90 = .ok (.iconst 0, 1) := by decide +kernel
theorem dX7_init_91 : decode cX7_init 91 = .ok (.istore_n 1, 1) := by decide +kernel
theorem dX7_init_92 : decode cX7_init 92 = .ok (.iload_n 1, 1) := by decide +kernel
theorem dX7_init_93 : decode cX7_init 93 = .ok (.iconst 2, 1) := by decide +kernel
theorem dX7_init_94 : decode cX7_init 94 = .ok (.if_icmp .ge 22, 3) := by decide +kernel
theorem dX7_init_97 : decode cX7_init 97 = .ok (.aload_n 0, 1) := by decide +kernel
theorem dX7_init_98 : decode cX7_init 98 = .ok (.getfield 55, 3) := by decide +kernel
theorem dX7_init_101 : decode cX7_init 101 = .ok (.iload_n 1, 1) := by decide +kernel
theorem dX7_init_102 : decode cX7_init 102 = .ok (.new 25, 3) := by decide +kernel
theorem dX7_init_105 : decode cX7_init 105 = .ok (.dup, 1) := by decide +kernel
theorem dX7_init_106 : decode cX7_init 106 = .ok (.invokespecial 27, 3) := by decide +kernel
theorem dX7_init_109 : decode cX7_init 109 = .ok (.aastore, 1) := by decide +kernel
theorem dX7_init_110 : decode cX7_init 110 = .ok (.iinc 1 1, 3) := by decide +kernel
theorem dX7_init_113 : decode cX7_init 113 = .ok (.goto (-21), 3) := by decide +kernel
theorem dX7_init_116 : decode cX7_init 116 = .ok (.aload_n 0, 1) := by decide +kernel
theorem dX7_init_117 : decode cX7_init 117 = .ok (.iconst 2, 1) := by decide +kernel
theorem dX7_init_118 : decode cX7_init 118 = .ok (.newarray .boolean, 2) := by decide +kernel
theorem dX7_init_120 : decode cX7_init 120 = .ok (.putfield 59, 3) := by decide +kernel
theorem dX7_init_123 : decode cX7_init 123 = .ok (.aload_n 0, 1) := by decide +kernel
theorem dX7_init_124 : decode cX7_init 124 = .ok (.iconst 4, 1) := by decide +kernel
theorem dX7_init_125 : decode cX7_init 125 = .ok (.anewarray 63, 3) := by decide +kernel
theorem dX7_init_128 : decode cX7_init 128 = .ok (.putfield 65, 3) := by decide +kernel
theorem dX7_init_131 : decode cX7_init 131 = .ok (.iconst 0, 1) := by decide +kernel
theorem dX7_init_132 : decode cX7_init 132 = .ok (.istore_n 1, 1) := by decide +kernel
theorem dX7_init_133 : decode cX7_init 133 = .ok (.iload_n 1, 1) := by decide +kernel
theorem dX7_init_134 : decode cX7_init 134 = .ok (.iconst 4, 1) := by decide +kernel
theorem dX7_init_135 : decode cX7_init 135 = .ok (.if_icmp .ge 22, 3) := by decide +kernel
theorem dX7_init_138 : decode cX7_init 138 = .ok (.aload_n 0, 1) := by decide +kernel
theorem dX7_init_139 : decode cX7_init 139 = .ok (.getfield 65, 3) := by decide +kernel
theorem dX7_init_142 : decode cX7_init 142 = .ok (.iload_n 1, 1) := by decide +kernel
theorem dX7_init_143 : decode cX7_init 143 = .ok (.new 63, 3) := by decide +kernel
theorem dX7_init_146 : decode cX7_init 146 = .ok (.dup, 1) := by decide +kernel
theorem dX7_init_147 : decode cX7_init 147 = .ok (.invokespecial 69, 3) := by decide +kernel
theorem dX7_init_150 : decode cX7_init 150 = .ok (.aastore, 1) := by decide +kernel
theorem dX7_init_151 : decode cX7_init 151 = .ok (.iinc 1 1, 3) := by decide +kernel
theorem dX7_init_154 : decode cX7_init 154 = .ok (.goto (-21), 3) := by decide +kernel
theorem dX7_init_157 : decode cX7_init 157 = .ok (.return_, 1) := by decide +kernel
theorem dX7_feed_0 : decode cX7_feed 0 = .ok (.aload_n 0, 1) := by decide +kernel
theorem dX7_feed_1 : decode cX7_feed 1 = .ok (.getfield 10, 3) := by decide +kernel
theorem dX7_feed_4 : decode cX7_feed 4 = .ok (.lload_n 1, 1) := by decide +kernel
theorem dX7_feed_5 : decode cX7_feed 5 = .ok (.invokevirtual 70, 3) := by decide +kernel
theorem dX7_feed_8 : decode cX7_feed 8 = .ok (.ireturn, 1) := by decide +kernel
theorem dX7_end_0 : decode cX7_end 0 = .ok (.aload_n 0, 1) := by decide +kernel
theorem dX7_end_1 : decode cX7_end 1 = .ok (.getfield 10, 3) := by decide +kernel
theorem dX7_end_4 : decode cX7_end 4 = .ok (.iload_n 1, 1) := by decide +kernel
theorem dX7_end_5 : decode cX7_end 5 = .ok (.invokevirtual 74, 3) := by decide +kernel
theorem dX7_end_8 : decode cX7_end 8 = .ok (.ireturn, 1) := by decide +kernel
theorem dX7_text_0 : decode cX7_text 0 = .ok (.aload_n 0, 1) := by decide +kernel
theorem dX7_text_1 : decode cX7_text 1 = .ok (.getfield 21, 3) := by decide +kernel
theorem dX7_text_4 : decode cX7_text 4 = .ok (.invokevirtual 78, 3) := by decide +kernel
theorem dX7_text_7 : decode cX7_text 7 = .ok (.istore_n 1, 1) := by decide +kernel
theorem dX7_text_8 : decode cX7_text 8 = .ok (.aload_n 0, 1) := by decide +kernel
theorem dX7_text_9 : decode cX7_text 9 = .ok (.getfield 10, 3) := by decide +kernel
theorem dX7_text_12 : decode cX7_text 12 = .ok (.iconst 0, 1) := by decide +kernel
theorem dX7_text_13 : decode cX7_text 13 = .ok (.putfield 82, 3) := by decide +kernel
theorem dX7_text_16 : decode cX7_text 16 = .ok (.iload_n 1, 1) := by decide +kernel
theorem dX7_text_17 : decode cX7_text 17 = .ok (.ifCond .ne 14, 3) := by decide +kernel
theorem dX7_text_20 : decode cX7_text 20 = .ok (.bipush (-10), 2) := by decide +kernel
theorem dX7_text_22 : decode cX7_text 22 = .ok (.aload_n 0, 1) := by decide +kernel
theorem dX7_text_23 : decode cX7_text 23 = .ok (.getfield 21, 3) := by decide +kernel
theorem dX7_text_26 : decode cX7_text 26 = .ok (.getfield 86, 3) := by decide +kernel
theorem dX7_text_29 : decode cX7_text 29 = .ok (.isub, 1) := by decide +kernel
theorem dX7_text_30 : decode cX7_text 30 = .ok (.ireturn, 1) := by decide +kernel
theorem dX7_text_31 : decode cX7_text 31 = .ok (.aload_n 0, 1) := by decide +kernel
theorem dX7_text_32 : decode cX7_text 32 = .ok (.getfield 28, 3) := by decide +kernel
theorem dX7_text_35 : decode cX7_text 35 = .ok (.aload_n 0, 1) := by decide +kernel
theorem dX7_text_36 : decode cX7_text 36 = .ok (.getfield 21, 3) := by decide +kernel
theorem dX7_text_39 : decode cX7_text 39 = .ok (.getfield 89, 3) := by decide +kernel
theorem dX7_text_42 : decode cX7_text 42 = .ok (.invokevirtual 92, 3) := by decide +kernel
theorem dX7_text_45 : decode cX7_text 45 = .ok (.aload_n 0, 1) := by decide +kernel
theorem dX7_text_46 : decode cX7_text 46 = .ok (.getfield 37, 3) := by decide +kernel
theorem dX7_text_49 : decode cX7_text 49 = .ok (.iconst 0, 1) := by decide +kernel
theorem dX7_text_50 : decode cX7_text 50 = .ok (.putfield 95, 3) := by decide +kernel
theorem dX7_text_53 : decode cX7_text 53 = .ok (.aload_n 0, 1) := by decide +kernel
theorem dX7_text_54 : decode cX7_text 54 = .ok (.getfield 51, 3) := by decide +kernel
theorem dX7_text_57 : decode cX7_text 57 = .ok (.iconst 0, 1) := by decide +kernel
theorem dX7_text_58 : decode cX7_text 58 = .ok (.putfield 98, 3) := by decide +kernel
theorem dX7_text_61 : decode cX7_text 61 = .ok (.iconst 0, 1) := by decide +kernel
theorem dX7_text_62 : decode cX7_text 62 = .ok (.istore_n 2, 1) := by decide +kernel
theorem dX7_text_63 : decode cX7_text 63 = .ok (.iload_n 2, 1) := by decide +kernel
theorem dX7_text_64 : decode cX7_text 64 = .ok (.iconst 2, 1) := by decide +kernel
theorem dX7_text_65 : decode cX7_text 65 = .ok (.if_icmp .ge 16, 3) := by decide +kernel
theorem dX7_text_68 : decode cX7_text 68 = .ok (.aload_n 0, 1) := by decide +kernel
theorem dX7_text_69 : decode cX7_text 69 = .ok (.getfield 59, 3) := by decide +kernel
theorem dX7_text_72 : decode cX7_text 72 = .ok (.iload_n 2, 1) := by decide +kernel
theorem dX7_text_73 : decode cX7_text 73 = .ok (.iconst 0, 1) := by decide +kernel
theorem dX7_text_74 : decode cX7_text 74 = .ok (.bastore, 1) := by decide +kernel
theorem dX7_text_75 : decode cX7_text 75 = .ok (.iinc 2 1, 3) := by decide +kernel
theorem dX7_text_78 : decode cX7_text 78 = .ok (.goto (-15), 3) := by decide +kernel
theorem dX7_text_81 : decode cX7_text 81 = .ok (.aload_n 0, 1) := by decide +kernel
theorem dX7_text_82 : decode cX7_text 82 = .ok (.getfield 21, 3) := by decide +kernel
theorem dX7_text_85 : decode cX7_text 85 = .ok (.getfield 101, 3) := by decide +kernel
theorem dX7_text_88 : decode cX7_text 88 = .ok (.ireturn, 1) := by decide +kernel
theorem dX7_fault_0 : decode cX7_fault 0 = .ok (.aload_n 0, 1) := by decide +kernel
theorem dX7_fault_1 : decode cX7_fault 1 = .ok (.getfield 21, 3) := by decide +kernel
theorem dX7_fault_4 : decode cX7_fault 4 = .ok (.getfield 104, 3) := by decide +kernel
theorem dX7_fault_7 : decode cX7_fault 7 = .ok (.ireturn, 1) := by decide +kernel
theorem dX7_rule_0 : decode cX7_rule 0 = .ok (.iload_n 1, 1) := by decide +kernel
theorem dX7_rule_1 : decode cX7_rule 1 = .ok (.tableswitch 75 0 4 #[35, 43, 51, 59, 67], 35) := by decide +kernel
theorem dX7_rule_36 : decode cX7_rule 36 = .ok (.aload_n 0, 1) := by decide +kernel
theorem dX7_rule_37 : decode cX7_rule 37 = .ok (.getfield 28, 3) := by decide +kernel
theorem dX7_rule_40 : decode cX7_rule 40 = .ok (.getfield 107, 3) := by decide +kernel
theorem dX7_rule_43 : decode cX7_rule 43 = .ok (.ireturn, 1) := by decide +kernel
theorem dX7_rule_44 : decode cX7_rule 44 = .ok (.aload_n 0, 1) := by decide +kernel
theorem dX7_rule_45 : decode cX7_rule 45 = .ok (.getfield 28, 3) := by decide +kernel
theorem dX7_rule_48 : decode cX7_rule 48 = .ok (.getfield 110, 3) := by decide +kernel
theorem dX7_rule_51 : decode cX7_rule 51 = .ok (.ireturn, 1) := by decide +kernel
theorem dX7_rule_52 : decode cX7_rule 52 = .ok (.aload_n 0, 1) := by decide +kernel
theorem dX7_rule_53 : decode cX7_rule 53 = .ok (.getfield 28, 3) := by decide +kernel
theorem dX7_rule_56 : decode cX7_rule 56 = .ok (.getfield 113, 3) := by decide +kernel
theorem dX7_rule_59 : decode cX7_rule 59 = .ok (.ireturn, 1) := by decide +kernel
theorem dX7_rule_60 : decode cX7_rule 60 = .ok (.aload_n 0, 1) := by decide +kernel
theorem dX7_rule_61 : decode cX7_rule 61 = .ok (.getfield 28, 3) := by decide +kernel
theorem dX7_rule_64 : decode cX7_rule 64 = .ok (.getfield 116, 3) := by decide +kernel
theorem dX7_rule_67 : decode cX7_rule 67 = .ok (.ireturn, 1) := by decide +kernel
theorem dX7_rule_68 : decode cX7_rule 68 = .ok (.aload_n 0, 1) := by decide +kernel
theorem dX7_rule_69 : decode cX7_rule 69 = .ok (.getfield 28, 3) := by decide +kernel
theorem dX7_rule_72 : decode cX7_rule 72 = .ok (.getfield 119, 3) := by decide +kernel
theorem dX7_rule_75 : decode cX7_rule 75 = .ok (.ireturn, 1) := by decide +kernel
theorem dX7_rule_76 : decode cX7_rule 76 = .ok (.iconst (-1), 1) := by decide +kernel
theorem dX7_rule_77 : decode cX7_rule 77 = .ok (.ireturn, 1) := by decide +kernel
theorem dX7_one_0 : decode cX7_one 0 = .ok (.aload_n 0, 1) := by decide +kernel
theorem dX7_one_1 : decode cX7_one 1 = .ok (.getfield 28, 3) := by decide +kernel
theorem dX7_one_4 : decode cX7_one 4 = .ok (.iload_n 1, 1) := by decide +kernel
theorem dX7_one_5 : decode cX7_one 5 = .ok (.invokevirtual 122, 3) := by decide +kernel
theorem dX7_one_8 : decode cX7_one 8 = .ok (.ifCond .ne 5, 3) := by decide +kernel
theorem dX7_one_11 : decode cX7_one 11 = .ok (.iconst (-1), 1) := by decide +kernel
theorem dX7_one_12 : decode cX7_one 12 = .ok (.ireturn, 1) := by decide +kernel
theorem dX7_one_13 : decode cX7_one 13 = .ok (.iload_n 2, 1) := by decide +kernel
theorem dX7_one_14 : decode cX7_one 14 = .ok (.tableswitch 56 0 2 #[26, 36, 46], 26) := by decide +kernel
theorem dX7_one_40 : decode cX7_one 40 = .ok (.aload_n 0, 1) := by decide +kernel
theorem dX7_one_41 : decode cX7_one 41 = .ok (.getfield 28, 3) := by decide +kernel
theorem dX7_one_44 : decode cX7_one 44 = .ok (.getfield 126, 3) := by decide +kernel
theorem dX7_one_47 : decode cX7_one 47 = .ok (.iload_n 1, 1) := by decide +kernel
theorem dX7_one_48 : decode cX7_one 48 = .ok (.iaload, 1) := by decide +kernel
theorem dX7_one_49 : decode cX7_one 49 = .ok (.ireturn, 1) := by decide +kernel
theorem dX7_one_50 : decode cX7_one 50 = .ok (.aload_n 0, 1) := by decide +kernel
theorem dX7_one_51 : decode cX7_one 51 = .ok (.getfield 28, 3) := by decide +kernel
theorem dX7_one_54 : decode cX7_one 54 = .ok (.getfield 130, 3) := by decide +kernel
theorem dX7_one_57 : decode cX7_one 57 = .ok (.iload_n 1, 1) := by decide +kernel
theorem dX7_one_58 : decode cX7_one 58 = .ok (.iaload, 1) := by decide +kernel
theorem dX7_one_59 : decode cX7_one 59 = .ok (.ireturn, 1) := by decide +kernel
theorem dX7_one_60 : decode cX7_one 60 = .ok (.aload_n 0, 1) := by decide +kernel
theorem dX7_one_61 : decode cX7_one 61 = .ok (.getfield 28, 3) := by decide +kernel
theorem dX7_one_64 : decode cX7_one 64 = .ok (.getfield 133, 3) := by decide +kernel
theorem dX7_one_67 : decode cX7_one 67 = .ok (.iload_n 1, 1) := by decide +kernel
theorem dX7_one_68 : decode cX7_one 68 = .ok (.iaload, 1) := by decide +kernel
theorem dX7_one_69 : decode cX7_one 69 = .ok (.ireturn, 1) := by decide +kernel
theorem dX7_one_70 : decode cX7_one 70 = .ok (.iconst (-1), 1) := by decide +kernel
theorem dX7_one_71 : decode cX7_one 71 = .ok (.ireturn, 1) := by decide +kernel
theorem dX7_coin_0 : decode cX7_coin 0 = .ok (.aload_n 0, 1) := by decide +kernel
theorem dX7_coin_1 : decode cX7_coin 1 = .ok (.getfield 28, 3) := by decide +kernel
theorem dX7_coin_4 : decode cX7_coin 4 = .ok (.iload_n 1, 1) := by decide +kernel
theorem dX7_coin_5 : decode cX7_coin 5 = .ok (.invokevirtual 136, 3) := by decide +kernel
theorem dX7_coin_8 : decode cX7_coin 8 = .ok (.ifCond .ne 5, 3) := by decide +kernel
theorem dX7_coin_11 : decode cX7_coin 11 = .ok (.iconst (-1), 1) := by decide +kernel
theorem dX7_coin_12 : decode cX7_coin 12 = .ok (.ireturn, 1) := by decide +kernel
theorem dX7_coin_13 : decode cX7_coin 13 = .ok (.iload_n 2, 1) := by decide +kernel
theorem dX7_coin_14 : decode cX7_coin 14 = .ok (.tableswitch 95 0 4 #[34, 44, 54, 67, 77], 34) := by decide +kernel
theorem dX7_coin_48 : decode cX7_coin 48 = .ok (.aload_n 0, 1) := by decide +kernel
theorem dX7_coin_49 : decode cX7_coin 49 = .ok (.getfield 28, 3) := by decide +kernel
theorem dX7_coin_52 : decode cX7_coin 52 = .ok (.getfield 139, 3) := by decide +kernel
theorem dX7_coin_55 : decode cX7_coin 55 = .ok (.iload_n 1, 1) := by decide +kernel
theorem dX7_coin_56 : decode cX7_coin 56 = .ok (.iaload, 1) := by decide +kernel
theorem dX7_coin_57 : decode cX7_coin 57 = .ok (.ireturn, 1) := by decide +kernel
theorem dX7_coin_58 : decode cX7_coin 58 = .ok (.aload_n 0, 1) := by decide +kernel
theorem dX7_coin_59 : decode cX7_coin 59 = .ok (.getfield 28, 3) := by decide +kernel
theorem dX7_coin_62 : decode cX7_coin 62 = .ok (.getfield 142, 3) := by decide +kernel
theorem dX7_coin_65 : decode cX7_coin 65 = .ok (.iload_n 1, 1) := by decide +kernel
theorem dX7_coin_66 : decode cX7_coin 66 = .ok (.iaload, 1) := by decide +kernel
theorem dX7_coin_67 : decode cX7_coin 67 = .ok (.ireturn, 1) := by decide +kernel
theorem dX7_coin_68 : decode cX7_coin 68 = .ok (.aload_n 0, 1) := by decide +kernel
theorem dX7_coin_69 : decode cX7_coin 69 = .ok (.getfield 28, 3) := by decide +kernel
theorem dX7_coin_72 : decode cX7_coin 72 = .ok (.getfield 145, 3) := by decide +kernel
theorem dX7_coin_75 : decode cX7_coin 75 = .ok (.iload_n 1, 1) := by decide +kernel
theorem dX7_coin_76 : decode cX7_coin 76 = .ok (.baload, 1) := by decide +kernel
theorem dX7_coin_77 : decode cX7_coin 77 = .ok (.invokestatic 148, 3) := by decide +kernel
theorem dX7_coin_80 : decode cX7_coin 80 = .ok (.ireturn, 1) := by decide +kernel
theorem dX7_coin_81 : decode cX7_coin 81 = .ok (.aload_n 0, 1) := by decide +kernel
theorem dX7_coin_82 : decode cX7_coin 82 = .ok (.getfield 28, 3) := by decide +kernel
theorem dX7_coin_85 : decode cX7_coin 85 = .ok (.getfield 152, 3) := by decide +kernel
theorem dX7_coin_88 : decode cX7_coin 88 = .ok (.iload_n 1, 1) := by decide +kernel
theorem dX7_coin_89 : decode cX7_coin 89 = .ok (.iaload, 1) := by decide +kernel
theorem dX7_coin_90 : decode cX7_coin 90 = .ok (.ireturn, 1) := by decide +kernel
theorem dX7_coin_91 : decode cX7_coin 91 = .ok (.aload_n 0, 1) := by decide +kernel
theorem dX7_coin_92 : decode cX7_coin 92 = .ok (.getfield 28, 3) := by decide +kernel
theorem dX7_coin_95 : decode cX7_coin 95 = .ok (.iload_n 1, 1) := by decide +kernel
theorem dX7_coin_96 : decode cX7_coin 96 = .ok (.aload_n 0, 1) := by decide +kernel
theorem dX7_coin_97 : decode cX7_coin 97 = .ok (.getfield 28, 3) := by decide +kernel
theorem dX7_coin_100 : decode cX7_coin 100 = .ok (.getfield 142, 3) := by decide +kernel
theorem dX7_coin_103 : decode cX7_coin 103 = .ok (.iload_n 1, 1) := by decide +kernel
theorem dX7_coin_104 : decode cX7_coin 104 = .ok (.iaload, 1) := by decide +kernel
theorem dX7_coin_105 : decode cX7_coin 105 = .ok (.invokevirtual 155, 3) := by decide +kernel
theorem dX7_coin_108 : decode cX7_coin 108 = .ok (.ireturn, 1) := by decide +kernel
theorem dX7_coin_109 : decode cX7_coin 109 = .ok (.iconst (-1), 1) := by decide +kernel
theorem dX7_coin_110 : decode cX7_coin 110 = .ok (.ireturn, 1) := by decide +kernel
theorem dX7_talk_0 : decode cX7_talk 0 = .ok (.iload_n 1, 1) := by decide +kernel
theorem dX7_talk_1 : decode cX7_talk 1 = .ok (.ifCond .lt 14, 3) := by decide +kernel
theorem dX7_talk_4 : decode cX7_talk 4 = .ok (.iload_n 1, 1) := by decide +kernel
theorem dX7_talk_5 : decode cX7_talk 5 = .ok (.aload_n 0, 1) := by decide +kernel
theorem dX7_talk_6 : decode cX7_talk 6 = .ok (.getfield 28, 3) := by decide +kernel
theorem dX7_talk_9 : decode cX7_talk 9 = .ok (.getfield 113, 3) := by decide +kernel
theorem dX7_talk_12 : decode cX7_talk 12 = .ok (.if_icmp .lt 5, 3) := by decide +kernel
theorem dX7_talk_15 : decode cX7_talk 15 = .ok (.iconst (-1), 1) := by decide +kernel
theorem dX7_talk_16 : decode cX7_talk 16 = .ok (.ireturn, 1) := by decide +kernel
theorem dX7_talk_17 : decode cX7_talk 17 = .ok (.iload_n 2, 1) := by decide +kernel
theorem dX7_talk_18 : decode cX7_talk 18 = .ok (.tableswitch 72 0 3 #[30, 40, 50, 60], 30) := by decide +kernel
theorem dX7_talk_48 : decode cX7_talk 48 = .ok (.aload_n 0, 1) := by decide +kernel
theorem dX7_talk_49 : decode cX7_talk 49 = .ok (.getfield 28, 3) := by decide +kernel
theorem dX7_talk_52 : decode cX7_talk 52 = .ok (.getfield 159, 3) := by decide +kernel
theorem dX7_talk_55 : decode cX7_talk 55 = .ok (.iload_n 1, 1) := by decide +kernel
theorem dX7_talk_56 : decode cX7_talk 56 = .ok (.iaload, 1) := by decide +kernel
theorem dX7_talk_57 : decode cX7_talk 57 = .ok (.ireturn, 1) := by decide +kernel
theorem dX7_talk_58 : decode cX7_talk 58 = .ok (.aload_n 0, 1) := by decide +kernel
theorem dX7_talk_59 : decode cX7_talk 59 = .ok (.getfield 28, 3) := by decide +kernel
theorem dX7_talk_62 : decode cX7_talk 62 = .ok (.getfield 162, 3) := by decide +kernel
theorem dX7_talk_65 : decode cX7_talk 65 = .ok (.iload_n 1, 1) := by decide +kernel
theorem dX7_talk_66 : decode cX7_talk 66 = .ok (.iaload, 1) := by decide +kernel
theorem dX7_talk_67 : decode cX7_talk 67 = .ok (.ireturn, 1) := by decide +kernel
theorem dX7_talk_68 : decode cX7_talk 68 = .ok (.aload_n 0, 1) := by decide +kernel
theorem dX7_talk_69 : decode cX7_talk 69 = .ok (.getfield 28, 3) := by decide +kernel
theorem dX7_talk_72 : decode cX7_talk 72 = .ok (.getfield 165, 3) := by decide +kernel
theorem dX7_talk_75 : decode cX7_talk 75 = .ok (.iload_n 1, 1) := by decide +kernel
theorem dX7_talk_76 : decode cX7_talk 76 = .ok (.iaload, 1) := by decide +kernel
theorem dX7_talk_77 : decode cX7_talk 77 = .ok (.ireturn, 1) := by decide +kernel
theorem dX7_talk_78 : decode cX7_talk 78 = .ok (.aload_n 0, 1) := by decide +kernel
theorem dX7_talk_79 : decode cX7_talk 79 = .ok (.getfield 28, 3) := by decide +kernel
theorem dX7_talk_82 : decode cX7_talk 82 = .ok (.iload_n 1, 1) := by decide +kernel
theorem dX7_talk_83 : decode cX7_talk 83 = .ok (.invokevirtual 168, 3) := by decide +kernel
theorem dX7_talk_86 : decode cX7_talk 86 = .ok (.invokestatic 148, 3) := by decide +kernel
theorem dX7_talk_89 : decode cX7_talk 89 = .ok (.ireturn, 1) := by decide +kernel
theorem dX7_talk_90 : decode cX7_talk 90 = .ok (.iconst (-1), 1) := by decide +kernel
theorem dX7_talk_91 : decode cX7_talk 91 = .ok (.ireturn, 1) := by decide +kernel
theorem dX7_law_0 : decode cX7_law 0 = .ok (.iload_n 1, 1) := by decide +kernel
theorem dX7_law_1 : decode cX7_law 1 = .ok (.ifCond .lt 8, 3) := by decide +kernel
theorem dX7_law_4 : decode cX7_law 4 = .ok (.iload_n 1, 1) := by decide +kernel
theorem dX7_law_5 : decode cX7_law 5 = .ok (.iconst 2, 1) := by decide +kernel
theorem dX7_law_6 : decode cX7_law 6 = .ok (.if_icmp .le 5, 3) := by decide +kernel
theorem dX7_law_9 : decode cX7_law 9 = .ok (.iconst (-1), 1) := by decide +kernel
theorem dX7_law_10 : decode cX7_law 10 = .ok (.ireturn, 1) := by decide +kernel
theorem dX7_law_11 : decode cX7_law 11 = .ok (.aload_n 0, 1) := by decide +kernel
theorem dX7_law_12 : decode cX7_law 12 = .ok (.getfield 28, 3) := by decide +kernel
theorem dX7_law_15 : decode cX7_law 15 = .ok (.getfield 116, 3) := by decide +kernel
theorem dX7_law_18 : decode cX7_law 18 = .ok (.istore_n 2, 1) := by decide +kernel
theorem dX7_law_19 : decode cX7_law 19 = .ok (.aload_n 0, 1) := by decide +kernel
theorem dX7_law_20 : decode cX7_law 20 = .ok (.getfield 28, 3) := by decide +kernel
theorem dX7_law_23 : decode cX7_law 23 = .ok (.iload_n 1, 1) := by decide +kernel
theorem dX7_law_24 : decode cX7_law 24 = .ok (.putfield 116, 3) := by decide +kernel
theorem dX7_law_27 : decode cX7_law 27 = .ok (.iload_n 2, 1) := by decide +kernel
theorem dX7_law_28 : decode cX7_law 28 = .ok (.ireturn, 1) := by decide +kernel
theorem dX7_fee_0 : decode cX7_fee 0 = .ok (.iload_n 1, 1) := by decide +kernel
theorem dX7_fee_1 : decode cX7_fee 1 = .ok (.ifCond .lt 9, 3) := by decide +kernel
theorem dX7_fee_4 : decode cX7_fee 4 = .ok (.iload_n 1, 1) := by decide +kernel
theorem dX7_fee_5 : decode cX7_fee 5 = .ok (.bipush 9, 2) := by decide +kernel
theorem dX7_fee_7 : decode cX7_fee 7 = .ok (.if_icmp .le 5, 3) := by decide +kernel
theorem dX7_fee_10 : decode cX7_fee 10 = .ok (.iconst (-1), 1) := by decide +kernel
theorem dX7_fee_11 : decode cX7_fee 11 = .ok (.ireturn, 1) := by decide +kernel
theorem dX7_fee_12 : decode cX7_fee 12 = .ok (.aload_n 0, 1) := by decide +kernel
theorem dX7_fee_13 : decode cX7_fee 13 = .ok (.getfield 28, 3) := by decide +kernel
theorem dX7_fee_16 : decode cX7_fee 16 = .ok (.getfield 119, 3) := by decide +kernel
theorem dX7_fee_19 : decode cX7_fee 19 = .ok (.istore_n 2, 1) := by decide +kernel
theorem dX7_fee_20 : decode cX7_fee 20 = .ok (.aload_n 0, 1) := by decide +kernel
theorem dX7_fee_21 : decode cX7_fee 21 = .ok (.getfield 28, 3) := by decide +kernel
theorem dX7_fee_24 : decode cX7_fee 24 = .ok (.iload_n 1, 1) := by decide +kernel
theorem dX7_fee_25 : decode cX7_fee 25 = .ok (.putfield 119, 3) := by decide +kernel
theorem dX7_fee_28 : decode cX7_fee 28 = .ok (.iload_n 2, 1) := by decide +kernel
theorem dX7_fee_29 : decode cX7_fee 29 = .ok (.ireturn, 1) := by decide +kernel
theorem dX7_give_0 : decode cX7_give 0 = .ok (.aload_n 0, 1) := by decide +kernel
theorem dX7_give_1 : decode cX7_give 1 = .ok (.getfield 28, 3) := by decide +kernel
theorem dX7_give_4 : decode cX7_give 4 = .ok (.iload_n 1, 1) := by decide +kernel
theorem dX7_give_5 : decode cX7_give 5 = .ok (.invokevirtual 136, 3) := by decide +kernel
theorem dX7_give_8 : decode cX7_give 8 = .ok (.ifCond .eq 14, 3) := by decide +kernel
theorem dX7_give_11 : decode cX7_give 11 = .ok (.aload_n 0, 1) := by decide +kernel
theorem dX7_give_12 : decode cX7_give 12 = .ok (.getfield 28, 3) := by decide +kernel
theorem dX7_give_15 : decode cX7_give 15 = .ok (.iload_n 2, 1) := by decide +kernel
theorem dX7_give_16 : decode cX7_give 16 = .ok (.invokevirtual 122, 3) := by decide +kernel
theorem dX7_give_19 : decode cX7_give 19 = .ok (.ifCond .ne 5, 3) := by decide +kernel
theorem dX7_give_22 : decode cX7_give 22 = .ok (.iconst (-1), 1) := by decide +kernel
theorem dX7_give_23 : decode cX7_give 23 = .ok (.ireturn, 1) := by decide +kernel
theorem dX7_give_24 : decode cX7_give 24 = .ok (.aload_n 0, 1) := by decide +kernel
theorem dX7_give_25 : decode cX7_give 25 = .ok (.getfield 28, 3) := by decide +kernel
theorem dX7_give_28 : decode cX7_give 28 = .ok (.iload_n 1, 1) := by decide +kernel
theorem dX7_give_29 : decode cX7_give 29 = .ok (.invokevirtual 171, 3) := by decide +kernel
theorem dX7_give_32 : decode cX7_give 32 = .ok (.ifCond .eq 6, 3) := by decide +kernel
theorem dX7_give_35 : decode cX7_give 35 = .ok (.bipush (-2), 2) := by decide +kernel
theorem dX7_give_37 : decode cX7_give 37 = .ok (.ireturn, 1) := by decide +kernel
theorem dX7_give_38 : decode cX7_give 38 = .ok (.aload_n 0, 1) := by decide +kernel
theorem dX7_give_39 : decode cX7_give 39 = .ok (.getfield 28, 3) := by decide +kernel
theorem dX7_give_42 : decode cX7_give 42 = .ok (.getfield 142, 3) := by decide +kernel
theorem dX7_give_45 : decode cX7_give 45 = .ok (.iload_n 1, 1) := by decide +kernel
theorem dX7_give_46 : decode cX7_give 46 = .ok (.iaload, 1) := by decide +kernel
theorem dX7_give_47 : decode cX7_give 47 = .ok (.istore_n 3, 1) := by decide +kernel
theorem dX7_give_48 : decode cX7_give 48 = .ok (.aload_n 0, 1) := by decide +kernel
theorem dX7_give_49 : decode cX7_give 49 = .ok (.getfield 28, 3) := by decide +kernel
theorem dX7_give_52 : decode cX7_give 52 = .ok (.getfield 142, 3) := by decide +kernel
theorem dX7_give_55 : decode cX7_give 55 = .ok (.iload_n 1, 1) := by decide +kernel
theorem dX7_give_56 : decode cX7_give 56 = .ok (.iload_n 2, 1) := by decide +kernel
theorem dX7_give_57 : decode cX7_give 57 = .ok (.iastore, 1) := by decide +kernel
theorem dX7_give_58 : decode cX7_give 58 = .ok (.iload_n 3, 1) := by decide +kernel
theorem dX7_give_59 : decode cX7_give 59 = .ok (.ireturn, 1) := by decide +kernel
theorem dX7_clip_0 : decode cX7_clip 0 = .ok (.aload_n 0, 1) := by decide +kernel
theorem dX7_clip_1 : decode cX7_clip 1 = .ok (.getfield 28, 3) := by decide +kernel
theorem dX7_clip_4 : decode cX7_clip 4 = .ok (.iload_n 1, 1) := by decide +kernel
theorem dX7_clip_5 : decode cX7_clip 5 = .ok (.invokevirtual 136, 3) := by decide +kernel
theorem dX7_clip_8 : decode cX7_clip 8 = .ok (.ifCond .ne 5, 3) := by decide +kernel
theorem dX7_clip_11 : decode cX7_clip 11 = .ok (.iconst (-1), 1) := by decide +kernel
theorem dX7_clip_12 : decode cX7_clip 12 = .ok (.ireturn, 1) := by decide +kernel
theorem dX7_clip_13 : decode cX7_clip 13 = .ok (.aload_n 0, 1) := by decide +kernel
theorem dX7_clip_14 : decode cX7_clip 14 = .ok (.getfield 28, 3) := by decide +kernel
theorem dX7_clip_17 : decode cX7_clip 17 = .ok (.getfield 145, 3) := by decide +kernel
theorem dX7_clip_20 : decode cX7_clip 20 = .ok (.iload_n 1, 1) := by decide +kernel
theorem dX7_clip_21 : decode cX7_clip 21 = .ok (.baload, 1) := by decide +kernel
theorem dX7_clip_22 : decode cX7_clip 22 = .ok (.ifCond .ne 7, 3) := by decide +kernel
theorem dX7_clip_25 : decode cX7_clip 25 = .ok (.iconst 1, 1) := by decide +kernel
theorem dX7_clip_26 : decode cX7_clip 26 = .ok (.goto 4, 3) := by decide +kernel
theorem dX7_clip_29 : decode cX7_clip 29 = .ok (.iconst 0, 1) := by decide +kernel
theorem dX7_clip_30 : decode cX7_clip 30 = .ok (.invokestatic 148, 3) := by decide +kernel
theorem dX7_clip_33 : decode cX7_clip 33 = .ok (.istore_n 2, 1) := by decide +kernel
theorem dX7_clip_34 : decode cX7_clip 34 = .ok (.aload_n 0, 1) := by decide +kernel
theorem dX7_clip_35 : decode cX7_clip 35 = .ok (.getfield 28, 3) := by decide +kernel
theorem dX7_clip_38 : decode cX7_clip 38 = .ok (.getfield 145, 3) := by decide +kernel
theorem dX7_clip_41 : decode cX7_clip 41 = .ok (.iload_n 1, 1) := by decide +kernel
theorem dX7_clip_42 : decode cX7_clip 42 = .ok (.iconst 1, 1) := by decide +kernel
theorem dX7_clip_43 : decode cX7_clip 43 = .ok (.bastore, 1) := by decide +kernel
theorem dX7_clip_44 : decode cX7_clip 44 = .ok (.iload_n 2, 1) := by decide +kernel
theorem dX7_clip_45 : decode cX7_clip 45 = .ok (.ireturn, 1) := by decide +kernel
theorem dX7_spend_0 : decode cX7_spend 0 = .ok (.aload_n 0, 1) := by decide +kernel
theorem dX7_spend_1 : decode cX7_spend 1 = .ok (.getfield 28, 3) := by decide +kernel
theorem dX7_spend_4 : decode cX7_spend 4 = .ok (.iload_n 1, 1) := by decide +kernel
theorem dX7_spend_5 : decode cX7_spend 5 = .ok (.invokevirtual 136, 3) := by decide +kernel
theorem dX7_spend_8 : decode cX7_spend 8 = .ok (.ifCond .eq 10, 3) := by decide +kernel
theorem dX7_spend_11 : decode cX7_spend 11 = .ok (.iload_n 2, 1) := by decide +kernel
theorem dX7_spend_12 : decode cX7_spend 12 = .ok (.invokestatic 174, 3) := by decide +kernel
theorem dX7_spend_15 : decode cX7_spend 15 = .ok (.ifCond .ne 5, 3) := by decide +kernel
theorem dX7_spend_18 : decode cX7_spend 18 = .ok (.iconst (-1), 1) := by decide +kernel
theorem dX7_spend_19 : decode cX7_spend 19 = .ok (.ireturn, 1) := by decide +kernel
theorem dX7_spend_20 : decode cX7_spend 20 = .ok (.aload_n 0, 1) := by decide +kernel
theorem dX7_spend_21 : decode cX7_spend 21 = .ok (.getfield 28, 3) := by decide +kernel
theorem dX7_spend_24 : decode cX7_spend 24 = .ok (.iload_n 1, 1) := by decide +kernel
theorem dX7_spend_25 : decode cX7_spend 25 = .ok (.invokevirtual 171, 3) := by decide +kernel
theorem dX7_spend_28 : decode cX7_spend 28 = .ok (.ifCond .eq 6, 3) := by decide +kernel
theorem dX7_spend_31 : decode cX7_spend 31 = .ok (.bipush (-2), 2) := by decide +kernel
theorem dX7_spend_33 : decode cX7_spend 33 = .ok (.ireturn, 1) := by decide +kernel
theorem dX7_spend_34 : decode cX7_spend 34 = .ok (.aload_n 0, 1) := by decide +kernel
theorem dX7_spend_35 : decode cX7_spend 35 = .ok (.getfield 28, 3) := by decide +kernel
theorem dX7_spend_38 : decode cX7_spend 38 = .ok (.getfield 152, 3) := by decide +kernel
theorem dX7_spend_41 : decode cX7_spend 41 = .ok (.iload_n 1, 1) := by decide +kernel
theorem dX7_spend_42 : decode cX7_spend 42 = .ok (.iload_n 2, 1) := by decide +kernel
theorem dX7_spend_43 : decode cX7_spend 43 = .ok (.iastore, 1) := by decide +kernel
theorem dX7_spend_44 : decode cX7_spend 44 = .ok (.aload_n 0, 1) := by decide +kernel
theorem dX7_spend_45 : decode cX7_spend 45 = .ok (.getfield 28, 3) := by decide +kernel
theorem dX7_spend_48 : decode cX7_spend 48 = .ok (.iload_n 1, 1) := by decide +kernel
theorem dX7_spend_49 : decode cX7_spend 49 = .ok (.aload_n 0, 1) := by decide +kernel
theorem dX7_spend_50 : decode cX7_spend 50 = .ok (.getfield 28, 3) := by decide +kernel
theorem dX7_spend_53 : decode cX7_spend 53 = .ok (.getfield 142, 3) := by decide +kernel
theorem dX7_spend_56 : decode cX7_spend 56 = .ok (.iload_n 1, 1) := by decide +kernel
theorem dX7_spend_57 : decode cX7_spend 57 = .ok (.iaload, 1) := by decide +kernel
theorem dX7_spend_58 : decode cX7_spend 58 = .ok (.invokevirtual 155, 3) := by decide +kernel
theorem dX7_spend_61 : decode cX7_spend 61 = .ok (.ireturn, 1) := by decide +kernel
theorem dX7_undo_0 : decode cX7_undo 0 = .ok (.aload_n 0, 1) := by decide +kernel
theorem dX7_undo_1 : decode cX7_undo 1 = .ok (.getfield 28, 3) := by decide +kernel
theorem dX7_undo_4 : decode cX7_undo 4 = .ok (.iload_n 1, 1) := by decide +kernel
theorem dX7_undo_5 : decode cX7_undo 5 = .ok (.invokevirtual 136, 3) := by decide +kernel
theorem dX7_undo_8 : decode cX7_undo 8 = .ok (.ifCond .ne 5, 3) := by decide +kernel
theorem dX7_undo_11 : decode cX7_undo 11 = .ok (.iconst (-1), 1) := by decide +kernel
theorem dX7_undo_12 : decode cX7_undo 12 = .ok (.ireturn, 1) := by decide +kernel
theorem dX7_undo_13 : decode cX7_undo 13 = .ok (.aload_n 0, 1) := by decide +kernel
theorem dX7_undo_14 : decode cX7_undo 14 = .ok (.getfield 28, 3) := by decide +kernel
theorem dX7_undo_17 : decode cX7_undo 17 = .ok (.getfield 152, 3) := by decide +kernel
theorem dX7_undo_20 : decode cX7_undo 20 = .ok (.iload_n 1, 1) := by decide +kernel
theorem dX7_undo_21 : decode cX7_undo 21 = .ok (.iaload, 1) := by decide +kernel
theorem dX7_undo_22 : decode cX7_undo 22 = .ok (.istore_n 2, 1) := by decide +kernel
theorem dX7_undo_23 : decode cX7_undo 23 = .ok (.aload_n 0, 1) := by decide +kernel
theorem dX7_undo_24 : decode cX7_undo 24 = .ok (.getfield 28, 3) := by decide +kernel
theorem dX7_undo_27 : decode cX7_undo 27 = .ok (.getfield 152, 3) := by decide +kernel
theorem dX7_undo_30 : decode cX7_undo 30 = .ok (.iload_n 1, 1) := by decide +kernel
theorem dX7_undo_31 : decode cX7_undo 31 = .ok (.bipush (-4), 2) := by decide +kernel
theorem dX7_undo_33 : decode cX7_undo 33 = .ok (.iastore, 1) := by decide +kernel
theorem dX7_undo_34 : decode cX7_undo 34 = .ok (.iload_n 2, 1) := by decide +kernel
theorem dX7_undo_35 : decode cX7_undo 35 = .ok (.ireturn, 1) := by decide +kernel
theorem dX7_speak_0 : decode cX7_speak 0 = .ok (.aload_n 0, 1) := by decide +kernel
theorem dX7_speak_1 : decode cX7_speak 1 = .ok (.getfield 28, 3) := by decide +kernel
theorem dX7_speak_4 : decode cX7_speak 4 = .ok (.iload_n 1, 1) := by decide +kernel
theorem dX7_speak_5 : decode cX7_speak 5 = .ok (.iload_n 2, 1) := by decide +kernel
theorem dX7_speak_6 : decode cX7_speak 6 = .ok (.iload_n 3, 1) := by decide +kernel
theorem dX7_speak_7 : decode cX7_speak 7 = .ok (.invokevirtual 177, 3) := by decide +kernel
theorem dX7_speak_10 : decode cX7_speak 10 = .ok (.ireturn, 1) := by decide +kernel
theorem dX7_silent_0 : decode cX7_silent 0 = .ok (.iload_n 1, 1) := by decide +kernel
theorem dX7_silent_1 : decode cX7_silent 1 = .ok (.invokestatic 174, 3) := by decide +kernel
theorem dX7_silent_4 : decode cX7_silent 4 = .ok (.ifCond .eq 14, 3) := by decide +kernel
theorem dX7_silent_7 : decode cX7_silent 7 = .ok (.aload_n 0, 1) := by decide +kernel
theorem dX7_silent_8 : decode cX7_silent 8 = .ok (.getfield 28, 3) := by decide +kernel
theorem dX7_silent_11 : decode cX7_silent 11 = .ok (.iload_n 1, 1) := by decide +kernel
theorem dX7_silent_12 : decode cX7_silent 12 = .ok (.invokevirtual 181, 3) := by decide +kernel
theorem dX7_silent_15 : decode cX7_silent 15 = .ok (.goto 4, 3) := by decide +kernel
theorem dX7_silent_18 : decode cX7_silent 18 = .ok (.iconst (-1), 1) := by decide +kernel
theorem dX7_silent_19 : decode cX7_silent 19 = .ok (.ireturn, 1) := by decide +kernel
theorem dX7_quiet_0 : decode cX7_quiet 0 = .ok (.aload_n 0, 1) := by decide +kernel
theorem dX7_quiet_1 : decode cX7_quiet 1 = .ok (.getfield 28, 3) := by decide +kernel
theorem dX7_quiet_4 : decode cX7_quiet 4 = .ok (.iload_n 1, 1) := by decide +kernel
theorem dX7_quiet_5 : decode cX7_quiet 5 = .ok (.invokevirtual 122, 3) := by decide +kernel
theorem dX7_quiet_8 : decode cX7_quiet 8 = .ok (.ifCond .ne 5, 3) := by decide +kernel
theorem dX7_quiet_11 : decode cX7_quiet 11 = .ok (.iconst (-1), 1) := by decide +kernel
theorem dX7_quiet_12 : decode cX7_quiet 12 = .ok (.ireturn, 1) := by decide +kernel
theorem dX7_quiet_13 : decode cX7_quiet 13 = .ok (.iconst 0, 1) := by decide +kernel
theorem dX7_quiet_14 : decode cX7_quiet 14 = .ok (.istore_n 2, 1) := by decide +kernel
theorem dX7_quiet_15 : decode cX7_quiet 15 = .ok (.iconst 0, 1) := by decide +kernel
theorem dX7_quiet_16 : decode cX7_quiet 16 = .ok (.istore_n 3, 1) := by decide +kernel
theorem dX7_quiet_17 : decode cX7_quiet 17 = .ok (.iload_n 3, 1) := by decide +kernel
theorem dX7_quiet_18 : decode cX7_quiet 18 = .ok (.bipush 12, 2) := by decide +kernel
theorem dX7_quiet_20 : decode cX7_quiet 20 = .ok (.if_icmp .ge 30, 3) := by decide +kernel
theorem dX7_quiet_23 : decode cX7_quiet 23 = .ok (.aload_n 0, 1) := by decide +kernel
theorem dX7_quiet_24 : decode cX7_quiet 24 = .ok (.getfield 28, 3) := by decide +kernel
theorem dX7_quiet_27 : decode cX7_quiet 27 = .ok (.iload_n 3, 1) := by decide +kernel
theorem dX7_quiet_28 : decode cX7_quiet 28 = .ok (.invokevirtual 181, 3) := by decide +kernel
theorem dX7_quiet_31 : decode cX7_quiet 31 = .ok (.iload_n 1, 1) := by decide +kernel
theorem dX7_quiet_32 : decode cX7_quiet 32 = .ok (.invokestatic 184, 3) := by decide +kernel
theorem dX7_quiet_35 : decode cX7_quiet 35 = .ok (.ifCond .eq 9, 3) := by decide +kernel
theorem dX7_quiet_38 : decode cX7_quiet 38 = .ok (.iload_n 2, 1) := by decide +kernel
theorem dX7_quiet_39 : decode cX7_quiet 39 = .ok (.iconst 1, 1) := by decide +kernel
theorem dX7_quiet_40 : decode cX7_quiet 40 = .ok (.iload_n 3, 1) := by decide +kernel
theorem dX7_quiet_41 : decode cX7_quiet 41 = .ok (.ishl, 1) := by decide +kernel
theorem dX7_quiet_42 : decode cX7_quiet 42 = .ok (.ior, 1) := by decide +kernel
theorem dX7_quiet_43 : decode cX7_quiet 43 = .ok (.istore_n 2, 1) := by decide +kernel
theorem dX7_quiet_44 : decode cX7_quiet 44 = .ok (.iinc 3 1, 3) := by decide +kernel
theorem dX7_quiet_47 : decode cX7_quiet 47 = .ok (.goto (-30), 3) := by decide +kernel
theorem dX7_quiet_50 : decode cX7_quiet 50 = .ok (.iload_n 2, 1) := by decide +kernel
theorem dX7_quiet_51 : decode cX7_quiet 51 = .ok (.ireturn, 1) := by decide +kernel
theorem dX7_may_0 : decode cX7_may 0 = .ok (.aload_n 0, 1) := by decide +kernel
theorem dX7_may_1 : decode cX7_may 1 = .ok (.getfield 28, 3) := by decide +kernel
theorem dX7_may_4 : decode cX7_may 4 = .ok (.iload_n 1, 1) := by decide +kernel
theorem dX7_may_5 : decode cX7_may 5 = .ok (.iload_n 2, 1) := by decide +kernel
theorem dX7_may_6 : decode cX7_may 6 = .ok (.iload_n 3, 1) := by decide +kernel
theorem dX7_may_7 : decode cX7_may 7 = .ok (.invokevirtual 188, 3) := by decide +kernel
theorem dX7_may_10 : decode cX7_may 10 = .ok (.ifCond .ne 5, 3) := by decide +kernel
theorem dX7_may_13 : decode cX7_may 13 = .ok (.iconst (-1), 1) := by decide +kernel
theorem dX7_may_14 : decode cX7_may 14 = .ok (.ireturn, 1) := by decide +kernel
theorem dX7_may_15 : decode cX7_may 15 = .ok (.aload_n 0, 1) := by decide +kernel
theorem dX7_may_16 : decode cX7_may 16 = .ok (.getfield 28, 3) := by decide +kernel
theorem dX7_may_19 : decode cX7_may 19 = .ok (.aload_n 0, 1) := by decide +kernel
theorem dX7_may_20 : decode cX7_may 20 = .ok (.getfield 28, 3) := by decide +kernel
theorem dX7_may_23 : decode cX7_may 23 = .ok (.iload_n 1, 1) := by decide +kernel
theorem dX7_may_24 : decode cX7_may 24 = .ok (.invokevirtual 181, 3) := by decide +kernel
theorem dX7_may_27 : decode cX7_may 27 = .ok (.iload_n 2, 1) := by decide +kernel
theorem dX7_may_28 : decode cX7_may 28 = .ok (.iload_n 3, 1) := by decide +kernel
theorem dX7_may_29 : decode cX7_may 29 = .ok (.invokevirtual 192, 3) := by decide +kernel
theorem dX7_may_32 : decode cX7_may 32 = .ok (.invokestatic 148, 3) := by decide +kernel
theorem dX7_may_35 : decode cX7_may 35 = .ok (.ireturn, 1) := by decide +kernel
theorem dX7_said_0 : decode cX7_said 0 = .ok (.iconst 0, 1) := by decide +kernel
theorem dX7_said_1 : decode cX7_said 1 = .ok (.istore_n 1, 1) := by decide +kernel
theorem dX7_said_2 : decode cX7_said 2 = .ok (.iconst 0, 1) := by decide +kernel
theorem dX7_said_3 : decode cX7_said 3 = .ok (.istore_n 2, 1) := by decide +kernel
theorem dX7_said_4 : decode cX7_said 4 = .ok (.iload_n 2, 1) := by decide +kernel
theorem dX7_said_5 : decode cX7_said 5 = .ok (.aload_n 0, 1) := by decide +kernel
theorem dX7_said_6 : decode cX7_said 6 = .ok (.getfield 28, 3) := by decide +kernel
theorem dX7_said_9 : decode cX7_said 9 = .ok (.getfield 113, 3) := by decide +kernel
theorem dX7_said_12 : decode cX7_said 12 = .ok (.if_icmp .ge 26, 3) := by decide +kernel
theorem dX7_said_15 : decode cX7_said 15 = .ok (.aload_n 0, 1) := by decide +kernel
theorem dX7_said_16 : decode cX7_said 16 = .ok (.getfield 28, 3) := by decide +kernel
theorem dX7_said_19 : decode cX7_said 19 = .ok (.iload_n 2, 1) := by decide +kernel
theorem dX7_said_20 : decode cX7_said 20 = .ok (.invokevirtual 168, 3) := by decide +kernel
theorem dX7_said_23 : decode cX7_said 23 = .ok (.ifCond .eq 9, 3) := by decide +kernel
theorem dX7_said_26 : decode cX7_said 26 = .ok (.iload_n 1, 1) := by decide +kernel
theorem dX7_said_27 : decode cX7_said 27 = .ok (.iconst 1, 1) := by decide +kernel
theorem dX7_said_28 : decode cX7_said 28 = .ok (.iload_n 2, 1) := by decide +kernel
theorem dX7_said_29 : decode cX7_said 29 = .ok (.ishl, 1) := by decide +kernel
theorem dX7_said_30 : decode cX7_said 30 = .ok (.ior, 1) := by decide +kernel
theorem dX7_said_31 : decode cX7_said 31 = .ok (.istore_n 1, 1) := by decide +kernel
theorem dX7_said_32 : decode cX7_said 32 = .ok (.iinc 2 1, 3) := by decide +kernel
theorem dX7_said_35 : decode cX7_said 35 = .ok (.goto (-31), 3) := by decide +kernel
theorem dX7_said_38 : decode cX7_said 38 = .ok (.iload_n 1, 1) := by decide +kernel
theorem dX7_said_39 : decode cX7_said 39 = .ok (.ireturn, 1) := by decide +kernel
theorem dX7_knows_0 : decode cX7_knows 0 = .ok (.aload_n 0, 1) := by decide +kernel
theorem dX7_knows_1 : decode cX7_knows 1 = .ok (.getfield 28, 3) := by decide +kernel
theorem dX7_knows_4 : decode cX7_knows 4 = .ok (.iload_n 1, 1) := by decide +kernel
theorem dX7_knows_5 : decode cX7_knows 5 = .ok (.invokevirtual 122, 3) := by decide +kernel
theorem dX7_knows_8 : decode cX7_knows 8 = .ok (.ifCond .eq 10, 3) := by decide +kernel
theorem dX7_knows_11 : decode cX7_knows 11 = .ok (.iload_n 2, 1) := by decide +kernel
theorem dX7_knows_12 : decode cX7_knows 12 = .ok (.invokestatic 174, 3) := by decide +kernel
theorem dX7_knows_15 : decode cX7_knows 15 = .ok (.ifCond .ne 5, 3) := by decide +kernel
theorem dX7_knows_18 : decode cX7_knows 18 = .ok (.iconst (-1), 1) := by decide +kernel
theorem dX7_knows_19 : decode cX7_knows 19 = .ok (.ireturn, 1) := by decide +kernel
theorem dX7_knows_20 : decode cX7_knows 20 = .ok (.aload_n 0, 1) := by decide +kernel
theorem dX7_knows_21 : decode cX7_knows 21 = .ok (.getfield 37, 3) := by decide +kernel
theorem dX7_knows_24 : decode cX7_knows 24 = .ok (.invokevirtual 195, 3) := by decide +kernel
theorem dX7_knows_27 : decode cX7_knows 27 = .ok (.aload_n 0, 1) := by decide +kernel
theorem dX7_knows_28 : decode cX7_knows 28 = .ok (.getfield 37, 3) := by decide +kernel
theorem dX7_knows_31 : decode cX7_knows 31 = .ok (.iload_n 1, 1) := by decide +kernel
theorem dX7_knows_32 : decode cX7_knows 32 = .ok (.iload_n 2, 1) := by decide +kernel
theorem dX7_knows_33 : decode cX7_knows 33 = .ok (.invokevirtual 198, 3) := by decide +kernel
theorem dX7_knows_36 : decode cX7_knows 36 = .ok (.ireturn, 1) := by decide +kernel
theorem dX7_learns_0 : decode cX7_learns 0 = .ok (.aload_n 0, 1) := by decide +kernel
theorem dX7_learns_1 : decode cX7_learns 1 = .ok (.getfield 28, 3) := by decide +kernel
theorem dX7_learns_4 : decode cX7_learns 4 = .ok (.iload_n 1, 1) := by decide +kernel
theorem dX7_learns_5 : decode cX7_learns 5 = .ok (.invokevirtual 122, 3) := by decide +kernel
theorem dX7_learns_8 : decode cX7_learns 8 = .ok (.ifCond .eq 14, 3) := by decide +kernel
theorem dX7_learns_11 : decode cX7_learns 11 = .ok (.aload_n 0, 1) := by decide +kernel
theorem dX7_learns_12 : decode cX7_learns 12 = .ok (.getfield 28, 3) := by decide +kernel
theorem dX7_learns_15 : decode cX7_learns 15 = .ok (.iload_n 2, 1) := by decide +kernel
theorem dX7_learns_16 : decode cX7_learns 16 = .ok (.invokevirtual 122, 3) := by decide +kernel
theorem dX7_learns_19 : decode cX7_learns 19 = .ok (.ifCond .ne 5, 3) := by decide +kernel
theorem dX7_learns_22 : decode cX7_learns 22 = .ok (.iconst (-1), 1) := by decide +kernel
theorem dX7_learns_23 : decode cX7_learns 23 = .ok (.ireturn, 1) := by decide +kernel
theorem dX7_learns_24 : decode cX7_learns 24 = .ok (.aload_n 0, 1) := by decide +kernel
theorem dX7_learns_25 : decode cX7_learns 25 = .ok (.getfield 37, 3) := by decide +kernel
theorem dX7_learns_28 : decode cX7_learns 28 = .ok (.invokevirtual 195, 3) := by decide +kernel
theorem dX7_learns_31 : decode cX7_learns 31 = .ok (.aload_n 0, 1) := by decide +kernel
theorem dX7_learns_32 : decode cX7_learns 32 = .ok (.getfield 37, 3) := by decide +kernel
theorem dX7_learns_35 : decode cX7_learns 35 = .ok (.iload_n 1, 1) := by decide +kernel
theorem dX7_learns_36 : decode cX7_learns 36 = .ok (.iload_n 2, 1) := by decide +kernel
theorem dX7_learns_37 : decode cX7_learns 37 = .ok (.invokevirtual 201, 3) := by decide +kernel
theorem dX7_learns_40 : decode cX7_learns 40 = .ok (.ireturn, 1) := by decide +kernel
theorem dX7_hush_0 : decode cX7_hush 0 = .ok (.aload_n 0, 1) := by decide +kernel
theorem dX7_hush_1 : decode cX7_hush 1 = .ok (.getfield 28, 3) := by decide +kernel
theorem dX7_hush_4 : decode cX7_hush 4 = .ok (.iload_n 1, 1) := by decide +kernel
theorem dX7_hush_5 : decode cX7_hush 5 = .ok (.invokevirtual 122, 3) := by decide +kernel
theorem dX7_hush_8 : decode cX7_hush 8 = .ok (.ifCond .eq 28, 3) := by decide +kernel
theorem dX7_hush_11 : decode cX7_hush 11 = .ok (.aload_n 0, 1) := by decide +kernel
theorem dX7_hush_12 : decode cX7_hush 12 = .ok (.getfield 28, 3) := by decide +kernel
theorem dX7_hush_15 : decode cX7_hush 15 = .ok (.iload_n 2, 1) := by decide +kernel
theorem dX7_hush_16 : decode cX7_hush 16 = .ok (.invokevirtual 122, 3) := by decide +kernel
theorem dX7_hush_19 : decode cX7_hush 19 = .ok (.ifCond .eq 17, 3) := by decide +kernel
theorem dX7_hush_22 : decode cX7_hush 22 = .ok (.iload_n 1, 1) := by decide +kernel
theorem dX7_hush_23 : decode cX7_hush 23 = .ok (.iload_n 2, 1) := by decide +kernel
theorem dX7_hush_24 : decode cX7_hush 24 = .ok (.if_icmp .eq 12, 3) := by decide +kernel
theorem dX7_hush_27 : decode cX7_hush 27 = .ok (.iload_n 3, 1) := by decide +kernel
theorem dX7_hush_28 : decode cX7_hush 28 = .ok (.ifCond .lt 8, 3) := by decide +kernel
theorem dX7_hush_31 : decode cX7_hush 31 = .ok (.iload_n 3, 1) := by decide +kernel
theorem dX7_hush_32 : decode cX7_hush 32 = .ok (.iconst 1, 1) := by decide +kernel
theorem dX7_hush_33 : decode cX7_hush 33 = .ok (.if_icmp .le 5, 3) := by decide +kernel
theorem dX7_hush_36 : decode cX7_hush 36 = .ok (.iconst (-1), 1) := by decide +kernel
theorem dX7_hush_37 : decode cX7_hush 37 = .ok (.ireturn, 1) := by decide +kernel
theorem dX7_hush_38 : decode cX7_hush 38 = .ok (.aload_n 0, 1) := by decide +kernel
theorem dX7_hush_39 : decode cX7_hush 39 = .ok (.getfield 37, 3) := by decide +kernel
theorem dX7_hush_42 : decode cX7_hush 42 = .ok (.invokevirtual 195, 3) := by decide +kernel
theorem dX7_hush_45 : decode cX7_hush 45 = .ok (.aload_n 0, 1) := by decide +kernel
theorem dX7_hush_46 : decode cX7_hush 46 = .ok (.getfield 37, 3) := by decide +kernel
theorem dX7_hush_49 : decode cX7_hush 49 = .ok (.iload_n 1, 1) := by decide +kernel
theorem dX7_hush_50 : decode cX7_hush 50 = .ok (.iload_n 2, 1) := by decide +kernel
theorem dX7_hush_51 : decode cX7_hush 51 = .ok (.invokevirtual 201, 3) := by decide +kernel
theorem dX7_hush_54 : decode cX7_hush 54 = .ok (.bipush (-4), 2) := by decide +kernel
theorem dX7_hush_56 : decode cX7_hush 56 = .ok (.if_icmp .ne 6, 3) := by decide +kernel
theorem dX7_hush_59 : decode cX7_hush 59 = .ok (.bipush (-2), 2) := by decide +kernel
theorem dX7_hush_61 : decode cX7_hush 61 = .ok (.ireturn, 1) := by decide +kernel
theorem dX7_hush_62 : decode cX7_hush 62 = .ok (.iconst 0, 1) := by decide +kernel
theorem dX7_hush_63 : decode cX7_hush 63 = .ok (.istore 4, 2) := by decide +kernel
theorem dX7_hush_65 : decode cX7_hush 65 = .ok (.iload 4, 2) := by decide +kernel
theorem dX7_hush_67 : decode cX7_hush 67 = .ok (.aload_n 0, 1) := by decide +kernel
theorem dX7_hush_68 : decode cX7_hush 68 = .ok (.getfield 28, 3) := by decide +kernel
theorem dX7_hush_71 : decode cX7_hush 71 = .ok (.getfield 110, 3) := by decide +kernel
theorem dX7_hush_74 : decode cX7_hush 74 = .ok (.if_icmp .ge 58, 3) := by decide +kernel
theorem dX7_hush_77 : decode cX7_hush 77 = .ok (.aload_n 0, 1) := by decide +kernel
theorem dX7_hush_78 : decode cX7_hush 78 = .ok (.getfield 28, 3) := by decide +kernel
theorem dX7_hush_81 : decode cX7_hush 81 = .ok (.iload 4, 2) := by decide +kernel
theorem dX7_hush_83 : decode cX7_hush 83 = .ok (.invokevirtual 171, 3) := by decide +kernel
theorem dX7_hush_86 : decode cX7_hush 86 = .ok (.ifCond .eq 8, 3) := by decide +kernel
theorem dX7_hush_89 : decode cX7_hush 89 = .ok (.bipush (-4), 2) := by decide +kernel
theorem dX7_hush_91 : decode cX7_hush 91 = .ok (.goto 14, 3) := by decide +kernel
theorem dX7_hush_94 : decode cX7_hush 94 = .ok (.aload_n 0, 1) := by decide +kernel
theorem dX7_hush_95 : decode cX7_hush 95 = .ok (.getfield 37, 3) := by decide +kernel
theorem dX7_hush_98 : decode cX7_hush 98 = .ok (.iload 4, 2) := by decide +kernel
theorem dX7_hush_100 : decode cX7_hush 100 = .ok (.iload_n 1, 1) := by decide +kernel
theorem dX7_hush_101 : decode cX7_hush 101 = .ok (.iload_n 2, 1) := by decide +kernel
theorem dX7_hush_102 : decode cX7_hush 102 = .ok (.invokevirtual 204, 3) := by decide +kernel
theorem dX7_hush_105 : decode cX7_hush 105 = .ok (.istore 5, 2) := by decide +kernel
theorem dX7_hush_107 : decode cX7_hush 107 = .ok (.iload 5, 2) := by decide +kernel
theorem dX7_hush_109 : decode cX7_hush 109 = .ok (.bipush (-4), 2) := by decide +kernel
end
section
theorem dX7_hush_111 : decode cX7_hush 111 = .ok (.if_icmp .eq 15, 3) := by decide +kernel
theorem dX7_hush_114 : decode cX7_hush 114 = .ok (.iload_n 3, 1) := by decide +kernel
theorem dX7_hush_115 : decode cX7_hush 115 = .ok (.ifCond .ne 8, 3) := by decide +kernel
theorem dX7_hush_118 : decode cX7_hush 118 = .ok (.iload 4, 2) := by decide +kernel
theorem dX7_hush_120 : decode cX7_hush 120 = .ok (.goto 5, 3) := by decide +kernel
theorem dX7_hush_123 : decode cX7_hush 123 = .ok (.iload 5, 2) := by decide +kernel
theorem dX7_hush_125 : decode cX7_hush 125 = .ok (.ireturn, 1) := by decide +kernel
theorem dX7_hush_126 : decode cX7_hush 126 = .ok (.iinc 4 1, 3) := by decide +kernel
theorem dX7_hush_129 : decode cX7_hush 129 = .ok (.goto (-64), 3) := by decide +kernel
theorem dX7_hush_132 : decode cX7_hush 132 = .ok (.bipush (-4), 2) := by decide +kernel
theorem dX7_hush_134 : decode cX7_hush 134 = .ok (.ireturn, 1) := by decide +kernel
theorem dX7_hear_0 : decode cX7_hear 0 = .ok (.aload_n 0, 1) := by decide +kernel
theorem dX7_hear_1 : decode cX7_hear 1 = .ok (.getfield 28, 3) := by decide +kernel
theorem dX7_hear_4 : decode cX7_hear 4 = .ok (.iload_n 1, 1) := by decide +kernel
theorem dX7_hear_5 : decode cX7_hear 5 = .ok (.invokevirtual 122, 3) := by decide +kernel
theorem dX7_hear_8 : decode cX7_hear 8 = .ok (.ifCond .eq 15, 3) := by decide +kernel
theorem dX7_hear_11 : decode cX7_hear 11 = .ok (.aload_n 0, 1) := by decide +kernel
theorem dX7_hear_12 : decode cX7_hear 12 = .ok (.getfield 37, 3) := by decide +kernel
theorem dX7_hear_15 : decode cX7_hear 15 = .ok (.iload_n 1, 1) := by decide +kernel
theorem dX7_hear_16 : decode cX7_hear 16 = .ok (.iload_n 2, 1) := by decide +kernel
theorem dX7_hear_17 : decode cX7_hear 17 = .ok (.invokevirtual 207, 3) := by decide +kernel
theorem dX7_hear_20 : decode cX7_hear 20 = .ok (.goto 4, 3) := by decide +kernel
theorem dX7_hear_23 : decode cX7_hear 23 = .ok (.iconst (-1), 1) := by decide +kernel
theorem dX7_hear_24 : decode cX7_hear 24 = .ok (.ireturn, 1) := by decide +kernel
theorem dX7_forget_0 : decode cX7_forget 0 = .ok (.aload_n 0, 1) := by decide +kernel
theorem dX7_forget_1 : decode cX7_forget 1 = .ok (.getfield 37, 3) := by decide +kernel
theorem dX7_forget_4 : decode cX7_forget 4 = .ok (.getfield 95, 3) := by decide +kernel
theorem dX7_forget_7 : decode cX7_forget 7 = .ok (.istore_n 2, 1) := by decide +kernel
theorem dX7_forget_8 : decode cX7_forget 8 = .ok (.iload_n 1, 1) := by decide +kernel
theorem dX7_forget_9 : decode cX7_forget 9 = .ok (.ifCond .lt 8, 3) := by decide +kernel
theorem dX7_forget_12 : decode cX7_forget 12 = .ok (.iload_n 1, 1) := by decide +kernel
theorem dX7_forget_13 : decode cX7_forget 13 = .ok (.iload_n 2, 1) := by decide +kernel
theorem dX7_forget_14 : decode cX7_forget 14 = .ok (.if_icmp .le 5, 3) := by decide +kernel
theorem dX7_forget_17 : decode cX7_forget 17 = .ok (.iconst (-1), 1) := by decide +kernel
theorem dX7_forget_18 : decode cX7_forget 18 = .ok (.ireturn, 1) := by decide +kernel
theorem dX7_forget_19 : decode cX7_forget 19 = .ok (.aload_n 0, 1) := by decide +kernel
theorem dX7_forget_20 : decode cX7_forget 20 = .ok (.getfield 37, 3) := by decide +kernel
theorem dX7_forget_23 : decode cX7_forget 23 = .ok (.iload_n 1, 1) := by decide +kernel
theorem dX7_forget_24 : decode cX7_forget 24 = .ok (.putfield 95, 3) := by decide +kernel
theorem dX7_forget_27 : decode cX7_forget 27 = .ok (.iload_n 2, 1) := by decide +kernel
theorem dX7_forget_28 : decode cX7_forget 28 = .ok (.ireturn, 1) := by decide +kernel
theorem dX7_first_0 : decode cX7_first 0 = .ok (.aload_n 0, 1) := by decide +kernel
theorem dX7_first_1 : decode cX7_first 1 = .ok (.getfield 37, 3) := by decide +kernel
theorem dX7_first_4 : decode cX7_first 4 = .ok (.invokevirtual 195, 3) := by decide +kernel
theorem dX7_first_7 : decode cX7_first 7 = .ok (.iconst 0, 1) := by decide +kernel
theorem dX7_first_8 : decode cX7_first 8 = .ok (.istore_n 1, 1) := by decide +kernel
theorem dX7_first_9 : decode cX7_first 9 = .ok (.iconst 0, 1) := by decide +kernel
theorem dX7_first_10 : decode cX7_first 10 = .ok (.istore_n 2, 1) := by decide +kernel
theorem dX7_first_11 : decode cX7_first 11 = .ok (.iload_n 2, 1) := by decide +kernel
theorem dX7_first_12 : decode cX7_first 12 = .ok (.aload_n 0, 1) := by decide +kernel
theorem dX7_first_13 : decode cX7_first 13 = .ok (.getfield 28, 3) := by decide +kernel
theorem dX7_first_16 : decode cX7_first 16 = .ok (.getfield 107, 3) := by decide +kernel
theorem dX7_first_19 : decode cX7_first 19 = .ok (.if_icmp .ge 26, 3) := by decide +kernel
theorem dX7_first_22 : decode cX7_first 22 = .ok (.aload_n 0, 1) := by decide +kernel
theorem dX7_first_23 : decode cX7_first 23 = .ok (.getfield 37, 3) := by decide +kernel
theorem dX7_first_26 : decode cX7_first 26 = .ok (.iload_n 2, 1) := by decide +kernel
theorem dX7_first_27 : decode cX7_first 27 = .ok (.invokevirtual 211, 3) := by decide +kernel
theorem dX7_first_30 : decode cX7_first 30 = .ok (.ifCond .eq 9, 3) := by decide +kernel
theorem dX7_first_33 : decode cX7_first 33 = .ok (.iload_n 1, 1) := by decide +kernel
theorem dX7_first_34 : decode cX7_first 34 = .ok (.iconst 1, 1) := by decide +kernel
theorem dX7_first_35 : decode cX7_first 35 = .ok (.iload_n 2, 1) := by decide +kernel
theorem dX7_first_36 : decode cX7_first 36 = .ok (.ishl, 1) := by decide +kernel
theorem dX7_first_37 : decode cX7_first 37 = .ok (.ior, 1) := by decide +kernel
theorem dX7_first_38 : decode cX7_first 38 = .ok (.istore_n 1, 1) := by decide +kernel
theorem dX7_first_39 : decode cX7_first 39 = .ok (.iinc 2 1, 3) := by decide +kernel
theorem dX7_first_42 : decode cX7_first 42 = .ok (.goto (-31), 3) := by decide +kernel
theorem dX7_first_45 : decode cX7_first 45 = .ok (.iload_n 1, 1) := by decide +kernel
theorem dX7_first_46 : decode cX7_first 46 = .ok (.ireturn, 1) := by decide +kernel
theorem dX7_funeral_0 : decode cX7_funeral 0 = .ok (.iload_n 1, 1) := by decide +kernel
theorem dX7_funeral_1 : decode cX7_funeral 1 = .ok (.aload_n 0, 1) := by decide +kernel
theorem dX7_funeral_2 : decode cX7_funeral 2 = .ok (.getfield 28, 3) := by decide +kernel
theorem dX7_funeral_5 : decode cX7_funeral 5 = .ok (.getfield 107, 3) := by decide +kernel
theorem dX7_funeral_8 : decode cX7_funeral 8 = .ok (.invokestatic 214, 3) := by decide +kernel
theorem dX7_funeral_11 : decode cX7_funeral 11 = .ok (.ifCond .eq 14, 3) := by decide +kernel
theorem dX7_funeral_14 : decode cX7_funeral 14 = .ok (.iload_n 2, 1) := by decide +kernel
theorem dX7_funeral_15 : decode cX7_funeral 15 = .ok (.iconst 1, 1) := by decide +kernel
theorem dX7_funeral_16 : decode cX7_funeral 16 = .ok (.if_icmp .lt 9, 3) := by decide +kernel
theorem dX7_funeral_19 : decode cX7_funeral 19 = .ok (.iload_n 2, 1) := by decide +kernel
theorem dX7_funeral_20 : decode cX7_funeral 20 = .ok (.bipush 12, 2) := by decide +kernel
theorem dX7_funeral_22 : decode cX7_funeral 22 = .ok (.if_icmp .le 5, 3) := by decide +kernel
theorem dX7_funeral_25 : decode cX7_funeral 25 = .ok (.iconst (-1), 1) := by decide +kernel
theorem dX7_funeral_26 : decode cX7_funeral 26 = .ok (.ireturn, 1) := by decide +kernel
theorem dX7_funeral_27 : decode cX7_funeral 27 = .ok (.iload_n 3, 1) := by decide +kernel
theorem dX7_funeral_28 : decode cX7_funeral 28 = .ok (.bipush 10, 2) := by decide +kernel
theorem dX7_funeral_30 : decode cX7_funeral 30 = .ok (.isub, 1) := by decide +kernel
theorem dX7_funeral_31 : decode cX7_funeral 31 = .ok (.istore 4, 2) := by decide +kernel
theorem dX7_funeral_33 : decode cX7_funeral 33 = .ok (.iload_n 3, 1) := by decide +kernel
theorem dX7_funeral_34 : decode cX7_funeral 34 = .ok (.bipush 10, 2) := by decide +kernel
theorem dX7_funeral_36 : decode cX7_funeral 36 = .ok (.if_icmp .lt 19, 3) := by decide +kernel
theorem dX7_funeral_39 : decode cX7_funeral 39 = .ok (.aload_n 0, 1) := by decide +kernel
theorem dX7_funeral_40 : decode cX7_funeral 40 = .ok (.getfield 28, 3) := by decide +kernel
theorem dX7_funeral_43 : decode cX7_funeral 43 = .ok (.iload 4, 2) := by decide +kernel
theorem dX7_funeral_45 : decode cX7_funeral 45 = .ok (.invokevirtual 136, 3) := by decide +kernel
theorem dX7_funeral_48 : decode cX7_funeral 48 = .ok (.ifCond .eq 7, 3) := by decide +kernel
theorem dX7_funeral_51 : decode cX7_funeral 51 = .ok (.iconst 1, 1) := by decide +kernel
theorem dX7_funeral_52 : decode cX7_funeral 52 = .ok (.goto 4, 3) := by decide +kernel
theorem dX7_funeral_55 : decode cX7_funeral 55 = .ok (.iconst 0, 1) := by decide +kernel
theorem dX7_funeral_56 : decode cX7_funeral 56 = .ok (.istore 5, 2) := by decide +kernel
theorem dX7_funeral_58 : decode cX7_funeral 58 = .ok (.iload_n 3, 1) := by decide +kernel
theorem dX7_funeral_59 : decode cX7_funeral 59 = .ok (.ifCond .eq 10, 3) := by decide +kernel
theorem dX7_funeral_62 : decode cX7_funeral 62 = .ok (.iload 5, 2) := by decide +kernel
theorem dX7_funeral_64 : decode cX7_funeral 64 = .ok (.ifCond .ne 5, 3) := by decide +kernel
theorem dX7_funeral_67 : decode cX7_funeral 67 = .ok (.iconst (-1), 1) := by decide +kernel
theorem dX7_funeral_68 : decode cX7_funeral 68 = .ok (.ireturn, 1) := by decide +kernel
theorem dX7_funeral_69 : decode cX7_funeral 69 = .ok (.aload_n 0, 1) := by decide +kernel
theorem dX7_funeral_70 : decode cX7_funeral 70 = .ok (.getfield 44, 3) := by decide +kernel
theorem dX7_funeral_73 : decode cX7_funeral 73 = .ok (.iload_n 1, 1) := by decide +kernel
theorem dX7_funeral_74 : decode cX7_funeral 74 = .ok (.iload_n 2, 1) := by decide +kernel
theorem dX7_funeral_75 : decode cX7_funeral 75 = .ok (.invokevirtual 217, 3) := by decide +kernel
theorem dX7_funeral_78 : decode cX7_funeral 78 = .ok (.ifCond .ne 6, 3) := by decide +kernel
theorem dX7_funeral_81 : decode cX7_funeral 81 = .ok (.bipush (-4), 2) := by decide +kernel
theorem dX7_funeral_83 : decode cX7_funeral 83 = .ok (.ireturn, 1) := by decide +kernel
theorem dX7_funeral_84 : decode cX7_funeral 84 = .ok (.iload 5, 2) := by decide +kernel
theorem dX7_funeral_86 : decode cX7_funeral 86 = .ok (.ifCond .eq 16, 3) := by decide +kernel
theorem dX7_funeral_89 : decode cX7_funeral 89 = .ok (.aload_n 0, 1) := by decide +kernel
theorem dX7_funeral_90 : decode cX7_funeral 90 = .ok (.getfield 44, 3) := by decide +kernel
theorem dX7_funeral_93 : decode cX7_funeral 93 = .ok (.getfield 220, 3) := by decide +kernel
theorem dX7_funeral_96 : decode cX7_funeral 96 = .ok (.iload 4, 2) := by decide +kernel
theorem dX7_funeral_98 : decode cX7_funeral 98 = .ok (.iaload, 1) := by decide +kernel
theorem dX7_funeral_99 : decode cX7_funeral 99 = .ok (.goto 10, 3) := by decide +kernel
theorem dX7_funeral_102 : decode cX7_funeral 102 = .ok (.aload_n 0, 1) := by decide +kernel
theorem dX7_funeral_103 : decode cX7_funeral 103 = .ok (.getfield 44, 3) := by decide +kernel
theorem dX7_funeral_106 : decode cX7_funeral 106 = .ok (.getfield 223, 3) := by decide +kernel
theorem dX7_funeral_109 : decode cX7_funeral 109 = .ok (.ireturn, 1) := by decide +kernel
theorem dX7_raid_0 : decode cX7_raid 0 = .ok (.iload_n 1, 1) := by decide +kernel
theorem dX7_raid_1 : decode cX7_raid 1 = .ok (.bipush 10, 2) := by decide +kernel
theorem dX7_raid_3 : decode cX7_raid 3 = .ok (.if_icmp .lt 25, 3) := by decide +kernel
theorem dX7_raid_6 : decode cX7_raid 6 = .ok (.iload_n 1, 1) := by decide +kernel
theorem dX7_raid_7 : decode cX7_raid 7 = .ok (.bipush 10, 2) := by decide +kernel
theorem dX7_raid_9 : decode cX7_raid 9 = .ok (.isub, 1) := by decide +kernel
theorem dX7_raid_10 : decode cX7_raid 10 = .ok (.invokestatic 174, 3) := by decide +kernel
theorem dX7_raid_13 : decode cX7_raid 13 = .ok (.ifCond .eq 15, 3) := by decide +kernel
theorem dX7_raid_16 : decode cX7_raid 16 = .ok (.aload_n 0, 1) := by decide +kernel
theorem dX7_raid_17 : decode cX7_raid 17 = .ok (.getfield 28, 3) := by decide +kernel
theorem dX7_raid_20 : decode cX7_raid 20 = .ok (.iload_n 1, 1) := by decide +kernel
theorem dX7_raid_21 : decode cX7_raid 21 = .ok (.bipush 10, 2) := by decide +kernel
theorem dX7_raid_23 : decode cX7_raid 23 = .ok (.isub, 1) := by decide +kernel
theorem dX7_raid_24 : decode cX7_raid 24 = .ok (.invokevirtual 226, 3) := by decide +kernel
theorem dX7_raid_27 : decode cX7_raid 27 = .ok (.ireturn, 1) := by decide +kernel
theorem dX7_raid_28 : decode cX7_raid 28 = .ok (.iload_n 1, 1) := by decide +kernel
theorem dX7_raid_29 : decode cX7_raid 29 = .ok (.ifCond .eq 10, 3) := by decide +kernel
theorem dX7_raid_32 : decode cX7_raid 32 = .ok (.iload_n 1, 1) := by decide +kernel
theorem dX7_raid_33 : decode cX7_raid 33 = .ok (.iconst 1, 1) := by decide +kernel
theorem dX7_raid_34 : decode cX7_raid 34 = .ok (.if_icmp .eq 5, 3) := by decide +kernel
theorem dX7_raid_37 : decode cX7_raid 37 = .ok (.iconst (-1), 1) := by decide +kernel
theorem dX7_raid_38 : decode cX7_raid 38 = .ok (.ireturn, 1) := by decide +kernel
theorem dX7_raid_39 : decode cX7_raid 39 = .ok (.bipush (-4), 2) := by decide +kernel
theorem dX7_raid_41 : decode cX7_raid 41 = .ok (.istore_n 2, 1) := by decide +kernel
theorem dX7_raid_42 : decode cX7_raid 42 = .ok (.iconst 0, 1) := by decide +kernel
theorem dX7_raid_43 : decode cX7_raid 43 = .ok (.istore_n 3, 1) := by decide +kernel
theorem dX7_raid_44 : decode cX7_raid 44 = .ok (.iconst 0, 1) := by decide +kernel
theorem dX7_raid_45 : decode cX7_raid 45 = .ok (.istore 4, 2) := by decide +kernel
theorem dX7_raid_47 : decode cX7_raid 47 = .ok (.iload 4, 2) := by decide +kernel
theorem dX7_raid_49 : decode cX7_raid 49 = .ok (.bipush 12, 2) := by decide +kernel
theorem dX7_raid_51 : decode cX7_raid 51 = .ok (.if_icmp .ge 32, 3) := by decide +kernel
theorem dX7_raid_54 : decode cX7_raid 54 = .ok (.aload_n 0, 1) := by decide +kernel
theorem dX7_raid_55 : decode cX7_raid 55 = .ok (.getfield 28, 3) := by decide +kernel
theorem dX7_raid_58 : decode cX7_raid 58 = .ok (.iload 4, 2) := by decide +kernel
theorem dX7_raid_60 : decode cX7_raid 60 = .ok (.invokevirtual 226, 3) := by decide +kernel
theorem dX7_raid_63 : decode cX7_raid 63 = .ok (.istore 5, 2) := by decide +kernel
theorem dX7_raid_65 : decode cX7_raid 65 = .ok (.iload 5, 2) := by decide +kernel
theorem dX7_raid_67 : decode cX7_raid 67 = .ok (.iload_n 2, 1) := by decide +kernel
theorem dX7_raid_68 : decode cX7_raid 68 = .ok (.if_icmp .le 9, 3) := by decide +kernel
theorem dX7_raid_71 : decode cX7_raid 71 = .ok (.iload 5, 2) := by decide +kernel
theorem dX7_raid_73 : decode cX7_raid 73 = .ok (.istore_n 2, 1) := by decide +kernel
theorem dX7_raid_74 : decode cX7_raid 74 = .ok (.iload 4, 2) := by decide +kernel
theorem dX7_raid_76 : decode cX7_raid 76 = .ok (.istore_n 3, 1) := by decide +kernel
theorem dX7_raid_77 : decode cX7_raid 77 = .ok (.iinc 4 1, 3) := by decide +kernel
theorem dX7_raid_80 : decode cX7_raid 80 = .ok (.goto (-33), 3) := by decide +kernel
theorem dX7_raid_83 : decode cX7_raid 83 = .ok (.iload_n 1, 1) := by decide +kernel
theorem dX7_raid_84 : decode cX7_raid 84 = .ok (.ifCond .ne 7, 3) := by decide +kernel
theorem dX7_raid_87 : decode cX7_raid 87 = .ok (.iload_n 2, 1) := by decide +kernel
theorem dX7_raid_88 : decode cX7_raid 88 = .ok (.goto 4, 3) := by decide +kernel
theorem dX7_raid_91 : decode cX7_raid 91 = .ok (.iload_n 3, 1) := by decide +kernel
theorem dX7_raid_92 : decode cX7_raid 92 = .ok (.ireturn, 1) := by decide +kernel
theorem dX7_settle_0 : decode cX7_settle 0 = .ok (.iload_n 1, 1) := by decide +kernel
theorem dX7_settle_1 : decode cX7_settle 1 = .ok (.iconst 1, 1) := by decide +kernel
theorem dX7_settle_2 : decode cX7_settle 2 = .ok (.if_icmp .lt 18, 3) := by decide +kernel
theorem dX7_settle_5 : decode cX7_settle 5 = .ok (.iload_n 1, 1) := by decide +kernel
theorem dX7_settle_6 : decode cX7_settle 6 = .ok (.bipush 99, 2) := by decide +kernel
theorem dX7_settle_8 : decode cX7_settle 8 = .ok (.if_icmp .gt 12, 3) := by decide +kernel
theorem dX7_settle_11 : decode cX7_settle 11 = .ok (.iload_n 2, 1) := by decide +kernel
theorem dX7_settle_12 : decode cX7_settle 12 = .ok (.ifCond .lt 8, 3) := by decide +kernel
theorem dX7_settle_15 : decode cX7_settle 15 = .ok (.iload_n 2, 1) := by decide +kernel
theorem dX7_settle_16 : decode cX7_settle 16 = .ok (.iconst 1, 1) := by decide +kernel
theorem dX7_settle_17 : decode cX7_settle 17 = .ok (.if_icmp .le 5, 3) := by decide +kernel
theorem dX7_settle_20 : decode cX7_settle 20 = .ok (.iconst (-1), 1) := by decide +kernel
theorem dX7_settle_21 : decode cX7_settle 21 = .ok (.ireturn, 1) := by decide +kernel
theorem dX7_settle_22 : decode cX7_settle 22 = .ok (.iload_n 1, 1) := by decide +kernel
theorem dX7_settle_23 : decode cX7_settle 23 = .ok (.istore_n 3, 1) := by decide +kernel
theorem dX7_settle_24 : decode cX7_settle 24 = .ok (.iconst 1, 1) := by decide +kernel
theorem dX7_settle_25 : decode cX7_settle 25 = .ok (.istore 4, 2) := by decide +kernel
theorem dX7_settle_27 : decode cX7_settle 27 = .ok (.iload 4, 2) := by decide +kernel
theorem dX7_settle_29 : decode cX7_settle 29 = .ok (.bipush 99, 2) := by decide +kernel
theorem dX7_settle_31 : decode cX7_settle 31 = .ok (.if_icmp .gt 39, 3) := by decide +kernel
theorem dX7_settle_34 : decode cX7_settle 34 = .ok (.aload_n 0, 1) := by decide +kernel
theorem dX7_settle_35 : decode cX7_settle 35 = .ok (.getfield 28, 3) := by decide +kernel
theorem dX7_settle_38 : decode cX7_settle 38 = .ok (.iload_n 3, 1) := by decide +kernel
theorem dX7_settle_39 : decode cX7_settle 39 = .ok (.invokevirtual 229, 3) := by decide +kernel
theorem dX7_settle_42 : decode cX7_settle 42 = .ok (.istore 5, 2) := by decide +kernel
theorem dX7_settle_44 : decode cX7_settle 44 = .ok (.iload 5, 2) := by decide +kernel
theorem dX7_settle_46 : decode cX7_settle 46 = .ok (.iload_n 3, 1) := by decide +kernel
theorem dX7_settle_47 : decode cX7_settle 47 = .ok (.if_icmp .ne 14, 3) := by decide +kernel
theorem dX7_settle_50 : decode cX7_settle 50 = .ok (.iload_n 2, 1) := by decide +kernel
theorem dX7_settle_51 : decode cX7_settle 51 = .ok (.ifCond .ne 7, 3) := by decide +kernel
theorem dX7_settle_54 : decode cX7_settle 54 = .ok (.iload_n 3, 1) := by decide +kernel
theorem dX7_settle_55 : decode cX7_settle 55 = .ok (.goto 5, 3) := by decide +kernel
theorem dX7_settle_58 : decode cX7_settle 58 = .ok (.iload 4, 2) := by decide +kernel
theorem dX7_settle_60 : decode cX7_settle 60 = .ok (.ireturn, 1) := by decide +kernel
theorem dX7_settle_61 : decode cX7_settle 61 = .ok (.iload 5, 2) := by decide +kernel
theorem dX7_settle_63 : decode cX7_settle 63 = .ok (.istore_n 3, 1) := by decide +kernel
theorem dX7_settle_64 : decode cX7_settle 64 = .ok (.iinc 4 1, 3) := by decide +kernel
theorem dX7_settle_67 : decode cX7_settle 67 = .ok (.goto (-40), 3) := by decide +kernel
theorem dX7_settle_70 : decode cX7_settle 70 = .ok (.bipush (-4), 2) := by decide +kernel
theorem dX7_settle_72 : decode cX7_settle 72 = .ok (.ireturn, 1) := by decide +kernel
theorem dX7_test_0 : decode cX7_test 0 = .ok (.iload_n 1, 1) := by decide +kernel
theorem dX7_test_1 : decode cX7_test 1 = .ok (.ifCond .eq 17, 3) := by decide +kernel
theorem dX7_test_4 : decode cX7_test 4 = .ok (.iload_n 1, 1) := by decide +kernel
theorem dX7_test_5 : decode cX7_test 5 = .ok (.aload_n 0, 1) := by decide +kernel
theorem dX7_test_6 : decode cX7_test 6 = .ok (.getfield 28, 3) := by decide +kernel
theorem dX7_test_9 : decode cX7_test 9 = .ok (.getfield 110, 3) := by decide +kernel
theorem dX7_test_12 : decode cX7_test 12 = .ok (.invokestatic 214, 3) := by decide +kernel
theorem dX7_test_15 : decode cX7_test 15 = .ok (.ifCond .ne 5, 3) := by decide +kernel
theorem dX7_test_18 : decode cX7_test 18 = .ok (.iconst (-1), 1) := by decide +kernel
theorem dX7_test_19 : decode cX7_test 19 = .ok (.ireturn, 1) := by decide +kernel
theorem dX7_test_20 : decode cX7_test 20 = .ok (.aload_n 0, 1) := by decide +kernel
theorem dX7_test_21 : decode cX7_test 21 = .ok (.getfield 51, 3) := by decide +kernel
theorem dX7_test_24 : decode cX7_test 24 = .ok (.iload_n 1, 1) := by decide +kernel
theorem dX7_test_25 : decode cX7_test 25 = .ok (.iload_n 2, 1) := by decide +kernel
theorem dX7_test_26 : decode cX7_test 26 = .ok (.invokevirtual 232, 3) := by decide +kernel
theorem dX7_test_29 : decode cX7_test 29 = .ok (.ireturn, 1) := by decide +kernel
theorem dX7_untest_0 : decode cX7_untest 0 = .ok (.aload_n 0, 1) := by decide +kernel
theorem dX7_untest_1 : decode cX7_untest 1 = .ok (.getfield 51, 3) := by decide +kernel
theorem dX7_untest_4 : decode cX7_untest 4 = .ok (.getfield 98, 3) := by decide +kernel
theorem dX7_untest_7 : decode cX7_untest 7 = .ok (.istore_n 2, 1) := by decide +kernel
theorem dX7_untest_8 : decode cX7_untest 8 = .ok (.iload_n 1, 1) := by decide +kernel
theorem dX7_untest_9 : decode cX7_untest 9 = .ok (.ifCond .lt 8, 3) := by decide +kernel
theorem dX7_untest_12 : decode cX7_untest 12 = .ok (.iload_n 1, 1) := by decide +kernel
theorem dX7_untest_13 : decode cX7_untest 13 = .ok (.iload_n 2, 1) := by decide +kernel
theorem dX7_untest_14 : decode cX7_untest 14 = .ok (.if_icmp .le 5, 3) := by decide +kernel
theorem dX7_untest_17 : decode cX7_untest 17 = .ok (.iconst (-1), 1) := by decide +kernel
theorem dX7_untest_18 : decode cX7_untest 18 = .ok (.ireturn, 1) := by decide +kernel
theorem dX7_untest_19 : decode cX7_untest 19 = .ok (.aload_n 0, 1) := by decide +kernel
theorem dX7_untest_20 : decode cX7_untest 20 = .ok (.getfield 51, 3) := by decide +kernel
theorem dX7_untest_23 : decode cX7_untest 23 = .ok (.iload_n 1, 1) := by decide +kernel
theorem dX7_untest_24 : decode cX7_untest 24 = .ok (.putfield 98, 3) := by decide +kernel
theorem dX7_untest_27 : decode cX7_untest 27 = .ok (.iload_n 2, 1) := by decide +kernel
theorem dX7_untest_28 : decode cX7_untest 28 = .ok (.ireturn, 1) := by decide +kernel
theorem dX7_fakes_0 : decode cX7_fakes 0 = .ok (.iload_n 1, 1) := by decide +kernel
theorem dX7_fakes_1 : decode cX7_fakes 1 = .ok (.ifCond .lt 17, 3) := by decide +kernel
theorem dX7_fakes_4 : decode cX7_fakes 4 = .ok (.iload_n 1, 1) := by decide +kernel
theorem dX7_fakes_5 : decode cX7_fakes 5 = .ok (.iconst 3, 1) := by decide +kernel
theorem dX7_fakes_6 : decode cX7_fakes 6 = .ok (.if_icmp .gt 12, 3) := by decide +kernel
theorem dX7_fakes_9 : decode cX7_fakes 9 = .ok (.iload_n 2, 1) := by decide +kernel
theorem dX7_fakes_10 : decode cX7_fakes 10 = .ok (.ifCond .lt 8, 3) := by decide +kernel
theorem dX7_fakes_13 : decode cX7_fakes 13 = .ok (.iload_n 2, 1) := by decide +kernel
theorem dX7_fakes_14 : decode cX7_fakes 14 = .ok (.iconst 3, 1) := by decide +kernel
theorem dX7_fakes_15 : decode cX7_fakes 15 = .ok (.if_icmp .le 5, 3) := by decide +kernel
theorem dX7_fakes_18 : decode cX7_fakes 18 = .ok (.iconst (-1), 1) := by decide +kernel
theorem dX7_fakes_19 : decode cX7_fakes 19 = .ok (.ireturn, 1) := by decide +kernel
theorem dX7_fakes_20 : decode cX7_fakes 20 = .ok (.aload_n 0, 1) := by decide +kernel
theorem dX7_fakes_21 : decode cX7_fakes 21 = .ok (.getfield 51, 3) := by decide +kernel
theorem dX7_fakes_24 : decode cX7_fakes 24 = .ok (.iload_n 1, 1) := by decide +kernel
theorem dX7_fakes_25 : decode cX7_fakes 25 = .ok (.aload_n 0, 1) := by decide +kernel
theorem dX7_fakes_26 : decode cX7_fakes 26 = .ok (.getfield 28, 3) := by decide +kernel
theorem dX7_fakes_29 : decode cX7_fakes 29 = .ok (.getfield 110, 3) := by decide +kernel
theorem dX7_fakes_32 : decode cX7_fakes 32 = .ok (.invokevirtual 233, 3) := by decide +kernel
theorem dX7_fakes_35 : decode cX7_fakes 35 = .ok (.iload_n 2, 1) := by decide +kernel
theorem dX7_fakes_36 : decode cX7_fakes 36 = .ok (.ifCond .ne 11, 3) := by decide +kernel
theorem dX7_fakes_39 : decode cX7_fakes 39 = .ok (.aload_n 0, 1) := by decide +kernel
theorem dX7_fakes_40 : decode cX7_fakes 40 = .ok (.getfield 51, 3) := by decide +kernel
theorem dX7_fakes_43 : decode cX7_fakes 43 = .ok (.getfield 237, 3) := by decide +kernel
theorem dX7_fakes_46 : decode cX7_fakes 46 = .ok (.ireturn, 1) := by decide +kernel
theorem dX7_fakes_47 : decode cX7_fakes 47 = .ok (.aload_n 0, 1) := by decide +kernel
theorem dX7_fakes_48 : decode cX7_fakes 48 = .ok (.getfield 51, 3) := by decide +kernel
theorem dX7_fakes_51 : decode cX7_fakes 51 = .ok (.getfield 237, 3) := by decide +kernel
theorem dX7_fakes_54 : decode cX7_fakes 54 = .ok (.ifCond .ne 6, 3) := by decide +kernel
theorem dX7_fakes_57 : decode cX7_fakes 57 = .ok (.bipush (-4), 2) := by decide +kernel
theorem dX7_fakes_59 : decode cX7_fakes 59 = .ok (.ireturn, 1) := by decide +kernel
theorem dX7_fakes_60 : decode cX7_fakes 60 = .ok (.iload_n 2, 1) := by decide +kernel
theorem dX7_fakes_61 : decode cX7_fakes 61 = .ok (.lookupswitch 45 #[(1, 27), (2, 37)], 27) := by decide +kernel
theorem dX7_fakes_88 : decode cX7_fakes 88 = .ok (.aload_n 0, 1) := by decide +kernel
theorem dX7_fakes_89 : decode cX7_fakes 89 = .ok (.getfield 51, 3) := by decide +kernel
theorem dX7_fakes_92 : decode cX7_fakes 92 = .ok (.getfield 240, 3) := by decide +kernel
theorem dX7_fakes_95 : decode cX7_fakes 95 = .ok (.iconst 0, 1) := by decide +kernel
theorem dX7_fakes_96 : decode cX7_fakes 96 = .ok (.iaload, 1) := by decide +kernel
theorem dX7_fakes_97 : decode cX7_fakes 97 = .ok (.ireturn, 1) := by decide +kernel
theorem dX7_fakes_98 : decode cX7_fakes 98 = .ok (.aload_n 0, 1) := by decide +kernel
theorem dX7_fakes_99 : decode cX7_fakes 99 = .ok (.getfield 51, 3) := by decide +kernel
theorem dX7_fakes_102 : decode cX7_fakes 102 = .ok (.invokevirtual 243, 3) := by decide +kernel
theorem dX7_fakes_105 : decode cX7_fakes 105 = .ok (.ireturn, 1) := by decide +kernel
theorem dX7_fakes_106 : decode cX7_fakes 106 = .ok (.aload_n 0, 1) := by decide +kernel
theorem dX7_fakes_107 : decode cX7_fakes 107 = .ok (.getfield 28, 3) := by decide +kernel
theorem dX7_fakes_110 : decode cX7_fakes 110 = .ok (.getfield 110, 3) := by decide +kernel
theorem dX7_fakes_113 : decode cX7_fakes 113 = .ok (.invokestatic 247, 3) := by decide +kernel
theorem dX7_fakes_116 : decode cX7_fakes 116 = .ok (.aload_n 0, 1) := by decide +kernel
theorem dX7_fakes_117 : decode cX7_fakes 117 = .ok (.getfield 51, 3) := by decide +kernel
theorem dX7_fakes_120 : decode cX7_fakes 120 = .ok (.invokevirtual 250, 3) := by decide +kernel
theorem dX7_fakes_123 : decode cX7_fakes 123 = .ok (.iconst (-1), 1) := by decide +kernel
theorem dX7_fakes_124 : decode cX7_fakes 124 = .ok (.ixor, 1) := by decide +kernel
theorem dX7_fakes_125 : decode cX7_fakes 125 = .ok (.iand, 1) := by decide +kernel
theorem dX7_fakes_126 : decode cX7_fakes 126 = .ok (.ireturn, 1) := by decide +kernel
theorem dX7_next_0 : decode cX7_next 0 = .ok (.iload_n 1, 1) := by decide +kernel
theorem dX7_next_1 : decode cX7_next 1 = .ok (.ifCond .lt 17, 3) := by decide +kernel
theorem dX7_next_4 : decode cX7_next 4 = .ok (.iload_n 1, 1) := by decide +kernel
theorem dX7_next_5 : decode cX7_next 5 = .ok (.iconst 3, 1) := by decide +kernel
theorem dX7_next_6 : decode cX7_next 6 = .ok (.if_icmp .gt 12, 3) := by decide +kernel
theorem dX7_next_9 : decode cX7_next 9 = .ok (.iload_n 2, 1) := by decide +kernel
theorem dX7_next_10 : decode cX7_next 10 = .ok (.ifCond .lt 8, 3) := by decide +kernel
theorem dX7_next_13 : decode cX7_next 13 = .ok (.iload_n 2, 1) := by decide +kernel
theorem dX7_next_14 : decode cX7_next 14 = .ok (.iconst 1, 1) := by decide +kernel
theorem dX7_next_15 : decode cX7_next 15 = .ok (.if_icmp .le 5, 3) := by decide +kernel
theorem dX7_next_18 : decode cX7_next 18 = .ok (.iconst (-1), 1) := by decide +kernel
theorem dX7_next_19 : decode cX7_next 19 = .ok (.ireturn, 1) := by decide +kernel
theorem dX7_next_20 : decode cX7_next 20 = .ok (.aload_n 0, 1) := by decide +kernel
theorem dX7_next_21 : decode cX7_next 21 = .ok (.getfield 51, 3) := by decide +kernel
theorem dX7_next_24 : decode cX7_next 24 = .ok (.iload_n 1, 1) := by decide +kernel
theorem dX7_next_25 : decode cX7_next 25 = .ok (.aload_n 0, 1) := by decide +kernel
theorem dX7_next_26 : decode cX7_next 26 = .ok (.getfield 28, 3) := by decide +kernel
theorem dX7_next_29 : decode cX7_next 29 = .ok (.getfield 110, 3) := by decide +kernel
theorem dX7_next_32 : decode cX7_next 32 = .ok (.invokevirtual 233, 3) := by decide +kernel
theorem dX7_next_35 : decode cX7_next 35 = .ok (.aload_n 0, 1) := by decide +kernel
theorem dX7_next_36 : decode cX7_next 36 = .ok (.getfield 51, 3) := by decide +kernel
theorem dX7_next_39 : decode cX7_next 39 = .ok (.getfield 237, 3) := by decide +kernel
theorem dX7_next_42 : decode cX7_next 42 = .ok (.istore_n 3, 1) := by decide +kernel
theorem dX7_next_43 : decode cX7_next 43 = .ok (.bipush (-4), 2) := by decide +kernel
theorem dX7_next_45 : decode cX7_next 45 = .ok (.istore 4, 2) := by decide +kernel
theorem dX7_next_47 : decode cX7_next 47 = .ok (.iconst 1, 1) := by decide +kernel
theorem dX7_next_48 : decode cX7_next 48 = .ok (.istore 5, 2) := by decide +kernel
theorem dX7_next_50 : decode cX7_next 50 = .ok (.iload 5, 2) := by decide +kernel
theorem dX7_next_52 : decode cX7_next 52 = .ok (.aload_n 0, 1) := by decide +kernel
theorem dX7_next_53 : decode cX7_next 53 = .ok (.getfield 28, 3) := by decide +kernel
theorem dX7_next_56 : decode cX7_next 56 = .ok (.getfield 110, 3) := by decide +kernel
theorem dX7_next_59 : decode cX7_next 59 = .ok (.invokestatic 247, 3) := by decide +kernel
theorem dX7_next_62 : decode cX7_next 62 = .ok (.if_icmp .gt 33, 3) := by decide +kernel
theorem dX7_next_65 : decode cX7_next 65 = .ok (.aload_n 0, 1) := by decide +kernel
theorem dX7_next_66 : decode cX7_next 66 = .ok (.getfield 51, 3) := by decide +kernel
theorem dX7_next_69 : decode cX7_next 69 = .ok (.iload 5, 2) := by decide +kernel
theorem dX7_next_71 : decode cX7_next 71 = .ok (.invokevirtual 253, 3) := by decide +kernel
theorem dX7_next_74 : decode cX7_next 74 = .ok (.istore 6, 2) := by decide +kernel
theorem dX7_next_76 : decode cX7_next 76 = .ok (.iload 6, 2) := by decide +kernel
theorem dX7_next_78 : decode cX7_next 78 = .ok (.iload_n 3, 1) := by decide +kernel
theorem dX7_next_79 : decode cX7_next 79 = .ok (.if_icmp .ge 10, 3) := by decide +kernel
theorem dX7_next_82 : decode cX7_next 82 = .ok (.iload 6, 2) := by decide +kernel
theorem dX7_next_84 : decode cX7_next 84 = .ok (.istore_n 3, 1) := by decide +kernel
theorem dX7_next_85 : decode cX7_next 85 = .ok (.iload 5, 2) := by decide +kernel
theorem dX7_next_87 : decode cX7_next 87 = .ok (.istore 4, 2) := by decide +kernel
theorem dX7_next_89 : decode cX7_next 89 = .ok (.iinc 5 1, 3) := by decide +kernel
theorem dX7_next_92 : decode cX7_next 92 = .ok (.goto (-42), 3) := by decide +kernel
theorem dX7_next_95 : decode cX7_next 95 = .ok (.iload_n 2, 1) := by decide +kernel
theorem dX7_next_96 : decode cX7_next 96 = .ok (.ifCond .eq 10, 3) := by decide +kernel
theorem dX7_next_99 : decode cX7_next 99 = .ok (.iload 4, 2) := by decide +kernel
theorem dX7_next_101 : decode cX7_next 101 = .ok (.bipush (-4), 2) := by decide +kernel
theorem dX7_next_103 : decode cX7_next 103 = .ok (.if_icmp .ne 8, 3) := by decide +kernel
theorem dX7_next_106 : decode cX7_next 106 = .ok (.iload 4, 2) := by decide +kernel
theorem dX7_next_108 : decode cX7_next 108 = .ok (.goto 4, 3) := by decide +kernel
theorem dX7_next_111 : decode cX7_next 111 = .ok (.iload_n 3, 1) := by decide +kernel
theorem dX7_next_112 : decode cX7_next 112 = .ok (.ireturn, 1) := by decide +kernel
theorem dX7_chatter_0 : decode cX7_chatter 0 = .ok (.iload_n 2, 1) := by decide +kernel
theorem dX7_chatter_1 : decode cX7_chatter 1 = .ok (.iconst 1, 1) := by decide +kernel
theorem dX7_chatter_2 : decode cX7_chatter 2 = .ok (.if_icmp .lt 9, 3) := by decide +kernel
theorem dX7_chatter_5 : decode cX7_chatter 5 = .ok (.iload_n 2, 1) := by decide +kernel
theorem dX7_chatter_6 : decode cX7_chatter 6 = .ok (.bipush 60, 2) := by decide +kernel
theorem dX7_chatter_8 : decode cX7_chatter 8 = .ok (.if_icmp .le 5, 3) := by decide +kernel
theorem dX7_chatter_11 : decode cX7_chatter 11 = .ok (.iconst (-1), 1) := by decide +kernel
theorem dX7_chatter_12 : decode cX7_chatter 12 = .ok (.ireturn, 1) := by decide +kernel
theorem dX7_chatter_13 : decode cX7_chatter 13 = .ok (.aload_n 0, 1) := by decide +kernel
theorem dX7_chatter_14 : decode cX7_chatter 14 = .ok (.getfield 28, 3) := by decide +kernel
theorem dX7_chatter_17 : decode cX7_chatter 17 = .ok (.getfield 107, 3) := by decide +kernel
theorem dX7_chatter_20 : decode cX7_chatter 20 = .ok (.ifCond .ne 6, 3) := by decide +kernel
theorem dX7_chatter_23 : decode cX7_chatter 23 = .ok (.bipush (-2), 2) := by decide +kernel
theorem dX7_chatter_25 : decode cX7_chatter 25 = .ok (.ireturn, 1) := by decide +kernel
theorem dX7_chatter_26 : decode cX7_chatter 26 = .ok (.iload_n 1, 1) := by decide +kernel
theorem dX7_chatter_27 : decode cX7_chatter 27 = .ok (.istore_n 3, 1) := by decide +kernel
theorem dX7_chatter_28 : decode cX7_chatter 28 = .ok (.iconst 0, 1) := by decide +kernel
theorem dX7_chatter_29 : decode cX7_chatter 29 = .ok (.istore 4, 2) := by decide +kernel
theorem dX7_chatter_31 : decode cX7_chatter 31 = .ok (.iconst 0, 1) := by decide +kernel
theorem dX7_chatter_32 : decode cX7_chatter 32 = .ok (.istore 5, 2) := by decide +kernel
theorem dX7_chatter_34 : decode cX7_chatter 34 = .ok (.iload 5, 2) := by decide +kernel
theorem dX7_chatter_36 : decode cX7_chatter 36 = .ok (.iload_n 2, 1) := by decide +kernel
theorem dX7_chatter_37 : decode cX7_chatter 37 = .ok (.if_icmp .ge 94, 3) := by decide +kernel
theorem dX7_chatter_40 : decode cX7_chatter 40 = .ok (.iload_n 3, 1) := by decide +kernel
theorem dX7_chatter_41 : decode cX7_chatter 41 = .ok (.invokestatic 256, 3) := by decide +kernel
theorem dX7_chatter_44 : decode cX7_chatter 44 = .ok (.istore_n 3, 1) := by decide +kernel
theorem dX7_chatter_45 : decode cX7_chatter 45 = .ok (.iload_n 3, 1) := by decide +kernel
theorem dX7_chatter_46 : decode cX7_chatter 46 = .ok (.invokestatic 259, 3) := by decide +kernel
theorem dX7_chatter_49 : decode cX7_chatter 49 = .ok (.bipush 12, 2) := by decide +kernel
theorem dX7_chatter_51 : decode cX7_chatter 51 = .ok (.irem, 1) := by decide +kernel
theorem dX7_chatter_52 : decode cX7_chatter 52 = .ok (.istore 6, 2) := by decide +kernel
theorem dX7_chatter_54 : decode cX7_chatter 54 = .ok (.iload_n 3, 1) := by decide +kernel
theorem dX7_chatter_55 : decode cX7_chatter 55 = .ok (.invokestatic 256, 3) := by decide +kernel
theorem dX7_chatter_58 : decode cX7_chatter 58 = .ok (.istore_n 3, 1) := by decide +kernel
theorem dX7_chatter_59 : decode cX7_chatter 59 = .ok (.iload_n 3, 1) := by decide +kernel
theorem dX7_chatter_60 : decode cX7_chatter 60 = .ok (.invokestatic 259, 3) := by decide +kernel
theorem dX7_chatter_63 : decode cX7_chatter 63 = .ok (.aload_n 0, 1) := by decide +kernel
theorem dX7_chatter_64 : decode cX7_chatter 64 = .ok (.getfield 28, 3) := by decide +kernel
theorem dX7_chatter_67 : decode cX7_chatter 67 = .ok (.getfield 107, 3) := by decide +kernel
theorem dX7_chatter_70 : decode cX7_chatter 70 = .ok (.irem, 1) := by decide +kernel
theorem dX7_chatter_71 : decode cX7_chatter 71 = .ok (.istore 7, 2) := by decide +kernel
theorem dX7_chatter_73 : decode cX7_chatter 73 = .ok (.iload_n 3, 1) := by decide +kernel
theorem dX7_chatter_74 : decode cX7_chatter 74 = .ok (.invokestatic 256, 3) := by decide +kernel
theorem dX7_chatter_77 : decode cX7_chatter 77 = .ok (.istore_n 3, 1) := by decide +kernel
theorem dX7_chatter_78 : decode cX7_chatter 78 = .ok (.iload_n 3, 1) := by decide +kernel
theorem dX7_chatter_79 : decode cX7_chatter 79 = .ok (.invokestatic 259, 3) := by decide +kernel
theorem dX7_chatter_82 : decode cX7_chatter 82 = .ok (.aload_n 0, 1) := by decide +kernel
theorem dX7_chatter_83 : decode cX7_chatter 83 = .ok (.getfield 28, 3) := by decide +kernel
theorem dX7_chatter_86 : decode cX7_chatter 86 = .ok (.getfield 107, 3) := by decide +kernel
theorem dX7_chatter_89 : decode cX7_chatter 89 = .ok (.irem, 1) := by decide +kernel
theorem dX7_chatter_90 : decode cX7_chatter 90 = .ok (.istore 8, 2) := by decide +kernel
theorem dX7_chatter_92 : decode cX7_chatter 92 = .ok (.iload 7, 2) := by decide +kernel
theorem dX7_chatter_94 : decode cX7_chatter 94 = .ok (.iload 8, 2) := by decide +kernel
theorem dX7_chatter_96 : decode cX7_chatter 96 = .ok (.if_icmp .eq 29, 3) := by decide +kernel
theorem dX7_chatter_99 : decode cX7_chatter 99 = .ok (.aload_n 0, 1) := by decide +kernel
theorem dX7_chatter_100 : decode cX7_chatter 100 = .ok (.getfield 28, 3) := by decide +kernel
theorem dX7_chatter_103 : decode cX7_chatter 103 = .ok (.aload_n 0, 1) := by decide +kernel
theorem dX7_chatter_104 : decode cX7_chatter 104 = .ok (.getfield 28, 3) := by decide +kernel
theorem dX7_chatter_107 : decode cX7_chatter 107 = .ok (.iload 6, 2) := by decide +kernel
theorem dX7_chatter_109 : decode cX7_chatter 109 = .ok (.invokevirtual 181, 3) := by decide +kernel
theorem dX7_chatter_112 : decode cX7_chatter 112 = .ok (.iload 7, 2) := by decide +kernel
theorem dX7_chatter_114 : decode cX7_chatter 114 = .ok (.iload 8, 2) := by decide +kernel
theorem dX7_chatter_116 : decode cX7_chatter 116 = .ok (.invokevirtual 192, 3) := by decide +kernel
theorem dX7_chatter_119 : decode cX7_chatter 119 = .ok (.ifCond .eq 6, 3) := by decide +kernel
theorem dX7_chatter_122 : decode cX7_chatter 122 = .ok (.iinc 4 1, 3) := by decide +kernel
theorem dX7_chatter_125 : decode cX7_chatter 125 = .ok (.iinc 5 1, 3) := by decide +kernel
theorem dX7_chatter_128 : decode cX7_chatter 128 = .ok (.goto (-94), 3) := by decide +kernel
theorem dX7_chatter_131 : decode cX7_chatter 131 = .ok (.iload 4, 2) := by decide +kernel
theorem dX7_chatter_133 : decode cX7_chatter 133 = .ok (.ireturn, 1) := by decide +kernel
theorem dX7_keep_0 : decode cX7_keep 0 = .ok (.iload_n 1, 1) := by decide +kernel
theorem dX7_keep_1 : decode cX7_keep 1 = .ok (.ifCond .lt 8, 3) := by decide +kernel
theorem dX7_keep_4 : decode cX7_keep 4 = .ok (.iload_n 1, 1) := by decide +kernel
theorem dX7_keep_5 : decode cX7_keep 5 = .ok (.iconst 2, 1) := by decide +kernel
theorem dX7_keep_6 : decode cX7_keep 6 = .ok (.if_icmp .lt 5, 3) := by decide +kernel
theorem dX7_keep_9 : decode cX7_keep 9 = .ok (.iconst (-1), 1) := by decide +kernel
theorem dX7_keep_10 : decode cX7_keep 10 = .ok (.ireturn, 1) := by decide +kernel
theorem dX7_keep_11 : decode cX7_keep 11 = .ok (.aload_n 0, 1) := by decide +kernel
theorem dX7_keep_12 : decode cX7_keep 12 = .ok (.getfield 59, 3) := by decide +kernel
theorem dX7_keep_15 : decode cX7_keep 15 = .ok (.iload_n 1, 1) := by decide +kernel
theorem dX7_keep_16 : decode cX7_keep 16 = .ok (.baload, 1) := by decide +kernel
theorem dX7_keep_17 : decode cX7_keep 17 = .ok (.invokestatic 148, 3) := by decide +kernel
theorem dX7_keep_20 : decode cX7_keep 20 = .ok (.istore_n 2, 1) := by decide +kernel
theorem dX7_keep_21 : decode cX7_keep 21 = .ok (.aload_n 0, 1) := by decide +kernel
theorem dX7_keep_22 : decode cX7_keep 22 = .ok (.getfield 55, 3) := by decide +kernel
theorem dX7_keep_25 : decode cX7_keep 25 = .ok (.iload_n 1, 1) := by decide +kernel
theorem dX7_keep_26 : decode cX7_keep 26 = .ok (.aaload, 1) := by decide +kernel
theorem dX7_keep_27 : decode cX7_keep 27 = .ok (.aload_n 0, 1) := by decide +kernel
theorem dX7_keep_28 : decode cX7_keep 28 = .ok (.getfield 28, 3) := by decide +kernel
theorem dX7_keep_31 : decode cX7_keep 31 = .ok (.invokevirtual 92, 3) := by decide +kernel
theorem dX7_keep_34 : decode cX7_keep 34 = .ok (.aload_n 0, 1) := by decide +kernel
theorem dX7_keep_35 : decode cX7_keep 35 = .ok (.getfield 59, 3) := by decide +kernel
theorem dX7_keep_38 : decode cX7_keep 38 = .ok (.iload_n 1, 1) := by decide +kernel
theorem dX7_keep_39 : decode cX7_keep 39 = .ok (.iconst 1, 1) := by decide +kernel
theorem dX7_keep_40 : decode cX7_keep 40 = .ok (.bastore, 1) := by decide +kernel
theorem dX7_keep_41 : decode cX7_keep 41 = .ok (.iload_n 2, 1) := by decide +kernel
theorem dX7_keep_42 : decode cX7_keep 42 = .ok (.ireturn, 1) := by decide +kernel
theorem dX7_back_0 : decode cX7_back 0 = .ok (.iload_n 1, 1) := by decide +kernel
theorem dX7_back_1 : decode cX7_back 1 = .ok (.ifCond .lt 8, 3) := by decide +kernel
theorem dX7_back_4 : decode cX7_back 4 = .ok (.iload_n 1, 1) := by decide +kernel
theorem dX7_back_5 : decode cX7_back 5 = .ok (.iconst 2, 1) := by decide +kernel
theorem dX7_back_6 : decode cX7_back 6 = .ok (.if_icmp .lt 5, 3) := by decide +kernel
theorem dX7_back_9 : decode cX7_back 9 = .ok (.iconst (-1), 1) := by decide +kernel
theorem dX7_back_10 : decode cX7_back 10 = .ok (.ireturn, 1) := by decide +kernel
theorem dX7_back_11 : decode cX7_back 11 = .ok (.aload_n 0, 1) := by decide +kernel
theorem dX7_back_12 : decode cX7_back 12 = .ok (.getfield 59, 3) := by decide +kernel
theorem dX7_back_15 : decode cX7_back 15 = .ok (.iload_n 1, 1) := by decide +kernel
theorem dX7_back_16 : decode cX7_back 16 = .ok (.baload, 1) := by decide +kernel
theorem dX7_back_17 : decode cX7_back 17 = .ok (.ifCond .ne 6, 3) := by decide +kernel
theorem dX7_back_20 : decode cX7_back 20 = .ok (.bipush (-2), 2) := by decide +kernel
theorem dX7_back_22 : decode cX7_back 22 = .ok (.ireturn, 1) := by decide +kernel
theorem dX7_back_23 : decode cX7_back 23 = .ok (.aload_n 0, 1) := by decide +kernel
theorem dX7_back_24 : decode cX7_back 24 = .ok (.getfield 28, 3) := by decide +kernel
theorem dX7_back_27 : decode cX7_back 27 = .ok (.aload_n 0, 1) := by decide +kernel
theorem dX7_back_28 : decode cX7_back 28 = .ok (.getfield 55, 3) := by decide +kernel
theorem dX7_back_31 : decode cX7_back 31 = .ok (.iload_n 1, 1) := by decide +kernel
theorem dX7_back_32 : decode cX7_back 32 = .ok (.aaload, 1) := by decide +kernel
theorem dX7_back_33 : decode cX7_back 33 = .ok (.invokevirtual 92, 3) := by decide +kernel
theorem dX7_back_36 : decode cX7_back 36 = .ok (.aload_n 0, 1) := by decide +kernel
theorem dX7_back_37 : decode cX7_back 37 = .ok (.getfield 28, 3) := by decide +kernel
theorem dX7_back_40 : decode cX7_back 40 = .ok (.getfield 113, 3) := by decide +kernel
theorem dX7_back_43 : decode cX7_back 43 = .ok (.ireturn, 1) := by decide +kernel
theorem dX7_sheet_0 : decode cX7_sheet 0 = .ok (.iload_n 1, 1) := by decide +kernel
theorem dX7_sheet_1 : decode cX7_sheet 1 = .ok (.invokestatic 262, 3) := by decide +kernel
theorem dX7_sheet_4 : decode cX7_sheet 4 = .ok (.ifCond .eq 16, 3) := by decide +kernel
theorem dX7_sheet_7 : decode cX7_sheet 7 = .ok (.iload_n 2, 1) := by decide +kernel
theorem dX7_sheet_8 : decode cX7_sheet 8 = .ok (.invokestatic 265, 3) := by decide +kernel
theorem dX7_sheet_11 : decode cX7_sheet 11 = .ok (.ifCond .eq 9, 3) := by decide +kernel
theorem dX7_sheet_14 : decode cX7_sheet 14 = .ok (.iload_n 3, 1) := by decide +kernel
theorem dX7_sheet_15 : decode cX7_sheet 15 = .ok (.bipush 40, 2) := by decide +kernel
theorem dX7_sheet_17 : decode cX7_sheet 17 = .ok (.if_icmp .le 5, 3) := by decide +kernel
theorem dX7_sheet_20 : decode cX7_sheet 20 = .ok (.iconst (-1), 1) := by decide +kernel
theorem dX7_sheet_21 : decode cX7_sheet 21 = .ok (.ireturn, 1) := by decide +kernel
theorem dX7_sheet_22 : decode cX7_sheet 22 = .ok (.iload_n 3, 1) := by decide +kernel
theorem dX7_sheet_23 : decode cX7_sheet 23 = .ok (.ifCond .ge 6, 3) := by decide +kernel
theorem dX7_sheet_26 : decode cX7_sheet 26 = .ok (.bipush (-14), 2) := by decide +kernel
theorem dX7_sheet_28 : decode cX7_sheet 28 = .ok (.ireturn, 1) := by decide +kernel
theorem dX7_sheet_29 : decode cX7_sheet 29 = .ok (.aload_n 0, 1) := by decide +kernel
theorem dX7_sheet_30 : decode cX7_sheet 30 = .ok (.getfield 65, 3) := by decide +kernel
theorem dX7_sheet_33 : decode cX7_sheet 33 = .ok (.iload_n 1, 1) := by decide +kernel
theorem dX7_sheet_34 : decode cX7_sheet 34 = .ok (.aaload, 1) := by decide +kernel
theorem dX7_sheet_35 : decode cX7_sheet 35 = .ok (.iload_n 2, 1) := by decide +kernel
theorem dX7_sheet_36 : decode cX7_sheet 36 = .ok (.iload_n 3, 1) := by decide +kernel
theorem dX7_sheet_37 : decode cX7_sheet 37 = .ok (.invokevirtual 268, 3) := by decide +kernel
theorem dX7_sheet_40 : decode cX7_sheet 40 = .ok (.iconst 1, 1) := by decide +kernel
theorem dX7_sheet_41 : decode cX7_sheet 41 = .ok (.ireturn, 1) := by decide +kernel
theorem dX7_lay_0 : decode cX7_lay 0 = .ok (.iload_n 1, 1) := by decide +kernel
theorem dX7_lay_1 : decode cX7_lay 1 = .ok (.invokestatic 262, 3) := by decide +kernel
theorem dX7_lay_4 : decode cX7_lay 4 = .ok (.ifCond .ne 5, 3) := by decide +kernel
theorem dX7_lay_7 : decode cX7_lay 7 = .ok (.iconst (-1), 1) := by decide +kernel
theorem dX7_lay_8 : decode cX7_lay 8 = .ok (.ireturn, 1) := by decide +kernel
theorem dX7_lay_9 : decode cX7_lay 9 = .ok (.aload_n 0, 1) := by decide +kernel
theorem dX7_lay_10 : decode cX7_lay 10 = .ok (.getfield 65, 3) := by decide +kernel
theorem dX7_lay_13 : decode cX7_lay 13 = .ok (.iload_n 1, 1) := by decide +kernel
theorem dX7_lay_14 : decode cX7_lay 14 = .ok (.aaload, 1) := by decide +kernel
theorem dX7_lay_15 : decode cX7_lay 15 = .ok (.astore 4, 2) := by decide +kernel
theorem dX7_lay_17 : decode cX7_lay 17 = .ok (.aload 4, 2) := by decide +kernel
theorem dX7_lay_19 : decode cX7_lay 19 = .ok (.invokevirtual 271, 3) := by decide +kernel
theorem dX7_lay_22 : decode cX7_lay 22 = .ok (.ifCond .eq 6, 3) := by decide +kernel
theorem dX7_lay_25 : decode cX7_lay 25 = .ok (.bipush (-11), 2) := by decide +kernel
theorem dX7_lay_27 : decode cX7_lay 27 = .ok (.ireturn, 1) := by decide +kernel
theorem dX7_lay_28 : decode cX7_lay 28 = .ok (.iload_n 2, 1) := by decide +kernel
theorem dX7_lay_29 : decode cX7_lay 29 = .ok (.ifCond .lt 12, 3) := by decide +kernel
theorem dX7_lay_32 : decode cX7_lay 32 = .ok (.iload_n 2, 1) := by decide +kernel
theorem dX7_lay_33 : decode cX7_lay 33 = .ok (.aload 4, 2) := by decide +kernel
theorem dX7_lay_35 : decode cX7_lay 35 = .ok (.getfield 274, 3) := by decide +kernel
theorem dX7_lay_38 : decode cX7_lay 38 = .ok (.if_icmp .lt 6, 3) := by decide +kernel
theorem dX7_lay_41 : decode cX7_lay 41 = .ok (.bipush (-12), 2) := by decide +kernel
theorem dX7_lay_43 : decode cX7_lay 43 = .ok (.ireturn, 1) := by decide +kernel
theorem dX7_lay_44 : decode cX7_lay 44 = .ok (.aload 4, 2) := by decide +kernel
theorem dX7_lay_46 : decode cX7_lay 46 = .ok (.iload_n 2, 1) := by decide +kernel
theorem dX7_lay_47 : decode cX7_lay 47 = .ok (.iload_n 3, 1) := by decide +kernel
theorem dX7_lay_48 : decode cX7_lay 48 = .ok (.invokevirtual 277, 3) := by decide +kernel
theorem dX7_lay_51 : decode cX7_lay 51 = .ok (.iconst 1, 1) := by decide +kernel
theorem dX7_lay_52 : decode cX7_lay 52 = .ok (.ireturn, 1) := by decide +kernel
theorem dX7_read_0 : decode cX7_read 0 = .ok (.iload_n 1, 1) := by decide +kernel
theorem dX7_read_1 : decode cX7_read 1 = .ok (.invokestatic 262, 3) := by decide +kernel
theorem dX7_read_4 : decode cX7_read 4 = .ok (.ifCond .eq 22, 3) := by decide +kernel
theorem dX7_read_7 : decode cX7_read 7 = .ok (.iload_n 2, 1) := by decide +kernel
theorem dX7_read_8 : decode cX7_read 8 = .ok (.invokestatic 265, 3) := by decide +kernel
theorem dX7_read_11 : decode cX7_read 11 = .ok (.ifCond .eq 15, 3) := by decide +kernel
theorem dX7_read_14 : decode cX7_read 14 = .ok (.iload 4, 2) := by decide +kernel
theorem dX7_read_16 : decode cX7_read 16 = .ok (.ifCond .lt 10, 3) := by decide +kernel
theorem dX7_read_19 : decode cX7_read 19 = .ok (.iload 4, 2) := by decide +kernel
theorem dX7_read_21 : decode cX7_read 21 = .ok (.bipush 13, 2) := by decide +kernel
theorem dX7_read_23 : decode cX7_read 23 = .ok (.if_icmp .le 5, 3) := by decide +kernel
theorem dX7_read_26 : decode cX7_read 26 = .ok (.iconst (-1), 1) := by decide +kernel
theorem dX7_read_27 : decode cX7_read 27 = .ok (.ireturn, 1) := by decide +kernel
theorem dX7_read_28 : decode cX7_read 28 = .ok (.aload_n 0, 1) := by decide +kernel
theorem dX7_read_29 : decode cX7_read 29 = .ok (.getfield 65, 3) := by decide +kernel
theorem dX7_read_32 : decode cX7_read 32 = .ok (.iload_n 1, 1) := by decide +kernel
theorem dX7_read_33 : decode cX7_read 33 = .ok (.aaload, 1) := by decide +kernel
theorem dX7_read_34 : decode cX7_read 34 = .ok (.astore 5, 2) := by decide +kernel
theorem dX7_read_36 : decode cX7_read 36 = .ok (.iconst 0, 1) := by decide +kernel
theorem dX7_read_37 : decode cX7_read 37 = .ok (.istore 6, 2) := by decide +kernel
theorem dX7_read_39 : decode cX7_read 39 = .ok (.aload_n 0, 1) := by decide +kernel
theorem dX7_read_40 : decode cX7_read 40 = .ok (.getfield 28, 3) := by decide +kernel
theorem dX7_read_43 : decode cX7_read 43 = .ok (.getfield 113, 3) := by decide +kernel
theorem dX7_read_46 : decode cX7_read 46 = .ok (.istore 7, 2) := by decide +kernel
theorem dX7_read_48 : decode cX7_read 48 = .ok (.iconst 0, 1) := by decide +kernel
theorem dX7_read_49 : decode cX7_read 49 = .ok (.istore 8, 2) := by decide +kernel
theorem dX7_read_51 : decode cX7_read 51 = .ok (.iload 8, 2) := by decide +kernel
theorem dX7_read_53 : decode cX7_read 53 = .ok (.iload 4, 2) := by decide +kernel
theorem dX7_read_55 : decode cX7_read 55 = .ok (.if_icmp .ge 90, 3) := by decide +kernel
theorem dX7_read_58 : decode cX7_read 58 = .ok (.iload 6, 2) := by decide +kernel
theorem dX7_read_60 : decode cX7_read 60 = .ok (.ifCond .ne 85, 3) := by decide +kernel
theorem dX7_read_63 : decode cX7_read 63 = .ok (.iload_n 3, 1) := by decide +kernel
theorem dX7_read_64 : decode cX7_read 64 = .ok (.iconst 3, 1) := by decide +kernel
theorem dX7_read_65 : decode cX7_read 65 = .ok (.iload 8, 2) := by decide +kernel
theorem dX7_read_67 : decode cX7_read 67 = .ok (.imul, 1) := by decide +kernel
theorem dX7_read_68 : decode cX7_read 68 = .ok (.iadd, 1) := by decide +kernel
theorem dX7_read_69 : decode cX7_read 69 = .ok (.istore 9, 2) := by decide +kernel
theorem dX7_read_71 : decode cX7_read 71 = .ok (.aload 5, 2) := by decide +kernel
theorem dX7_read_73 : decode cX7_read 73 = .ok (.iload_n 2, 1) := by decide +kernel
theorem dX7_read_74 : decode cX7_read 74 = .ok (.iload 9, 2) := by decide +kernel
theorem dX7_read_76 : decode cX7_read 76 = .ok (.invokevirtual 280, 3) := by decide +kernel
theorem dX7_read_79 : decode cX7_read 79 = .ok (.istore 6, 2) := by decide +kernel
theorem dX7_read_81 : decode cX7_read 81 = .ok (.iload 6, 2) := by decide +kernel
theorem dX7_read_83 : decode cX7_read 83 = .ok (.ifCond .ne 56, 3) := by decide +kernel
theorem dX7_read_86 : decode cX7_read 86 = .ok (.aload_n 0, 1) := by decide +kernel
theorem dX7_read_87 : decode cX7_read 87 = .ok (.getfield 28, 3) := by decide +kernel
theorem dX7_read_90 : decode cX7_read 90 = .ok (.aload 5, 2) := by decide +kernel
theorem dX7_read_92 : decode cX7_read 92 = .ok (.getfield 283, 3) := by decide +kernel
theorem dX7_read_95 : decode cX7_read 95 = .ok (.iload 9, 2) := by decide +kernel
theorem dX7_read_97 : decode cX7_read 97 = .ok (.iaload, 1) := by decide +kernel
theorem dX7_read_98 : decode cX7_read 98 = .ok (.aload 5, 2) := by decide +kernel
theorem dX7_read_100 : decode cX7_read 100 = .ok (.getfield 283, 3) := by decide +kernel
theorem dX7_read_103 : decode cX7_read 103 = .ok (.iload 9, 2) := by decide +kernel
theorem dX7_read_105 : decode cX7_read 105 = .ok (.iconst 1, 1) := by decide +kernel
theorem dX7_read_106 : decode cX7_read 106 = .ok (.iadd, 1) := by decide +kernel
theorem dX7_read_107 : decode cX7_read 107 = .ok (.iaload, 1) := by decide +kernel
theorem dX7_read_108 : decode cX7_read 108 = .ok (.aload 5, 2) := by decide +kernel
theorem dX7_read_110 : decode cX7_read 110 = .ok (.getfield 283, 3) := by decide +kernel
theorem dX7_read_113 : decode cX7_read 113 = .ok (.iload 9, 2) := by decide +kernel
theorem dX7_read_115 : decode cX7_read 115 = .ok (.iconst 2, 1) := by decide +kernel
theorem dX7_read_116 : decode cX7_read 116 = .ok (.iadd, 1) := by decide +kernel
theorem dX7_read_117 : decode cX7_read 117 = .ok (.iaload, 1) := by decide +kernel
theorem dX7_read_118 : decode cX7_read 118 = .ok (.invokevirtual 177, 3) := by decide +kernel
theorem dX7_read_121 : decode cX7_read 121 = .ok (.ifCond .ge 18, 3) := by decide +kernel
theorem dX7_read_124 : decode cX7_read 124 = .ok (.aload_n 0, 1) := by decide +kernel
theorem dX7_read_125 : decode cX7_read 125 = .ok (.getfield 28, 3) := by decide +kernel
theorem dX7_read_128 : decode cX7_read 128 = .ok (.iload 7, 2) := by decide +kernel
theorem dX7_read_130 : decode cX7_read 130 = .ok (.putfield 113, 3) := by decide +kernel
theorem dX7_read_133 : decode cX7_read 133 = .ok (.bipush (-20), 2) := by decide +kernel
theorem dX7_read_135 : decode cX7_read 135 = .ok (.iload 8, 2) := by decide +kernel
theorem dX7_read_137 : decode cX7_read 137 = .ok (.isub, 1) := by decide +kernel
theorem dX7_read_138 : decode cX7_read 138 = .ok (.ireturn, 1) := by decide +kernel
theorem dX7_read_139 : decode cX7_read 139 = .ok (.iinc 8 1, 3) := by decide +kernel
theorem dX7_read_142 : decode cX7_read 142 = .ok (.goto (-91), 3) := by decide +kernel
theorem dX7_read_145 : decode cX7_read 145 = .ok (.aload_n 0, 1) := by decide +kernel
theorem dX7_read_146 : decode cX7_read 146 = .ok (.iload 6, 2) := by decide +kernel
theorem dX7_read_148 : decode cX7_read 148 = .ok (.putfield 286, 3) := by decide +kernel
theorem dX7_read_151 : decode cX7_read 151 = .ok (.aload_n 0, 1) := by decide +kernel
theorem dX7_read_152 : decode cX7_read 152 = .ok (.getfield 28, 3) := by decide +kernel
theorem dX7_read_155 : decode cX7_read 155 = .ok (.getfield 113, 3) := by decide +kernel
theorem dX7_read_158 : decode cX7_read 158 = .ok (.iload 7, 2) := by decide +kernel
theorem dX7_read_160 : decode cX7_read 160 = .ok (.isub, 1) := by decide +kernel
theorem dX7_read_161 : decode cX7_read 161 = .ok (.ireturn, 1) := by decide +kernel
theorem dX7_torn_0 : decode cX7_torn 0 = .ok (.aload_n 0, 1) := by decide +kernel
theorem dX7_torn_1 : decode cX7_torn 1 = .ok (.getfield 286, 3) := by decide +kernel
theorem dX7_torn_4 : decode cX7_torn 4 = .ok (.ireturn, 1) := by decide +kernel
theorem dX7_count_0 : decode cX7_count 0 = .ok (.iload_n 1, 1) := by decide +kernel
theorem dX7_count_1 : decode cX7_count 1 = .ok (.tableswitch 130 0 6 #[43, 51, 59, 67, 87, 95, 122], 43) := by decide +kernel
theorem dX7_count_44 : decode cX7_count 44 = .ok (.aload_n 0, 1) := by decide +kernel
theorem dX7_count_45 : decode cX7_count 45 = .ok (.getfield 28, 3) := by decide +kernel
theorem dX7_count_48 : decode cX7_count 48 = .ok (.invokevirtual 289, 3) := by decide +kernel
theorem dX7_count_51 : decode cX7_count 51 = .ok (.ireturn, 1) := by decide +kernel
theorem dX7_count_52 : decode cX7_count 52 = .ok (.aload_n 0, 1) := by decide +kernel
theorem dX7_count_53 : decode cX7_count 53 = .ok (.getfield 37, 3) := by decide +kernel
theorem dX7_count_56 : decode cX7_count 56 = .ok (.getfield 95, 3) := by decide +kernel
theorem dX7_count_59 : decode cX7_count 59 = .ok (.ireturn, 1) := by decide +kernel
theorem dX7_count_60 : decode cX7_count 60 = .ok (.aload_n 0, 1) := by decide +kernel
theorem dX7_count_61 : decode cX7_count 61 = .ok (.getfield 51, 3) := by decide +kernel
theorem dX7_count_64 : decode cX7_count 64 = .ok (.getfield 98, 3) := by decide +kernel
theorem dX7_count_67 : decode cX7_count 67 = .ok (.ireturn, 1) := by decide +kernel
theorem dX7_count_68 : decode cX7_count 68 = .ok (.aload_n 0, 1) := by decide +kernel
theorem dX7_count_69 : decode cX7_count 69 = .ok (.getfield 59, 3) := by decide +kernel
theorem dX7_count_72 : decode cX7_count 72 = .ok (.iconst 0, 1) := by decide +kernel
theorem dX7_count_73 : decode cX7_count 73 = .ok (.baload, 1) := by decide +kernel
theorem dX7_count_74 : decode cX7_count 74 = .ok (.invokestatic 148, 3) := by decide +kernel
theorem dX7_count_77 : decode cX7_count 77 = .ok (.aload_n 0, 1) := by decide +kernel
theorem dX7_count_78 : decode cX7_count 78 = .ok (.getfield 59, 3) := by decide +kernel
theorem dX7_count_81 : decode cX7_count 81 = .ok (.iconst 1, 1) := by decide +kernel
theorem dX7_count_82 : decode cX7_count 82 = .ok (.baload, 1) := by decide +kernel
theorem dX7_count_83 : decode cX7_count 83 = .ok (.invokestatic 148, 3) := by decide +kernel
theorem dX7_count_86 : decode cX7_count 86 = .ok (.iadd, 1) := by decide +kernel
theorem dX7_count_87 : decode cX7_count 87 = .ok (.ireturn, 1) := by decide +kernel
theorem dX7_count_88 : decode cX7_count 88 = .ok (.aload_n 0, 1) := by decide +kernel
theorem dX7_count_89 : decode cX7_count 89 = .ok (.getfield 10, 3) := by decide +kernel
theorem dX7_count_92 : decode cX7_count 92 = .ok (.getfield 82, 3) := by decide +kernel
theorem dX7_count_95 : decode cX7_count 95 = .ok (.ireturn, 1) := by decide +kernel
theorem dX7_count_96 : decode cX7_count 96 = .ok (.aload_n 0, 1) := by decide +kernel
theorem dX7_count_97 : decode cX7_count 97 = .ok (.getfield 65, 3) := by decide +kernel
theorem dX7_count_100 : decode cX7_count 100 = .ok (.iconst 0, 1) := by decide +kernel
theorem dX7_count_101 : decode cX7_count 101 = .ok (.aaload, 1) := by decide +kernel
theorem dX7_count_102 : decode cX7_count 102 = .ok (.invokevirtual 271, 3) := by decide +kernel
theorem dX7_count_105 : decode cX7_count 105 = .ok (.ifCond .eq 8, 3) := by decide +kernel
theorem dX7_count_108 : decode cX7_count 108 = .ok (.bipush (-4), 2) := by decide +kernel
theorem dX7_count_110 : decode cX7_count 110 = .ok (.goto 12, 3) := by decide +kernel
theorem dX7_count_113 : decode cX7_count 113 = .ok (.aload_n 0, 1) := by decide +kernel
theorem dX7_count_114 : decode cX7_count 114 = .ok (.getfield 65, 3) := by decide +kernel
theorem dX7_count_117 : decode cX7_count 117 = .ok (.iconst 0, 1) := by decide +kernel
theorem dX7_count_118 : decode cX7_count 118 = .ok (.aaload, 1) := by decide +kernel
theorem dX7_count_119 : decode cX7_count 119 = .ok (.getfield 274, 3) := by decide +kernel
theorem dX7_count_122 : decode cX7_count 122 = .ok (.ireturn, 1) := by decide +kernel
theorem dX7_count_123 : decode cX7_count 123 = .ok (.aload_n 0, 1) := by decide +kernel
theorem dX7_count_124 : decode cX7_count 124 = .ok (.getfield 28, 3) := by decide +kernel
theorem dX7_count_127 : decode cX7_count 127 = .ok (.invokevirtual 292, 3) := by decide +kernel
theorem dX7_count_130 : decode cX7_count 130 = .ok (.ireturn, 1) := by decide +kernel
theorem dX7_count_131 : decode cX7_count 131 = .ok (.iconst (-1), 1) := by decide +kernel
theorem dX7_count_132 : decode cX7_count 132 = .ok (.ireturn, 1) := by decide +kernel
theorem dX7_oneIf_0 : decode cX7_oneIf 0 = .ok (.iload_n 0, 1) := by decide +kernel
theorem dX7_oneIf_1 : decode cX7_oneIf 1 = .ok (.ifCond .eq 7, 3) := by decide +kernel
theorem dX7_oneIf_4 : decode cX7_oneIf 4 = .ok (.iconst 1, 1) := by decide +kernel
theorem dX7_oneIf_5 : decode cX7_oneIf 5 = .ok (.goto 4, 3) := by decide +kernel
theorem dX7_oneIf_8 : decode cX7_oneIf 8 = .ok (.iconst 0, 1) := by decide +kernel
theorem dX7_oneIf_9 : decode cX7_oneIf 9 = .ok (.ireturn, 1) := by decide +kernel
theorem dX7_hasBit_0 : decode cX7_hasBit 0 = .ok (.iload_n 0, 1) := by decide +kernel
theorem dX7_hasBit_1 : decode cX7_hasBit 1 = .ok (.iload_n 1, 1) := by decide +kernel
theorem dX7_hasBit_2 : decode cX7_hasBit 2 = .ok (.ishr, 1) := by decide +kernel
theorem dX7_hasBit_3 : decode cX7_hasBit 3 = .ok (.iconst 1, 1) := by decide +kernel
theorem dX7_hasBit_4 : decode cX7_hasBit 4 = .ok (.iand, 1) := by decide +kernel
theorem dX7_hasBit_5 : decode cX7_hasBit 5 = .ok (.ifCond .eq 7, 3) := by decide +kernel
theorem dX7_hasBit_8 : decode cX7_hasBit 8 = .ok (.iconst 1, 1) := by decide +kernel
theorem dX7_hasBit_9 : decode cX7_hasBit 9 = .ok (.goto 4, 3) := by decide +kernel
theorem dX7_hasBit_12 : decode cX7_hasBit 12 = .ok (.iconst 0, 1) := by decide +kernel
theorem dX7_hasBit_13 : decode cX7_hasBit 13 = .ok (.ireturn, 1) := by decide +kernel
theorem dX7_allOf_0 : decode cX7_allOf 0 = .ok (.iconst 1, 1) := by decide +kernel
theorem dX7_allOf_1 : decode cX7_allOf 1 = .ok (.iload_n 0, 1) := by decide +kernel
theorem dX7_allOf_2 : decode cX7_allOf 2 = .ok (.ishl, 1) := by decide +kernel
theorem dX7_allOf_3 : decode cX7_allOf 3 = .ok (.iconst 1, 1) := by decide +kernel
theorem dX7_allOf_4 : decode cX7_allOf 4 = .ok (.isub, 1) := by decide +kernel
theorem dX7_allOf_5 : decode cX7_allOf 5 = .ok (.ireturn, 1) := by decide +kernel
theorem dX7_isSubset_0 : decode cX7_isSubset 0 = .ok (.iload_n 0, 1) := by decide +kernel
theorem dX7_isSubset_1 : decode cX7_isSubset 1 = .ok (.ifCond .lt 15, 3) := by decide +kernel
theorem dX7_isSubset_4 : decode cX7_isSubset 4 = .ok (.iload_n 0, 1) := by decide +kernel
theorem dX7_isSubset_5 : decode cX7_isSubset 5 = .ok (.iload_n 1, 1) := by decide +kernel
theorem dX7_isSubset_6 : decode cX7_isSubset 6 = .ok (.invokestatic 247, 3) := by decide +kernel
theorem dX7_isSubset_9 : decode cX7_isSubset 9 = .ok (.if_icmp .gt 7, 3) := by decide +kernel
theorem dX7_isSubset_12 : decode cX7_isSubset 12 = .ok (.iconst 1, 1) := by decide +kernel
theorem dX7_isSubset_13 : decode cX7_isSubset 13 = .ok (.goto 4, 3) := by decide +kernel
theorem dX7_isSubset_16 : decode cX7_isSubset 16 = .ok (.iconst 0, 1) := by decide +kernel
theorem dX7_isSubset_17 : decode cX7_isSubset 17 = .ok (.ireturn, 1) := by decide +kernel
theorem dX7_isHour_0 : decode cX7_isHour 0 = .ok (.iload_n 0, 1) := by decide +kernel
theorem dX7_isHour_1 : decode cX7_isHour 1 = .ok (.ifCond .lt 13, 3) := by decide +kernel
theorem dX7_isHour_4 : decode cX7_isHour 4 = .ok (.iload_n 0, 1) := by decide +kernel
theorem dX7_isHour_5 : decode cX7_isHour 5 = .ok (.bipush 12, 2) := by decide +kernel
theorem dX7_isHour_7 : decode cX7_isHour 7 = .ok (.if_icmp .ge 7, 3) := by decide +kernel
theorem dX7_isHour_10 : decode cX7_isHour 10 = .ok (.iconst 1, 1) := by decide +kernel
theorem dX7_isHour_11 : decode cX7_isHour 11 = .ok (.goto 4, 3) := by decide +kernel
theorem dX7_isHour_14 : decode cX7_isHour 14 = .ok (.iconst 0, 1) := by decide +kernel
theorem dX7_isHour_15 : decode cX7_isHour 15 = .ok (.ireturn, 1) := by decide +kernel
theorem dX7_isSheet_0 : decode cX7_isSheet 0 = .ok (.iload_n 0, 1) := by decide +kernel
theorem dX7_isSheet_1 : decode cX7_isSheet 1 = .ok (.ifCond .lt 12, 3) := by decide +kernel
theorem dX7_isSheet_4 : decode cX7_isSheet 4 = .ok (.iload_n 0, 1) := by decide +kernel
theorem dX7_isSheet_5 : decode cX7_isSheet 5 = .ok (.iconst 4, 1) := by decide +kernel
theorem dX7_isSheet_6 : decode cX7_isSheet 6 = .ok (.if_icmp .ge 7, 3) := by decide +kernel
theorem dX7_isSheet_9 : decode cX7_isSheet 9 = .ok (.iconst 1, 1) := by decide +kernel
theorem dX7_isSheet_10 : decode cX7_isSheet 10 = .ok (.goto 4, 3) := by decide +kernel
theorem dX7_isSheet_13 : decode cX7_isSheet 13 = .ok (.iconst 0, 1) := by decide +kernel
theorem dX7_isSheet_14 : decode cX7_isSheet 14 = .ok (.ireturn, 1) := by decide +kernel
theorem dX7_isLane_0 : decode cX7_isLane 0 = .ok (.iload_n 0, 1) := by decide +kernel
theorem dX7_isLane_1 : decode cX7_isLane 1 = .ok (.ifCond .lt 12, 3) := by decide +kernel
theorem dX7_isLane_4 : decode cX7_isLane 4 = .ok (.iload_n 0, 1) := by decide +kernel
theorem dX7_isLane_5 : decode cX7_isLane 5 = .ok (.iconst 3, 1) := by decide +kernel
theorem dX7_isLane_6 : decode cX7_isLane 6 = .ok (.if_icmp .ge 7, 3) := by decide +kernel
theorem dX7_isLane_9 : decode cX7_isLane 9 = .ok (.iconst 1, 1) := by decide +kernel
theorem dX7_isLane_10 : decode cX7_isLane 10 = .ok (.goto 4, 3) := by decide +kernel
theorem dX7_isLane_13 : decode cX7_isLane 13 = .ok (.iconst 0, 1) := by decide +kernel
theorem dX7_isLane_14 : decode cX7_isLane 14 = .ok (.ireturn, 1) := by decide +kernel
theorem dX7_stepSeed_0 : decode cX7_stepSeed 0 = .ok (.iload_n 0, 1) := by decide +kernel
theorem dX7_stepSeed_1 : decode cX7_stepSeed 1 = .ok (.ldc_w 295, 3) := by decide +kernel
theorem dX7_stepSeed_4 : decode cX7_stepSeed 4 = .ok (.imul, 1) := by decide +kernel
theorem dX7_stepSeed_5 : decode cX7_stepSeed 5 = .ok (.sipush 12345, 3) := by decide +kernel
theorem dX7_stepSeed_8 : decode cX7_stepSeed 8 = .ok (.iadd, 1) := by decide +kernel
theorem dX7_stepSeed_9 : decode cX7_stepSeed 9 = .ok (.ireturn, 1) := by decide +kernel
theorem dX7_drawn_0 : decode cX7_drawn 0 = .ok (.iload_n 0, 1) := by decide +kernel
theorem dX7_drawn_1 : decode cX7_drawn 1 = .ok (.bipush 16, 2) := by decide +kernel
theorem dX7_drawn_3 : decode cX7_drawn 3 = .ok (.ishr, 1) := by decide +kernel
theorem dX7_drawn_4 : decode cX7_drawn 4 = .ok (.sipush 32767, 3) := by decide +kernel
theorem dX7_drawn_7 : decode cX7_drawn 7 = .ok (.iand, 1) := by decide +kernel
theorem dX7_drawn_8 : decode cX7_drawn 8 = .ok (.ireturn, 1) := by decide +kernel
theorem dX8_init_0 : decode cX8_init 0 = .ok (.aload_n 0, 1) := by decide +kernel
theorem dX8_init_1 : decode cX8_init 1 = .ok (.invokespecial 1, 3) := by decide +kernel
theorem dX8_init_4 : decode cX8_init 4 = .ok (.aload_n 0, 1) := by decide +kernel
theorem dX8_init_5 : decode cX8_init 5 = .ok (.sipush 228, 3) := by decide +kernel
theorem dX8_init_8 : decode cX8_init 8 = .ok (.newarray .int, 2) := by decide +kernel
theorem dX8_init_10 : decode cX8_init 10 = .ok (.putfield 7, 3) := by decide +kernel
theorem dX8_init_13 : decode cX8_init 13 = .ok (.aload_n 0, 1) := by decide +kernel
theorem dX8_init_14 : decode cX8_init 14 = .ok (.bipush 18, 2) := by decide +kernel
theorem dX8_init_16 : decode cX8_init 16 = .ok (.newarray .int, 2) := by decide +kernel
theorem dX8_init_18 : decode cX8_init 18 = .ok (.putfield 13, 3) := by decide +kernel
theorem dX8_init_21 : decode cX8_init 21 = .ok (.aload_n 0, 1) := by decide +kernel
theorem dX8_init_22 : decode cX8_init 22 = .ok (.bipush 57, 2) := by decide +kernel
theorem dX8_init_24 : decode cX8_init 24 = .ok (.newarray .int, 2) := by decide +kernel
theorem dX8_init_26 : decode cX8_init 26 = .ok (.putfield 16, 3) := by decide +kernel
theorem dX8_init_29 : decode cX8_init 29 = .ok (.aload_n 0, 1) := by decide +kernel
theorem dX8_init_30 : decode cX8_init 30 = .ok (.bipush 18, 2) := by decide +kernel
theorem dX8_init_32 : decode cX8_init 32 = .ok (.newarray .int, 2) := by decide +kernel
theorem dX8_init_34 : decode cX8_init 34 = .ok (.putfield 19, 3) := by decide +kernel
theorem dX8_init_37 : decode cX8_init 37 = .ok (.aload_n 0, 1) := by decide +kernel
theorem dX8_init_38 : decode cX8_init 38 = .ok (.bipush 6, 2) := by decide +kernel
theorem dX8_init_40 : decode cX8_init 40 = .ok (.newarray .int, 2) := by decide +kernel
theorem dX8_init_42 : decode cX8_init 42 = .ok (.putfield 22, 3) := by decide +kernel
theorem dX8_init_45 : decode cX8_init 45 = .ok (.aload_n 0, 1) := by decide +kernel
theorem dX8_init_46 : decode cX8_init 46 = .ok (.sipush 320, 3) := by decide +kernel
theorem dX8_init_49 : decode cX8_init 49 = .ok (.newarray .int, 2) := by decide +kernel
theorem dX8_init_51 : decode cX8_init 51 = .ok (.putfield 25, 3) := by decide +kernel
theorem dX8_init_54 : decode cX8_init 54 = .ok (.aload_n 0, 1) := by decide +kernel
theorem dX8_init_55 : decode cX8_init 55 = .ok (.bipush 13, 2) := by decide +kernel
theorem dX8_init_57 : decode cX8_init 57 = .ok (.newarray .int, 2) := by decide +kernel
theorem dX8_init_59 : decode cX8_init 59 = .ok (.dup, 1) := by decide +kernel
theorem dX8_init_60 : decode cX8_init 60 = .ok (.iconst 0, 1) := by decide +kernel
theorem dX8_init_61 : decode cX8_init 61 = .ok (.iconst 0, 1) := by decide +kernel
theorem dX8_init_62 : decode cX8_init 62 = .ok (.iastore, 1) := by decide +kernel
theorem dX8_init_63 : decode cX8_init 63 = .ok (.dup, 1) := by decide +kernel
theorem dX8_init_64 : decode cX8_init 64 = .ok (.iconst 1, 1) := by decide +kernel
theorem dX8_init_65 : decode cX8_init 65 = .ok (.iconst 3, 1) := by decide +kernel
theorem dX8_init_66 : decode cX8_init 66 = .ok (.iastore, 1) := by decide +kernel
theorem dX8_init_67 : decode cX8_init 67 = .ok (.dup, 1) := by decide +kernel
theorem dX8_init_68 : decode cX8_init 68 = .ok (.iconst 2, 1) := by decide +kernel
theorem dX8_init_69 : decode cX8_init 69 = .ok (.bipush 6, 2) := by decide +kernel
theorem dX8_init_71 : decode cX8_init 71 = .ok (.iastore, 1) := by decide +kernel
theorem dX8_init_72 : decode cX8_init 72 = .ok (.dup, 1) := by decide +kernel
theorem dX8_init_73 : decode cX8_init 73 = .ok (.iconst 3, 1) := by decide +kernel
theorem dX8_init_74 : decode cX8_init 74 = .ok (.bipush 9, 2) := by decide +kernel
theorem dX8_init_76 : decode cX8_init 76 = .ok (.iastore, 1) := by decide +kernel
theorem dX8_init_77 : decode cX8_init 77 = .ok (.dup, 1) := by decide +kernel
theorem dX8_init_78 : decode cX8_init 78 = .ok (.iconst 4, 1) := by decide +kernel
theorem dX8_init_79 : decode cX8_init 79 = .ok (.bipush 13, 2) := by decide +kernel
theorem dX8_init_81 : decode cX8_init 81 = .ok (.iastore, 1) := by decide +kernel
theorem dX8_init_82 : decode cX8_init 82 = .ok (.dup, 1) := by decide +kernel
theorem dX8_init_83 : decode cX8_init 83 = .ok (.iconst 5, 1) := by decide +kernel
theorem dX8_init_84 : decode cX8_init 84 = .ok (.bipush 18, 2) := by decide +kernel
theorem dX8_init_86 : decode cX8_init 86 = .ok (.iastore, 1) := by decide +kernel
theorem dX8_init_87 : decode cX8_init 87 = .ok (.dup, 1) := by decide +kernel
theorem dX8_init_88 : decode cX8_init 88 = .ok (.bipush 6, 2) := by decide +kernel
theorem dX8_init_90 : decode cX8_init 90 = .ok (.bipush 22, 2) := by decide +kernel
theorem dX8_init_92 : decode cX8_init 92 = .ok (.iastore, 1) := by decide +kernel
theorem dX8_init_93 : decode cX8_init 93 = .ok (.dup, 1) := by decide +kernel
theorem dX8_init_94 : decode cX8_init 94 = .ok (.bipush 7, 2) := by decide +kernel
theorem dX8_init_96 : decode cX8_init 96 = .ok (.bipush 29, 2) := by decide +kernel
theorem dX8_init_98 : decode cX8_init 98 = .ok (.iastore, 1) := by decide +kernel
theorem dX8_init_99 : decode cX8_init 99 = .ok (.dup, 1) := by decide +kernel
theorem dX8_init_100 : decode cX8_init 100 = .ok (.bipush 8, 2) := by decide +kernel
theorem dX8_init_102 : decode cX8_init 102 = .ok (.bipush 34, 2) := by decide +kernel
theorem dX8_init_104 : decode cX8_init 104 = .ok (.iastore, 1) := by decide +kernel
theorem dX8_init_105 : decode cX8_init 105 = .ok (.dup, 1) := by decide +kernel
theorem dX8_init_106 : decode cX8_init 106 = .ok (.bipush 9, 2) := by decide +kernel
theorem dX8_init_108 : decode cX8_init 108 = .ok (.bipush 40, 2) := by decide +kernel
theorem dX8_init_110 : decode cX8_init 110 = .ok (.iastore, 1) := by decide +kernel
theorem dX8_init_111 : decode cX8_init 111 = .ok (.dup, 1) := by decide +kernel
theorem dX8_init_112 : decode cX8_init 112 = .ok (.bipush 10, 2) := by decide +kernel
theorem dX8_init_114 : decode cX8_init 114 = .ok (.bipush 44, 2) := by decide +kernel
theorem dX8_init_116 : decode cX8_init 116 = .ok (.iastore, 1) := by decide +kernel
theorem dX8_init_117 : decode cX8_init 117 = .ok (.dup, 1) := by decide +kernel
theorem dX8_init_118 : decode cX8_init 118 = .ok (.bipush 11, 2) := by decide +kernel
theorem dX8_init_120 : decode cX8_init 120 = .ok (.bipush 50, 2) := by decide +kernel
theorem dX8_init_122 : decode cX8_init 122 = .ok (.iastore, 1) := by decide +kernel
theorem dX8_init_123 : decode cX8_init 123 = .ok (.dup, 1) := by decide +kernel
theorem dX8_init_124 : decode cX8_init 124 = .ok (.bipush 12, 2) := by decide +kernel
theorem dX8_init_126 : decode cX8_init 126 = .ok (.bipush 56, 2) := by decide +kernel
theorem dX8_init_128 : decode cX8_init 128 = .ok (.iastore, 1) := by decide +kernel
theorem dX8_init_129 : decode cX8_init 129 = .ok (.putfield 28, 3) := by decide +kernel
theorem dX8_init_132 : decode cX8_init 132 = .ok (.aload_n 0, 1) := by decide +kernel
theorem dX8_init_133 : decode cX8_init 133 = .ok (.bipush 56, 2) := by decide +kernel
theorem dX8_init_135 : decode cX8_init 135 = .ok (.newarray .int, 2) := by decide +kernel
theorem dX8_init_137 : decode cX8_init 137 = .ok (.dup, 1) := by decide +kernel
theorem dX8_init_138 : decode cX8_init 138 = .ok (.iconst 0, 1) := by decide +kernel
theorem dX8_init_139 : decode cX8_init 139 = .ok (.bipush 108, 2) := by decide +kernel
theorem dX8_init_141 : decode cX8_init 141 = .ok (.iastore, 1) := by decide +kernel
theorem dX8_init_142 : decode cX8_init 142 = .ok (.dup, 1) := by decide +kernel
theorem dX8_init_143 : decode cX8_init 143 = .ok (.iconst 1, 1) := by decide +kernel
theorem dX8_init_144 : decode cX8_init 144 = .ok (.bipush 97, 2) := by decide +kernel
theorem dX8_init_146 : decode cX8_init 146 = .ok (.iastore, 1) := by decide +kernel
theorem dX8_init_147 : decode cX8_init 147 = .ok (.dup, 1) := by decide +kernel
theorem dX8_init_148 : decode cX8_init 148 = .ok (.iconst 2, 1) := by decide +kernel
theorem dX8_init_149 : decode cX8_init 149 = .ok (.bipush 119, 2) := by decide +kernel
theorem dX8_init_151 : decode cX8_init 151 = .ok (.iastore, 1) := by decide +kernel
theorem dX8_init_152 : decode cX8_init 152 = .ok (.dup, 1) := by decide +kernel
theorem dX8_init_153 : decode cX8_init 153 = .ok (.iconst 3, 1) := by decide +kernel
theorem dX8_init_154 : decode cX8_init 154 = .ok (.bipush 102, 2) := by decide +kernel
theorem dX8_init_156 : decode cX8_init 156 = .ok (.iastore, 1) := by decide +kernel
theorem dX8_init_157 : decode cX8_init 157 = .ok (.dup, 1) := by decide +kernel
theorem dX8_init_158 : decode cX8_init 158 = .ok (.iconst 4, 1) := by decide +kernel
theorem dX8_init_159 : decode cX8_init 159 = .ok (.bipush 101, 2) := by decide +kernel
theorem dX8_init_161 : decode cX8_init 161 = .ok (.iastore, 1) := by decide +kernel
theorem dX8_init_162 : decode cX8_init 162 = .ok (.dup, 1) := by decide +kernel
theorem dX8_init_163 : decode cX8_init 163 = .ok (.iconst 5, 1) := by decide +kernel
theorem dX8_init_164 : decode cX8_init 164 = .ok (.bipush 101, 2) := by decide +kernel
theorem dX8_init_166 : decode cX8_init 166 = .ok (.iastore, 1) := by decide +kernel
theorem dX8_init_167 : decode cX8_init 167 = .ok (.dup, 1) := by decide +kernel
theorem dX8_init_168 : decode cX8_init 168 = .ok (.bipush 6, 2) := by decide +kernel
theorem dX8_init_170 : decode cX8_init 170 = .ok (.bipush 111, 2) := by decide +kernel
theorem dX8_init_172 : decode cX8_init 172 = .ok (.iastore, 1) := by decide +kernel
theorem dX8_init_173 : decode cX8_init 173 = .ok (.dup, 1) := by decide +kernel
theorem dX8_init_174 : decode cX8_init 174 = .ok (.bipush 7, 2) := by decide +kernel
theorem dX8_init_176 : decode cX8_init 176 = .ok (.bipush 110, 2) := by decide +kernel
theorem dX8_init_178 : decode cX8_init 178 = .ok (.iastore, 1) := by decide +kernel
theorem dX8_init_179 : decode cX8_init 179 = .ok (.dup, 1) := by decide +kernel
theorem dX8_init_180 : decode cX8_init 180 = .ok (.bipush 8, 2) := by decide +kernel
theorem dX8_init_182 : decode cX8_init 182 = .ok (.bipush 101, 2) := by decide +kernel
theorem dX8_init_184 : decode cX8_init 184 = .ok (.iastore, 1) := by decide +kernel
theorem dX8_init_185 : decode cX8_init 185 = .ok (.dup, 1) := by decide +kernel
theorem dX8_init_186 : decode cX8_init 186 = .ok (.bipush 9, 2) := by decide +kernel
theorem dX8_init_188 : decode cX8_init 188 = .ok (.bipush 99, 2) := by decide +kernel
theorem dX8_init_190 : decode cX8_init 190 = .ok (.iastore, 1) := by decide +kernel
theorem dX8_init_191 : decode cX8_init 191 = .ok (.dup, 1) := by decide +kernel
theorem dX8_init_192 : decode cX8_init 192 = .ok (.bipush 10, 2) := by decide +kernel
theorem dX8_init_194 : decode cX8_init 194 = .ok (.bipush 111, 2) := by decide +kernel
theorem dX8_init_196 : decode cX8_init 196 = .ok (.iastore, 1) := by decide +kernel
theorem dX8_init_197 : decode cX8_init 197 = .ok (.dup, 1) := by decide +kernel
theorem dX8_init_198 : decode cX8_init 198 = .ok (.bipush 11, 2) := by decide +kernel
theorem dX8_init_200 : decode cX8_init 200 = .ok (.bipush 105, 2) := by decide +kernel
theorem dX8_init_202 : decode cX8_init 202 = .ok (.iastore, 1) := by decide +kernel
theorem dX8_init_203 : decode cX8_init 203 = .ok (.dup, 1) := by decide +kernel
theorem dX8_init_204 : decode cX8_init 204 = .ok (.bipush 12, 2) := by decide +kernel
theorem dX8_init_206 : decode cX8_init 206 = .ok (.bipush 110, 2) := by decide +kernel
theorem dX8_init_208 : decode cX8_init 208 = .ok (.iastore, 1) := by decide +kernel
theorem dX8_init_209 : decode cX8_init 209 = .ok (.dup, 1) := by decide +kernel
theorem dX8_init_210 : decode cX8_init 210 = .ok (.bipush 13, 2) := by decide +kernel
theorem dX8_init_212 : decode cX8_init 212 = .ok (.bipush 115, 2) := by decide +kernel
theorem dX8_init_214 : decode cX8_init 214 = .ok (.iastore, 1) := by decide +kernel
theorem dX8_init_215 : decode cX8_init 215 = .ok (.dup, 1) := by decide +kernel
theorem dX8_init_216 : decode cX8_init 216 = .ok (.bipush 14, 2) := by decide +kernel
theorem dX8_init_218 : decode cX8_init 218 = .ok (.bipush 112, 2) := by decide +kernel
theorem dX8_init_220 : decode cX8_init 220 = .ok (.iastore, 1) := by decide +kernel
theorem dX8_init_221 : decode cX8_init 221 = .ok (.dup, 1) := by decide +kernel
theorem dX8_init_222 : decode cX8_init 222 = .ok (.bipush 15, 2) := by decide +kernel
theorem dX8_init_224 : decode cX8_init 224 = .ok (.bipush 101, 2) := by decide +kernel
theorem dX8_init_226 : decode cX8_init 226 = .ok (.iastore, 1) := by decide +kernel
theorem dX8_init_227 : decode cX8_init 227 = .ok (.dup, 1) := by decide +kernel
theorem dX8_init_228 : decode cX8_init 228 = .ok (.bipush 16, 2) := by decide +kernel
theorem dX8_init_230 : decode cX8_init 230 = .ok (.bipush 110, 2) := by decide +kernel
theorem dX8_init_232 : decode cX8_init 232 = .ok (.iastore, 1) := by decide +kernel
theorem dX8_init_233 : decode cX8_init 233 = .ok (.dup, 1) := by decide +kernel
theorem dX8_init_234 : decode cX8_init 234 = .ok (.bipush 17, 2) := by decide +kernel
theorem dX8_init_236 : decode cX8_init 236 = .ok (.bipush 100, 2) := by decide +kernel
theorem dX8_init_238 : decode cX8_init 238 = .ok (.iastore, 1) := by decide +kernel
theorem dX8_init_239 : decode cX8_init 239 = .ok (.dup, 1) := by decide +kernel
theorem dX8_init_240 : decode cX8_init 240 = .ok (.bipush 18, 2) := by decide +kernel
theorem dX8_init_242 : decode cX8_init 242 = .ok (.bipush 116, 2) := by decide +kernel
theorem dX8_init_244 : decode cX8_init 244 = .ok (.iastore, 1) := by decide +kernel
theorem dX8_init_245 : decode cX8_init 245 = .ok (.dup, 1) := by decide +kernel
theorem dX8_init_246 : decode cX8_init 246 = .ok (.bipush 19, 2) := by decide +kernel
theorem dX8_init_248 : decode cX8_init 248 = .ok (.bipush 97, 2) := by decide +kernel
theorem dX8_init_250 : decode cX8_init 250 = .ok (.iastore, 1) := by decide +kernel
theorem dX8_init_251 : decode cX8_init 251 = .ok (.dup, 1) := by decide +kernel
theorem dX8_init_252 : decode cX8_init 252 = .ok (.bipush 20, 2) := by decide +kernel
theorem dX8_init_254 : decode cX8_init 254 = .ok (.bipush 108, 2) := by decide +kernel
theorem dX8_init_256 : decode cX8_init 256 = .ok (.iastore, 1) := by decide +kernel
theorem dX8_init_257 : decode cX8_init 257 = .ok (.dup, 1) := by decide +kernel
theorem dX8_init_258 : decode cX8_init 258 = .ok (.bipush 21, 2) := by decide +kernel
theorem dX8_init_260 : decode cX8_init 260 = .ok (.bipush 107, 2) := by decide +kernel
theorem dX8_init_262 : decode cX8_init 262 = .ok (.iastore, 1) := by decide +kernel
theorem dX8_init_263 : decode cX8_init 263 = .ok (.dup, 1) := by decide +kernel
theorem dX8_init_264 : decode cX8_init 264 = .ok (.bipush 22, 2) := by decide +kernel
theorem dX8_init_266 : decode cX8_init 266 = .ok (.bipush 99, 2) := by decide +kernel
theorem dX8_init_268 : decode cX8_init 268 = .ok (.iastore, 1) := by decide +kernel
theorem dX8_init_269 : decode cX8_init 269 = .ok (.dup, 1) := by decide +kernel
theorem dX8_init_270 : decode cX8_init 270 = .ok (.bipush 23, 2) := by decide +kernel
theorem dX8_init_272 : decode cX8_init 272 = .ok (.bipush 108, 2) := by decide +kernel
theorem dX8_init_274 : decode cX8_init 274 = .ok (.iastore, 1) := by decide +kernel
theorem dX8_init_275 : decode cX8_init 275 = .ok (.dup, 1) := by decide +kernel
theorem dX8_init_276 : decode cX8_init 276 = .ok (.bipush 24, 2) := by decide +kernel
theorem dX8_init_278 : decode cX8_init 278 = .ok (.bipush 105, 2) := by decide +kernel
theorem dX8_init_280 : decode cX8_init 280 = .ok (.iastore, 1) := by decide +kernel
theorem dX8_init_281 : decode cX8_init 281 = .ok (.dup, 1) := by decide +kernel
theorem dX8_init_282 : decode cX8_init 282 = .ok (.bipush 25, 2) := by decide +kernel
theorem dX8_init_284 : decode cX8_init 284 = .ok (.bipush 112, 2) := by decide +kernel
theorem dX8_init_286 : decode cX8_init 286 = .ok (.iastore, 1) := by decide +kernel
theorem dX8_init_287 : decode cX8_init 287 = .ok (.dup, 1) := by decide +kernel
theorem dX8_init_288 : decode cX8_init 288 = .ok (.bipush 26, 2) := by decide +kernel
theorem dX8_init_290 : decode cX8_init 290 = .ok (.bipush 112, 2) := by decide +kernel
theorem dX8_init_292 : decode cX8_init 292 = .ok (.iastore, 1) := by decide +kernel
theorem dX8_init_293 : decode cX8_init 293 = .ok (.dup, 1) := by decide +kernel
theorem dX8_init_294 : decode cX8_init 294 = .ok (.bipush 27, 2) := by decide +kernel
theorem dX8_init_296 : decode cX8_init 296 = .ok (.bipush 101, 2) := by decide +kernel
theorem dX8_init_298 : decode cX8_init 298 = .ok (.iastore, 1) := by decide +kernel
theorem dX8_init_299 : decode cX8_init 299 = .ok (.dup, 1) := by decide +kernel
theorem dX8_init_300 : decode cX8_init 300 = .ok (.bipush 28, 2) := by decide +kernel
theorem dX8_init_302 : decode cX8_init 302 = .ok (.bipush 100, 2) := by decide +kernel
theorem dX8_init_304 : decode cX8_init 304 = .ok (.iastore, 1) := by decide +kernel
theorem dX8_init_305 : decode cX8_init 305 = .ok (.dup, 1) := by decide +kernel
theorem dX8_init_306 : decode cX8_init 306 = .ok (.bipush 29, 2) := by decide +kernel
theorem dX8_init_308 : decode cX8_init 308 = .ok (.bipush 112, 2) := by decide +kernel
theorem dX8_init_310 : decode cX8_init 310 = .ok (.iastore, 1) := by decide +kernel
theorem dX8_init_311 : decode cX8_init 311 = .ok (.dup, 1) := by decide +kernel
theorem dX8_init_312 : decode cX8_init 312 = .ok (.bipush 30, 2) := by decide +kernel
theorem dX8_init_314 : decode cX8_init 314 = .ok (.bipush 108, 2) := by decide +kernel
theorem dX8_init_316 : decode cX8_init 316 = .ok (.iastore, 1) := by decide +kernel
theorem dX8_init_317 : decode cX8_init 317 = .ok (.dup, 1) := by decide +kernel
theorem dX8_init_318 : decode cX8_init 318 = .ok (.bipush 31, 2) := by decide +kernel
theorem dX8_init_320 : decode cX8_init 320 = .ok (.bipush 97, 2) := by decide +kernel
theorem dX8_init_322 : decode cX8_init 322 = .ok (.iastore, 1) := by decide +kernel
theorem dX8_init_323 : decode cX8_init 323 = .ok (.dup, 1) := by decide +kernel
theorem dX8_init_324 : decode cX8_init 324 = .ok (.bipush 32, 2) := by decide +kernel
theorem dX8_init_326 : decode cX8_init 326 = .ok (.bipush 105, 2) := by decide +kernel
theorem dX8_init_328 : decode cX8_init 328 = .ok (.iastore, 1) := by decide +kernel
theorem dX8_init_329 : decode cX8_init 329 = .ok (.dup, 1) := by decide +kernel
theorem dX8_init_330 : decode cX8_init 330 = .ok (.bipush 33, 2) := by decide +kernel
theorem dX8_init_332 : decode cX8_init 332 = .ok (.bipush 110, 2) := by decide +kernel
theorem dX8_init_334 : decode cX8_init 334 = .ok (.iastore, 1) := by decide +kernel
theorem dX8_init_335 : decode cX8_init 335 = .ok (.dup, 1) := by decide +kernel
theorem dX8_init_336 : decode cX8_init 336 = .ok (.bipush 34, 2) := by decide +kernel
theorem dX8_init_338 : decode cX8_init 338 = .ok (.bipush 103, 2) := by decide +kernel
theorem dX8_init_340 : decode cX8_init 340 = .ok (.iastore, 1) := by decide +kernel
theorem dX8_init_341 : decode cX8_init 341 = .ok (.dup, 1) := by decide +kernel
theorem dX8_init_342 : decode cX8_init 342 = .ok (.bipush 35, 2) := by decide +kernel
theorem dX8_init_344 : decode cX8_init 344 = .ok (.bipush 111, 2) := by decide +kernel
theorem dX8_init_346 : decode cX8_init 346 = .ok (.iastore, 1) := by decide +kernel
theorem dX8_init_347 : decode cX8_init 347 = .ok (.dup, 1) := by decide +kernel
theorem dX8_init_348 : decode cX8_init 348 = .ok (.bipush 36, 2) := by decide +kernel
theorem dX8_init_350 : decode cX8_init 350 = .ok (.bipush 115, 2) := by decide +kernel
theorem dX8_init_352 : decode cX8_init 352 = .ok (.iastore, 1) := by decide +kernel
theorem dX8_init_353 : decode cX8_init 353 = .ok (.dup, 1) := by decide +kernel
theorem dX8_init_354 : decode cX8_init 354 = .ok (.bipush 37, 2) := by decide +kernel
theorem dX8_init_356 : decode cX8_init 356 = .ok (.bipush 115, 2) := by decide +kernel
theorem dX8_init_358 : decode cX8_init 358 = .ok (.iastore, 1) := by decide +kernel
theorem dX8_init_359 : decode cX8_init 359 = .ok (.dup, 1) := by decide +kernel
theorem dX8_init_360 : decode cX8_init 360 = .ok (.bipush 38, 2) := by decide +kernel
theorem dX8_init_362 : decode cX8_init 362 = .ok (.bipush 105, 2) := by decide +kernel
theorem dX8_init_364 : decode cX8_init 364 = .ok (.iastore, 1) := by decide +kernel
theorem dX8_init_365 : decode cX8_init 365 = .ok (.dup, 1) := by decide +kernel
theorem dX8_init_366 : decode cX8_init 366 = .ok (.bipush 39, 2) := by decide +kernel
theorem dX8_init_368 : decode cX8_init 368 = .ok (.bipush 112, 2) := by decide +kernel
theorem dX8_init_370 : decode cX8_init 370 = .ok (.iastore, 1) := by decide +kernel
theorem dX8_init_371 : decode cX8_init 371 = .ok (.dup, 1) := by decide +kernel
theorem dX8_init_372 : decode cX8_init 372 = .ok (.bipush 40, 2) := by decide +kernel
theorem dX8_init_374 : decode cX8_init 374 = .ok (.bipush 100, 2) := by decide +kernel
theorem dX8_init_376 : decode cX8_init 376 = .ok (.iastore, 1) := by decide +kernel
theorem dX8_init_377 : decode cX8_init 377 = .ok (.dup, 1) := by decide +kernel
theorem dX8_init_378 : decode cX8_init 378 = .ok (.bipush 41, 2) := by decide +kernel
theorem dX8_init_380 : decode cX8_init 380 = .ok (.bipush 101, 2) := by decide +kernel
theorem dX8_init_382 : decode cX8_init 382 = .ok (.iastore, 1) := by decide +kernel
theorem dX8_init_383 : decode cX8_init 383 = .ok (.dup, 1) := by decide +kernel
theorem dX8_init_384 : decode cX8_init 384 = .ok (.bipush 42, 2) := by decide +kernel
theorem dX8_init_386 : decode cX8_init 386 = .ok (.bipush 97, 2) := by decide +kernel
theorem dX8_init_388 : decode cX8_init 388 = .ok (.iastore, 1) := by decide +kernel
theorem dX8_init_389 : decode cX8_init 389 = .ok (.dup, 1) := by decide +kernel
theorem dX8_init_390 : decode cX8_init 390 = .ok (.bipush 43, 2) := by decide +kernel
theorem dX8_init_392 : decode cX8_init 392 = .ok (.bipush 102, 2) := by decide +kernel
theorem dX8_init_394 : decode cX8_init 394 = .ok (.iastore, 1) := by decide +kernel
theorem dX8_init_395 : decode cX8_init 395 = .ok (.dup, 1) := by decide +kernel
theorem dX8_init_396 : decode cX8_init 396 = .ok (.bipush 44, 2) := by decide +kernel
theorem dX8_init_398 : decode cX8_init 398 = .ok (.bipush 98, 2) := by decide +kernel
theorem dX8_init_400 : decode cX8_init 400 = .ok (.iastore, 1) := by decide +kernel
theorem dX8_init_401 : decode cX8_init 401 = .ok (.dup, 1) := by decide +kernel
theorem dX8_init_402 : decode cX8_init 402 = .ok (.bipush 45, 2) := by decide +kernel
theorem dX8_init_404 : decode cX8_init 404 = .ok (.bipush 101, 2) := by decide +kernel
theorem dX8_init_406 : decode cX8_init 406 = .ok (.iastore, 1) := by decide +kernel
theorem dX8_init_407 : decode cX8_init 407 = .ok (.dup, 1) := by decide +kernel
theorem dX8_init_408 : decode cX8_init 408 = .ok (.bipush 46, 2) := by decide +kernel
theorem dX8_init_410 : decode cX8_init 410 = .ok (.bipush 103, 2) := by decide +kernel
theorem dX8_init_412 : decode cX8_init 412 = .ok (.iastore, 1) := by decide +kernel
theorem dX8_init_413 : decode cX8_init 413 = .ok (.dup, 1) := by decide +kernel
theorem dX8_init_414 : decode cX8_init 414 = .ok (.bipush 47, 2) := by decide +kernel
theorem dX8_init_416 : decode cX8_init 416 = .ok (.bipush 103, 2) := by decide +kernel
theorem dX8_init_418 : decode cX8_init 418 = .ok (.iastore, 1) := by decide +kernel
theorem dX8_init_419 : decode cX8_init 419 = .ok (.dup, 1) := by decide +kernel
theorem dX8_init_420 : decode cX8_init 420 = .ok (.bipush 48, 2) := by decide +kernel
theorem dX8_init_422 : decode cX8_init 422 = .ok (.bipush 97, 2) := by decide +kernel
theorem dX8_init_424 : decode cX8_init 424 = .ok (.iastore, 1) := by decide +kernel
theorem dX8_init_425 : decode cX8_init 425 = .ok (.dup, 1) := by decide +kernel
theorem dX8_init_426 : decode cX8_init 426 = .ok (.bipush 49, 2) := by decide +kernel
theorem dX8_init_428 : decode cX8_init 428 = .ok (.bipush 114, 2) := by decide +kernel
theorem dX8_init_430 : decode cX8_init 430 = .ok (.iastore, 1) := by decide +kernel
theorem dX8_init_431 : decode cX8_init 431 = .ok (.dup, 1) := by decide +kernel
theorem dX8_init_432 : decode cX8_init 432 = .ok (.bipush 50, 2) := by decide +kernel
theorem dX8_init_434 : decode cX8_init 434 = .ok (.bipush 116, 2) := by decide +kernel
theorem dX8_init_436 : decode cX8_init 436 = .ok (.iastore, 1) := by decide +kernel
theorem dX8_init_437 : decode cX8_init 437 = .ok (.dup, 1) := by decide +kernel
theorem dX8_init_438 : decode cX8_init 438 = .ok (.bipush 51, 2) := by decide +kernel
theorem dX8_init_440 : decode cX8_init 440 = .ok (.bipush 97, 2) := by decide +kernel
theorem dX8_init_442 : decode cX8_init 442 = .ok (.iastore, 1) := by decide +kernel
theorem dX8_init_443 : decode cX8_init 443 = .ok (.dup, 1) := by decide +kernel
theorem dX8_init_444 : decode cX8_init 444 = .ok (.bipush 52, 2) := by decide +kernel
theorem dX8_init_446 : decode cX8_init 446 = .ok (.bipush 120, 2) := by decide +kernel
theorem dX8_init_448 : decode cX8_init 448 = .ok (.iastore, 1) := by decide +kernel
theorem dX8_init_449 : decode cX8_init 449 = .ok (.dup, 1) := by decide +kernel
theorem dX8_init_450 : decode cX8_init 450 = .ok (.bipush 53, 2) := by decide +kernel
theorem dX8_init_452 : decode cX8_init 452 = .ok (.bipush 109, 2) := by decide +kernel
theorem dX8_init_454 : decode cX8_init 454 = .ok (.iastore, 1) := by decide +kernel
theorem dX8_init_455 : decode cX8_init 455 = .ok (.dup, 1) := by decide +kernel
theorem dX8_init_456 : decode cX8_init 456 = .ok (.bipush 54, 2) := by decide +kernel
theorem dX8_init_458 : decode cX8_init 458 = .ok (.bipush 97, 2) := by decide +kernel
theorem dX8_init_460 : decode cX8_init 460 = .ok (.iastore, 1) := by decide +kernel
theorem dX8_init_461 : decode cX8_init 461 = .ok (.dup, 1) := by decide +kernel
theorem dX8_init_462 : decode cX8_init 462 = .ok (.bipush 55, 2) := by decide +kernel
theorem dX8_init_464 : decode cX8_init 464 = .ok (.bipush 110, 2) := by decide +kernel
theorem dX8_init_466 : decode cX8_init 466 = .ok (.iastore, 1) := by decide +kernel
theorem dX8_init_467 : decode cX8_init 467 = .ok (.putfield 31, 3) := by decide +kernel
theorem dX8_init_470 : decode cX8_init 470 = .ok (.aload_n 0, 1) := by decide +kernel
theorem dX8_init_471 : decode cX8_init 471 = .ok (.bipush 12, 2) := by decide +kernel
theorem dX8_init_473 : decode cX8_init 473 = .ok (.newarray .int, 2) := by decide +kernel
theorem dX8_init_475 : decode cX8_init 475 = .ok (.putfield 34, 3) := by decide +kernel
theorem dX8_init_478 : decode cX8_init 478 = .ok (.aload_n 0, 1) := by decide +kernel
theorem dX8_init_479 : decode cX8_init 479 = .ok (.bipush 12, 2) := by decide +kernel
theorem dX8_init_481 : decode cX8_init 481 = .ok (.newarray .int, 2) := by decide +kernel
theorem dX8_init_483 : decode cX8_init 483 = .ok (.putfield 37, 3) := by decide +kernel
theorem dX8_init_486 : decode cX8_init 486 = .ok (.aload_n 0, 1) := by decide +kernel
theorem dX8_init_487 : decode cX8_init 487 = .ok (.bipush 6, 2) := by decide +kernel
theorem dX8_init_489 : decode cX8_init 489 = .ok (.newarray .int, 2) := by decide +kernel
theorem dX8_init_491 : decode cX8_init 491 = .ok (.putfield 40, 3) := by decide +kernel
theorem dX8_init_494 : decode cX8_init 494 = .ok (.aload_n 0, 1) := by decide +kernel
theorem dX8_init_495 : decode cX8_init 495 = .ok (.bipush 6, 2) := by decide +kernel
theorem dX8_init_497 : decode cX8_init 497 = .ok (.newarray .int, 2) := by decide +kernel
theorem dX8_init_499 : decode cX8_init 499 = .ok (.putfield 43, 3) := by decide +kernel
theorem dX8_init_502 : decode cX8_init 502 = .ok (.aload_n 0, 1) := by decide +kernel
theorem dX8_init_503 : decode cX8_init 503 = .ok (.bipush 100, 2) := by decide +kernel
theorem dX8_init_505 : decode cX8_init 505 = .ok (.newarray .int, 2) := by decide +kernel
theorem dX8_init_507 : decode cX8_init 507 = .ok (.putfield 46, 3) := by decide +kernel
theorem dX8_init_510 : decode cX8_init 510 = .ok (.aload_n 0, 1) := by decide +kernel
theorem dX8_init_511 : decode cX8_init 511 = .ok (.bipush 16, 2) := by decide +kernel
theorem dX8_init_513 : decode cX8_init 513 = .ok (.newarray .int, 2) := by decide +kernel
theorem dX8_init_515 : decode cX8_init 515 = .ok (.putfield 49, 3) := by decide +kernel
theorem dX8_init_518 : decode cX8_init 518 = .ok (.aload_n 0, 1) := by decide +kernel
theorem dX8_init_519 : decode cX8_init 519 = .ok (.iconst 2, 1) := by decide +kernel
theorem dX8_init_520 : decode cX8_init 520 = .ok (.newarray .boolean, 2) := by decide +kernel
theorem dX8_init_522 : decode cX8_init 522 = .ok (.putfield 52, 3) := by decide +kernel
theorem dX8_init_525 : decode cX8_init 525 = .ok (.aload_n 0, 1) := by decide +kernel
theorem dX8_init_526 : decode cX8_init 526 = .ok (.iconst 4, 1) := by decide +kernel
theorem dX8_init_527 : decode cX8_init 527 = .ok (.newarray .int, 2) := by decide +kernel
theorem dX8_init_529 : decode cX8_init 529 = .ok (.dup, 1) := by decide +kernel
theorem dX8_init_530 : decode cX8_init 530 = .ok (.iconst 0, 1) := by decide +kernel
theorem dX8_init_531 : decode cX8_init 531 = .ok (.bipush (-4), 2) := by decide +kernel
theorem dX8_init_533 : decode cX8_init 533 = .ok (.iastore, 1) := by decide +kernel
theorem dX8_init_534 : decode cX8_init 534 = .ok (.dup, 1) := by decide +kernel
theorem dX8_init_535 : decode cX8_init 535 = .ok (.iconst 1, 1) := by decide +kernel
theorem dX8_init_536 : decode cX8_init 536 = .ok (.bipush (-4), 2) := by decide +kernel
theorem dX8_init_538 : decode cX8_init 538 = .ok (.iastore, 1) := by decide +kernel
theorem dX8_init_539 : decode cX8_init 539 = .ok (.dup, 1) := by decide +kernel
theorem dX8_init_540 : decode cX8_init 540 = .ok (.iconst 2, 1) := by decide +kernel
theorem dX8_init_541 : decode cX8_init 541 = .ok (.bipush (-4), 2) := by decide +kernel
theorem dX8_init_543 : decode cX8_init 543 = .ok (.iastore, 1) := by decide +kernel
theorem dX8_init_544 : decode cX8_init 544 = .ok (.dup, 1) := by decide +kernel
theorem dX8_init_545 : decode cX8_init 545 = .ok (.iconst 3, 1) := by decide +kernel
theorem dX8_init_546 : decode cX8_init 546 = .ok (.bipush (-4), 2) := by decide +kernel
theorem dX8_init_548 : decode cX8_init 548 = .ok (.iastore, 1) := by decide +kernel
theorem dX8_init_549 : decode cX8_init 549 = .ok (.putfield 56, 3) := by decide +kernel
theorem dX8_init_552 : decode cX8_init 552 = .ok (.aload_n 0, 1) := by decide +kernel
theorem dX8_init_553 : decode cX8_init 553 = .ok (.iconst 4, 1) := by decide +kernel
theorem dX8_init_554 : decode cX8_init 554 = .ok (.newarray .int, 2) := by decide +kernel
theorem dX8_init_556 : decode cX8_init 556 = .ok (.putfield 59, 3) := by decide +kernel
theorem dX8_init_559 : decode cX8_init 559 = .ok (.aload_n 0, 1) := by decide +kernel
theorem dX8_init_560 : decode cX8_init 560 = .ok (.sipush 160, 3) := by decide +kernel
theorem dX8_init_563 : decode cX8_init 563 = .ok (.newarray .int, 2) := by decide +kernel
theorem dX8_init_565 : decode cX8_init 565 = .ok (.putfield 62, 3) := by decide +kernel
theorem dX8_init_568 : decode cX8_init 568 = .ok (.return_, 1) := by decide +kernel
theorem dX8_in_0 : decode cX8_in 0 = .ok (.lload_n 0, 1) := by decide +kernel
theorem dX8_in_1 : decode cX8_in 1 = .ok (.lload_n 2, 1) := by decide +kernel
theorem dX8_in_2 : decode cX8_in 2 = .ok (.lcmp, 1) := by decide +kernel
theorem dX8_in_3 : decode cX8_in 3 = .ok (.ifCond .lt 14, 3) := by decide +kernel
theorem dX8_in_6 : decode cX8_in 6 = .ok (.lload_n 0, 1) := by decide +kernel
theorem dX8_in_7 : decode cX8_in 7 = .ok (.lload 4, 2) := by decide +kernel
theorem dX8_in_9 : decode cX8_in 9 = .ok (.lcmp, 1) := by decide +kernel
theorem dX8_in_10 : decode cX8_in 10 = .ok (.ifCond .gt 7, 3) := by decide +kernel
theorem dX8_in_13 : decode cX8_in 13 = .ok (.iconst 1, 1) := by decide +kernel
theorem dX8_in_14 : decode cX8_in 14 = .ok (.goto 4, 3) := by decide +kernel
theorem dX8_in_17 : decode cX8_in 17 = .ok (.iconst 0, 1) := by decide +kernel
theorem dX8_in_18 : decode cX8_in 18 = .ok (.ireturn, 1) := by decide +kernel
theorem dX8_feed_0 : decode cX8_feed 0 = .ok (.aload_n 0, 1) := by decide +kernel
theorem dX8_feed_1 : decode cX8_feed 1 = .ok (.getfield 65, 3) := by decide +kernel
theorem dX8_feed_4 : decode cX8_feed 4 = .ok (.bipush 8, 2) := by decide +kernel
theorem dX8_feed_6 : decode cX8_feed 6 = .ok (.iadd, 1) := by decide +kernel
theorem dX8_feed_7 : decode cX8_feed 7 = .ok (.sipush 320, 3) := by decide +kernel
theorem dX8_feed_10 : decode cX8_feed 10 = .ok (.if_icmp .le 6, 3) := by decide +kernel
theorem dX8_feed_13 : decode cX8_feed 13 = .ok (.bipush (-3), 2) := by decide +kernel
theorem dX8_feed_15 : decode cX8_feed 15 = .ok (.ireturn, 1) := by decide +kernel
theorem dX8_feed_16 : decode cX8_feed 16 = .ok (.bipush 56, 2) := by decide +kernel
theorem dX8_feed_18 : decode cX8_feed 18 = .ok (.istore_n 3, 1) := by decide +kernel
theorem dX8_feed_19 : decode cX8_feed 19 = .ok (.iload_n 3, 1) := by decide +kernel
theorem dX8_feed_20 : decode cX8_feed 20 = .ok (.ifCond .lt 36, 3) := by decide +kernel
theorem dX8_feed_23 : decode cX8_feed 23 = .ok (.aload_n 0, 1) := by decide +kernel
theorem dX8_feed_24 : decode cX8_feed 24 = .ok (.getfield 25, 3) := by decide +kernel
theorem dX8_feed_27 : decode cX8_feed 27 = .ok (.aload_n 0, 1) := by decide +kernel
theorem dX8_feed_28 : decode cX8_feed 28 = .ok (.getfield 65, 3) := by decide +kernel
theorem dX8_feed_31 : decode cX8_feed 31 = .ok (.lload_n 1, 1) := by decide +kernel
theorem dX8_feed_32 : decode cX8_feed 32 = .ok (.iload_n 3, 1) := by decide +kernel
theorem dX8_feed_33 : decode cX8_feed 33 = .ok (.lshr, 1) := by decide +kernel
theorem dX8_feed_34 : decode cX8_feed 34 = .ok (.l2i, 1) := by decide +kernel
theorem dX8_feed_35 : decode cX8_feed 35 = .ok (.sipush 255, 3) := by decide +kernel
theorem dX8_feed_38 : decode cX8_feed 38 = .ok (.iand, 1) := by decide +kernel
theorem dX8_feed_39 : decode cX8_feed 39 = .ok (.iastore, 1) := by decide +kernel
theorem dX8_feed_40 : decode cX8_feed 40 = .ok (.aload_n 0, 1) := by decide +kernel
theorem dX8_feed_41 : decode cX8_feed 41 = .ok (.dup, 1) := by decide +kernel
theorem dX8_feed_42 : decode cX8_feed 42 = .ok (.getfield 65, 3) := by decide +kernel
theorem dX8_feed_45 : decode cX8_feed 45 = .ok (.iconst 1, 1) := by decide +kernel
theorem dX8_feed_46 : decode cX8_feed 46 = .ok (.iadd, 1) := by decide +kernel
theorem dX8_feed_47 : decode cX8_feed 47 = .ok (.putfield 65, 3) := by decide +kernel
theorem dX8_feed_50 : decode cX8_feed 50 = .ok (.iinc 3 (-8), 3) := by decide +kernel
theorem dX8_feed_53 : decode cX8_feed 53 = .ok (.goto (-34), 3) := by decide +kernel
theorem dX8_feed_56 : decode cX8_feed 56 = .ok (.aload_n 0, 1) := by decide +kernel
theorem dX8_feed_57 : decode cX8_feed 57 = .ok (.getfield 65, 3) := by decide +kernel
theorem dX8_feed_60 : decode cX8_feed 60 = .ok (.ireturn, 1) := by decide +kernel
theorem dX8_end_0 : decode cX8_end 0 = .ok (.iload_n 1, 1) := by decide +kernel
theorem dX8_end_1 : decode cX8_end 1 = .ok (.i2l, 1) := by decide +kernel
theorem dX8_end_2 : decode cX8_end 2 = .ok (.lconst 0, 1) := by decide +kernel
theorem dX8_end_3 : decode cX8_end 3 = .ok (.aload_n 0, 1) := by decide +kernel
theorem dX8_end_4 : decode cX8_end 4 = .ok (.getfield 65, 3) := by decide +kernel
theorem dX8_end_7 : decode cX8_end 7 = .ok (.i2l, 1) := by decide +kernel
theorem dX8_end_8 : decode cX8_end 8 = .ok (.invokestatic 69, 3) := by decide +kernel
theorem dX8_end_11 : decode cX8_end 11 = .ok (.ifCond .ne 5, 3) := by decide +kernel
theorem dX8_end_14 : decode cX8_end 14 = .ok (.iconst (-1), 1) := by decide +kernel
theorem dX8_end_15 : decode cX8_end 15 = .ok (.ireturn, 1) := by decide +kernel
theorem dX8_end_16 : decode cX8_end 16 = .ok (.aload_n 0, 1) := by decide +kernel
theorem dX8_end_17 : decode cX8_end 17 = .ok (.getfield 65, 3) := by decide +kernel
theorem dX8_end_20 : decode cX8_end 20 = .ok (.istore_n 2, 1) := by decide +kernel
theorem dX8_end_21 : decode cX8_end 21 = .ok (.aload_n 0, 1) := by decide +kernel
theorem dX8_end_22 : decode cX8_end 22 = .ok (.iload_n 1, 1) := by decide +kernel
theorem dX8_end_23 : decode cX8_end 23 = .ok (.putfield 65, 3) := by decide +kernel
theorem dX8_end_26 : decode cX8_end 26 = .ok (.iload_n 2, 1) := by decide +kernel
theorem dX8_end_27 : decode cX8_end 27 = .ok (.ireturn, 1) := by decide +kernel
theorem dX8_byteAt_0 : decode cX8_byteAt 0 = .ok (.iload_n 1, 1) := by decide +kernel
theorem dX8_byteAt_1 : decode cX8_byteAt 1 = .ok (.aload_n 0, 1) := by decide +kernel
theorem dX8_byteAt_2 : decode cX8_byteAt 2 = .ok (.getfield 65, 3) := by decide +kernel
theorem dX8_byteAt_5 : decode cX8_byteAt 5 = .ok (.if_icmp .ge 12, 3) := by decide +kernel
theorem dX8_byteAt_8 : decode cX8_byteAt 8 = .ok (.aload_n 0, 1) := by decide +kernel
theorem dX8_byteAt_9 : decode cX8_byteAt 9 = .ok (.getfield 25, 3) := by decide +kernel
theorem dX8_byteAt_12 : decode cX8_byteAt 12 = .ok (.iload_n 1, 1) := by decide +kernel
theorem dX8_byteAt_13 : decode cX8_byteAt 13 = .ok (.iaload, 1) := by decide +kernel
theorem dX8_byteAt_14 : decode cX8_byteAt 14 = .ok (.goto 5, 3) := by decide +kernel
theorem dX8_byteAt_17 : decode cX8_byteAt 17 = .ok (.bipush (-4), 2) := by decide +kernel
theorem dX8_byteAt_19 : decode cX8_byteAt 19 = .ok (.ireturn, 1) := by decide +kernel
theorem dX8_fails_0 : decode cX8_fails 0 = .ok (.aload_n 0, 1) := by decide +kernel
theorem dX8_fails_1 : decode cX8_fails 1 = .ok (.getfield 73, 3) := by decide +kernel
theorem dX8_fails_4 : decode cX8_fails 4 = .ok (.ifCond .ne 16, 3) := by decide +kernel
theorem dX8_fails_7 : decode cX8_fails 7 = .ok (.aload_n 0, 1) := by decide +kernel
theorem dX8_fails_8 : decode cX8_fails 8 = .ok (.iload_n 1, 1) := by decide +kernel
theorem dX8_fails_9 : decode cX8_fails 9 = .ok (.putfield 73, 3) := by decide +kernel
theorem dX8_fails_12 : decode cX8_fails 12 = .ok (.aload_n 0, 1) := by decide +kernel
theorem dX8_fails_13 : decode cX8_fails 13 = .ok (.aload_n 0, 1) := by decide +kernel
theorem dX8_fails_14 : decode cX8_fails 14 = .ok (.getfield 76, 3) := by decide +kernel
theorem dX8_fails_17 : decode cX8_fails 17 = .ok (.putfield 79, 3) := by decide +kernel
theorem dX8_fails_20 : decode cX8_fails 20 = .ok (.return_, 1) := by decide +kernel
theorem dX8_nameHere_0 : decode cX8_nameHere 0 = .ok (.iconst 0, 1) := by decide +kernel
theorem dX8_nameHere_1 : decode cX8_nameHere 1 = .ok (.istore_n 1, 1) := by decide +kernel
theorem dX8_nameHere_2 : decode cX8_nameHere 2 = .ok (.iload_n 1, 1) := by decide +kernel
theorem dX8_nameHere_3 : decode cX8_nameHere 3 = .ok (.bipush 12, 2) := by decide +kernel
theorem dX8_nameHere_5 : decode cX8_nameHere 5 = .ok (.if_icmp .ge 113, 3) := by decide +kernel
theorem dX8_nameHere_8 : decode cX8_nameHere 8 = .ok (.aload_n 0, 1) := by decide +kernel
theorem dX8_nameHere_9 : decode cX8_nameHere 9 = .ok (.getfield 82, 3) := by decide +kernel
theorem dX8_nameHere_12 : decode cX8_nameHere 12 = .ok (.iconst 1, 1) := by decide +kernel
theorem dX8_nameHere_13 : decode cX8_nameHere 13 = .ok (.if_icmp .ne 105, 3) := by decide +kernel
theorem dX8_nameHere_16 : decode cX8_nameHere 16 = .ok (.aload_n 0, 1) := by decide +kernel
theorem dX8_nameHere_17 : decode cX8_nameHere 17 = .ok (.getfield 85, 3) := by decide +kernel
theorem dX8_nameHere_20 : decode cX8_nameHere 20 = .ok (.aload_n 0, 1) := by decide +kernel
theorem dX8_nameHere_21 : decode cX8_nameHere 21 = .ok (.getfield 76, 3) := by decide +kernel
theorem dX8_nameHere_24 : decode cX8_nameHere 24 = .ok (.isub, 1) := by decide +kernel
theorem dX8_nameHere_25 : decode cX8_nameHere 25 = .ok (.aload_n 0, 1) := by decide +kernel
theorem dX8_nameHere_26 : decode cX8_nameHere 26 = .ok (.getfield 28, 3) := by decide +kernel
theorem dX8_nameHere_29 : decode cX8_nameHere 29 = .ok (.iload_n 1, 1) := by decide +kernel
theorem dX8_nameHere_30 : decode cX8_nameHere 30 = .ok (.iconst 1, 1) := by decide +kernel
theorem dX8_nameHere_31 : decode cX8_nameHere 31 = .ok (.iadd, 1) := by decide +kernel
theorem dX8_nameHere_32 : decode cX8_nameHere 32 = .ok (.iaload, 1) := by decide +kernel
theorem dX8_nameHere_33 : decode cX8_nameHere 33 = .ok (.aload_n 0, 1) := by decide +kernel
theorem dX8_nameHere_34 : decode cX8_nameHere 34 = .ok (.getfield 28, 3) := by decide +kernel
theorem dX8_nameHere_37 : decode cX8_nameHere 37 = .ok (.iload_n 1, 1) := by decide +kernel
theorem dX8_nameHere_38 : decode cX8_nameHere 38 = .ok (.iaload, 1) := by decide +kernel
theorem dX8_nameHere_39 : decode cX8_nameHere 39 = .ok (.isub, 1) := by decide +kernel
theorem dX8_nameHere_40 : decode cX8_nameHere 40 = .ok (.if_icmp .ne 7, 3) := by decide +kernel
theorem dX8_nameHere_43 : decode cX8_nameHere 43 = .ok (.iconst 1, 1) := by decide +kernel
theorem dX8_nameHere_44 : decode cX8_nameHere 44 = .ok (.goto 4, 3) := by decide +kernel
theorem dX8_nameHere_47 : decode cX8_nameHere 47 = .ok (.iconst 0, 1) := by decide +kernel
theorem dX8_nameHere_48 : decode cX8_nameHere 48 = .ok (.istore_n 2, 1) := by decide +kernel
theorem dX8_nameHere_49 : decode cX8_nameHere 49 = .ok (.iconst 0, 1) := by decide +kernel
theorem dX8_nameHere_50 : decode cX8_nameHere 50 = .ok (.istore_n 3, 1) := by decide +kernel
theorem dX8_nameHere_51 : decode cX8_nameHere 51 = .ok (.iload_n 2, 1) := by decide +kernel
theorem dX8_nameHere_52 : decode cX8_nameHere 52 = .ok (.ifCond .eq 54, 3) := by decide +kernel
theorem dX8_nameHere_55 : decode cX8_nameHere 55 = .ok (.iload_n 3, 1) := by decide +kernel
theorem dX8_nameHere_56 : decode cX8_nameHere 56 = .ok (.aload_n 0, 1) := by decide +kernel
theorem dX8_nameHere_57 : decode cX8_nameHere 57 = .ok (.getfield 85, 3) := by decide +kernel
theorem dX8_nameHere_60 : decode cX8_nameHere 60 = .ok (.aload_n 0, 1) := by decide +kernel
theorem dX8_nameHere_61 : decode cX8_nameHere 61 = .ok (.getfield 76, 3) := by decide +kernel
theorem dX8_nameHere_64 : decode cX8_nameHere 64 = .ok (.isub, 1) := by decide +kernel
theorem dX8_nameHere_65 : decode cX8_nameHere 65 = .ok (.if_icmp .ge 41, 3) := by decide +kernel
theorem dX8_nameHere_68 : decode cX8_nameHere 68 = .ok (.aload_n 0, 1) := by decide +kernel
theorem dX8_nameHere_69 : decode cX8_nameHere 69 = .ok (.aload_n 0, 1) := by decide +kernel
theorem dX8_nameHere_70 : decode cX8_nameHere 70 = .ok (.getfield 76, 3) := by decide +kernel
theorem dX8_nameHere_73 : decode cX8_nameHere 73 = .ok (.iload_n 3, 1) := by decide +kernel
theorem dX8_nameHere_74 : decode cX8_nameHere 74 = .ok (.iadd, 1) := by decide +kernel
theorem dX8_nameHere_75 : decode cX8_nameHere 75 = .ok (.invokevirtual 88, 3) := by decide +kernel
theorem dX8_nameHere_78 : decode cX8_nameHere 78 = .ok (.aload_n 0, 1) := by decide +kernel
theorem dX8_nameHere_79 : decode cX8_nameHere 79 = .ok (.getfield 31, 3) := by decide +kernel
theorem dX8_nameHere_82 : decode cX8_nameHere 82 = .ok (.aload_n 0, 1) := by decide +kernel
theorem dX8_nameHere_83 : decode cX8_nameHere 83 = .ok (.getfield 28, 3) := by decide +kernel
theorem dX8_nameHere_86 : decode cX8_nameHere 86 = .ok (.iload_n 1, 1) := by decide +kernel
theorem dX8_nameHere_87 : decode cX8_nameHere 87 = .ok (.iaload, 1) := by decide +kernel
theorem dX8_nameHere_88 : decode cX8_nameHere 88 = .ok (.iload_n 3, 1) := by decide +kernel
theorem dX8_nameHere_89 : decode cX8_nameHere 89 = .ok (.iadd, 1) := by decide +kernel
theorem dX8_nameHere_90 : decode cX8_nameHere 90 = .ok (.iaload, 1) := by decide +kernel
theorem dX8_nameHere_91 : decode cX8_nameHere 91 = .ok (.if_icmp .ne 7, 3) := by decide +kernel
theorem dX8_nameHere_94 : decode cX8_nameHere 94 = .ok (.iconst 1, 1) := by decide +kernel
theorem dX8_nameHere_95 : decode cX8_nameHere 95 = .ok (.goto 4, 3) := by decide +kernel
theorem dX8_nameHere_98 : decode cX8_nameHere 98 = .ok (.iconst 0, 1) := by decide +kernel
theorem dX8_nameHere_99 : decode cX8_nameHere 99 = .ok (.istore_n 2, 1) := by decide +kernel
theorem dX8_nameHere_100 : decode cX8_nameHere 100 = .ok (.iinc 3 1, 3) := by decide +kernel
theorem dX8_nameHere_103 : decode cX8_nameHere 103 = .ok (.goto (-52), 3) := by decide +kernel
theorem dX8_nameHere_106 : decode cX8_nameHere 106 = .ok (.iload_n 2, 1) := by decide +kernel
theorem dX8_nameHere_107 : decode cX8_nameHere 107 = .ok (.ifCond .eq 5, 3) := by decide +kernel
theorem dX8_nameHere_110 : decode cX8_nameHere 110 = .ok (.iload_n 1, 1) := by decide +kernel
theorem dX8_nameHere_111 : decode cX8_nameHere 111 = .ok (.ireturn, 1) := by decide +kernel
theorem dX8_nameHere_112 : decode cX8_nameHere 112 = .ok (.iinc 1 1, 3) := by decide +kernel
theorem dX8_nameHere_115 : decode cX8_nameHere 115 = .ok (.goto (-113), 3) := by decide +kernel
theorem dX8_nameHere_118 : decode cX8_nameHere 118 = .ok (.bipush (-4), 2) := by decide +kernel
theorem dX8_nameHere_120 : decode cX8_nameHere 120 = .ok (.ireturn, 1) := by decide +kernel
theorem dX8_step_0 : decode cX8_step 0 = .ok (.aload_n 0, 1) := by decide +kernel
theorem dX8_step_1 : decode cX8_step 1 = .ok (.getfield 73, 3) := by decide +kernel
theorem dX8_step_4 : decode cX8_step 4 = .ok (.ifCond .le 4, 3) := by decide +kernel
theorem dX8_step_7 : decode cX8_step 7 = .ok (.return_, 1) := by decide +kernel
theorem dX8_step_8 : decode cX8_step 8 = .ok (.aload_n 0, 1) := by decide +kernel
theorem dX8_step_9 : decode cX8_step 9 = .ok (.aload_n 0, 1) := by decide +kernel
theorem dX8_step_10 : decode cX8_step 10 = .ok (.getfield 85, 3) := by decide +kernel
theorem dX8_step_13 : decode cX8_step 13 = .ok (.invokevirtual 88, 3) := by decide +kernel
theorem dX8_step_16 : decode cX8_step 16 = .ok (.bipush 32, 2) := by decide +kernel
theorem dX8_step_18 : decode cX8_step 18 = .ok (.if_icmp .ne 16, 3) := by decide +kernel
theorem dX8_step_21 : decode cX8_step 21 = .ok (.aload_n 0, 1) := by decide +kernel
theorem dX8_step_22 : decode cX8_step 22 = .ok (.dup, 1) := by decide +kernel
theorem dX8_step_23 : decode cX8_step 23 = .ok (.getfield 85, 3) := by decide +kernel
theorem dX8_step_26 : decode cX8_step 26 = .ok (.iconst 1, 1) := by decide +kernel
theorem dX8_step_27 : decode cX8_step 27 = .ok (.iadd, 1) := by decide +kernel
theorem dX8_step_28 : decode cX8_step 28 = .ok (.putfield 85, 3) := by decide +kernel
theorem dX8_step_31 : decode cX8_step 31 = .ok (.goto (-23), 3) := by decide +kernel
theorem dX8_step_34 : decode cX8_step 34 = .ok (.aload_n 0, 1) := by decide +kernel
theorem dX8_step_35 : decode cX8_step 35 = .ok (.aload_n 0, 1) := by decide +kernel
theorem dX8_step_36 : decode cX8_step 36 = .ok (.getfield 85, 3) := by decide +kernel
theorem dX8_step_39 : decode cX8_step 39 = .ok (.putfield 76, 3) := by decide +kernel
theorem dX8_step_42 : decode cX8_step 42 = .ok (.aload_n 0, 1) := by decide +kernel
theorem dX8_step_43 : decode cX8_step 43 = .ok (.aload_n 0, 1) := by decide +kernel
theorem dX8_step_44 : decode cX8_step 44 = .ok (.getfield 85, 3) := by decide +kernel
theorem dX8_step_47 : decode cX8_step 47 = .ok (.invokevirtual 88, 3) := by decide +kernel
theorem dX8_step_50 : decode cX8_step 50 = .ok (.istore_n 1, 1) := by decide +kernel
theorem dX8_step_51 : decode cX8_step 51 = .ok (.aload_n 0, 1) := by decide +kernel
theorem dX8_step_52 : decode cX8_step 52 = .ok (.iconst 0, 1) := by decide +kernel
theorem dX8_step_53 : decode cX8_step 53 = .ok (.putfield 92, 3) := by decide +kernel
theorem dX8_step_56 : decode cX8_step 56 = .ok (.iload_n 1, 1) := by decide +kernel
theorem dX8_step_57 : decode cX8_step 57 = .ok (.bipush (-4), 2) := by decide +kernel
theorem dX8_step_59 : decode cX8_step 59 = .ok (.if_icmp .ne 11, 3) := by decide +kernel
theorem dX8_step_62 : decode cX8_step 62 = .ok (.aload_n 0, 1) := by decide +kernel
theorem dX8_step_63 : decode cX8_step 63 = .ok (.iconst 0, 1) := by decide +kernel
theorem dX8_step_64 : decode cX8_step 64 = .ok (.putfield 82, 3) := by decide +kernel
theorem dX8_step_67 : decode cX8_step 67 = .ok (.goto 202, 3) := by decide +kernel
theorem dX8_step_70 : decode cX8_step 70 = .ok (.iload_n 1, 1) := by decide +kernel
theorem dX8_step_71 : decode cX8_step 71 = .ok (.i2l, 1) := by decide +kernel
theorem dX8_step_72 : decode cX8_step 72 = .ok (.ldc2_w 95, 3) := by decide +kernel
theorem dX8_step_75 : decode cX8_step 75 = .ok (.ldc2_w 97, 3) := by decide +kernel
theorem dX8_step_78 : decode cX8_step 78 = .ok (.invokestatic 69, 3) := by decide +kernel
theorem dX8_step_81 : decode cX8_step 81 = .ok (.ifCond .eq 45, 3) := by decide +kernel
theorem dX8_step_84 : decode cX8_step 84 = .ok (.aload_n 0, 1) := by decide +kernel
theorem dX8_step_85 : decode cX8_step 85 = .ok (.aload_n 0, 1) := by decide +kernel
theorem dX8_step_86 : decode cX8_step 86 = .ok (.getfield 85, 3) := by decide +kernel
theorem dX8_step_89 : decode cX8_step 89 = .ok (.invokevirtual 88, 3) := by decide +kernel
theorem dX8_step_92 : decode cX8_step 92 = .ok (.i2l, 1) := by decide +kernel
theorem dX8_step_93 : decode cX8_step 93 = .ok (.ldc2_w 95, 3) := by decide +kernel
theorem dX8_step_96 : decode cX8_step 96 = .ok (.ldc2_w 97, 3) := by decide +kernel
theorem dX8_step_99 : decode cX8_step 99 = .ok (.invokestatic 69, 3) := by decide +kernel
theorem dX8_step_102 : decode cX8_step 102 = .ok (.ifCond .eq 16, 3) := by decide +kernel
theorem dX8_step_105 : decode cX8_step 105 = .ok (.aload_n 0, 1) := by decide +kernel
theorem dX8_step_106 : decode cX8_step 106 = .ok (.dup, 1) := by decide +kernel
theorem dX8_step_107 : decode cX8_step 107 = .ok (.getfield 85, 3) := by decide +kernel
theorem dX8_step_110 : decode cX8_step 110 = .ok (.iconst 1, 1) := by decide +kernel
theorem dX8_step_111 : decode cX8_step 111 = .ok (.iadd, 1) := by decide +kernel
theorem dX8_step_112 : decode cX8_step 112 = .ok (.putfield 85, 3) := by decide +kernel
theorem dX8_step_115 : decode cX8_step 115 = .ok (.goto (-31), 3) := by decide +kernel
theorem dX8_step_118 : decode cX8_step 118 = .ok (.aload_n 0, 1) := by decide +kernel
theorem dX8_step_119 : decode cX8_step 119 = .ok (.iconst 1, 1) := by decide +kernel
theorem dX8_step_120 : decode cX8_step 120 = .ok (.putfield 82, 3) := by decide +kernel
theorem dX8_step_123 : decode cX8_step 123 = .ok (.goto 146, 3) := by decide +kernel
theorem dX8_step_126 : decode cX8_step 126 = .ok (.iload_n 1, 1) := by decide +kernel
theorem dX8_step_127 : decode cX8_step 127 = .ok (.i2l, 1) := by decide +kernel
theorem dX8_step_128 : decode cX8_step 128 = .ok (.ldc2_w 99, 3) := by decide +kernel
theorem dX8_step_131 : decode cX8_step 131 = .ok (.ldc2_w 101, 3) := by decide +kernel
theorem dX8_step_134 : decode cX8_step 134 = .ok (.invokestatic 69, 3) := by decide +kernel
theorem dX8_step_137 : decode cX8_step 137 = .ok (.ifCond .eq 106, 3) := by decide +kernel
theorem dX8_step_140 : decode cX8_step 140 = .ok (.aload_n 0, 1) := by decide +kernel
theorem dX8_step_141 : decode cX8_step 141 = .ok (.aload_n 0, 1) := by decide +kernel
theorem dX8_step_142 : decode cX8_step 142 = .ok (.getfield 85, 3) := by decide +kernel
theorem dX8_step_145 : decode cX8_step 145 = .ok (.invokevirtual 88, 3) := by decide +kernel
theorem dX8_step_148 : decode cX8_step 148 = .ok (.i2l, 1) := by decide +kernel
theorem dX8_step_149 : decode cX8_step 149 = .ok (.ldc2_w 99, 3) := by decide +kernel
theorem dX8_step_152 : decode cX8_step 152 = .ok (.ldc2_w 101, 3) := by decide +kernel
theorem dX8_step_155 : decode cX8_step 155 = .ok (.invokestatic 69, 3) := by decide +kernel
theorem dX8_step_158 : decode cX8_step 158 = .ok (.ifCond .eq 59, 3) := by decide +kernel
theorem dX8_step_161 : decode cX8_step 161 = .ok (.aload_n 0, 1) := by decide +kernel
theorem dX8_step_162 : decode cX8_step 162 = .ok (.aload_n 0, 1) := by decide +kernel
theorem dX8_step_163 : decode cX8_step 163 = .ok (.getfield 85, 3) := by decide +kernel
theorem dX8_step_166 : decode cX8_step 166 = .ok (.aload_n 0, 1) := by decide +kernel
theorem dX8_step_167 : decode cX8_step 167 = .ok (.getfield 76, 3) := by decide +kernel
theorem dX8_step_170 : decode cX8_step 170 = .ok (.isub, 1) := by decide +kernel
theorem dX8_step_171 : decode cX8_step 171 = .ok (.iconst 2, 1) := by decide +kernel
theorem dX8_step_172 : decode cX8_step 172 = .ok (.if_icmp .ge 25, 3) := by decide +kernel
theorem dX8_step_175 : decode cX8_step 175 = .ok (.bipush 10, 2) := by decide +kernel
theorem dX8_step_177 : decode cX8_step 177 = .ok (.aload_n 0, 1) := by decide +kernel
theorem dX8_step_178 : decode cX8_step 178 = .ok (.getfield 92, 3) := by decide +kernel
theorem dX8_step_181 : decode cX8_step 181 = .ok (.imul, 1) := by decide +kernel
theorem dX8_step_182 : decode cX8_step 182 = .ok (.aload_n 0, 1) := by decide +kernel
theorem dX8_step_183 : decode cX8_step 183 = .ok (.aload_n 0, 1) := by decide +kernel
theorem dX8_step_184 : decode cX8_step 184 = .ok (.getfield 85, 3) := by decide +kernel
theorem dX8_step_187 : decode cX8_step 187 = .ok (.invokevirtual 88, 3) := by decide +kernel
theorem dX8_step_190 : decode cX8_step 190 = .ok (.iadd, 1) := by decide +kernel
theorem dX8_step_191 : decode cX8_step 191 = .ok (.bipush 48, 2) := by decide +kernel
theorem dX8_step_193 : decode cX8_step 193 = .ok (.isub, 1) := by decide +kernel
theorem dX8_step_194 : decode cX8_step 194 = .ok (.goto 7, 3) := by decide +kernel
theorem dX8_step_197 : decode cX8_step 197 = .ok (.aload_n 0, 1) := by decide +kernel
theorem dX8_step_198 : decode cX8_step 198 = .ok (.getfield 92, 3) := by decide +kernel
theorem dX8_step_201 : decode cX8_step 201 = .ok (.putfield 92, 3) := by decide +kernel
theorem dX8_step_204 : decode cX8_step 204 = .ok (.aload_n 0, 1) := by decide +kernel
theorem dX8_step_205 : decode cX8_step 205 = .ok (.dup, 1) := by decide +kernel
theorem dX8_step_206 : decode cX8_step 206 = .ok (.getfield 85, 3) := by decide +kernel
theorem dX8_step_209 : decode cX8_step 209 = .ok (.iconst 1, 1) := by decide +kernel
theorem dX8_step_210 : decode cX8_step 210 = .ok (.iadd, 1) := by decide +kernel
theorem dX8_step_211 : decode cX8_step 211 = .ok (.putfield 85, 3) := by decide +kernel
theorem dX8_step_214 : decode cX8_step 214 = .ok (.goto (-74), 3) := by decide +kernel
theorem dX8_step_217 : decode cX8_step 217 = .ok (.aload_n 0, 1) := by decide +kernel
theorem dX8_step_218 : decode cX8_step 218 = .ok (.iconst 2, 1) := by decide +kernel
theorem dX8_step_219 : decode cX8_step 219 = .ok (.putfield 82, 3) := by decide +kernel
theorem dX8_step_222 : decode cX8_step 222 = .ok (.aload_n 0, 1) := by decide +kernel
theorem dX8_step_223 : decode cX8_step 223 = .ok (.getfield 85, 3) := by decide +kernel
theorem dX8_step_226 : decode cX8_step 226 = .ok (.aload_n 0, 1) := by decide +kernel
theorem dX8_step_227 : decode cX8_step 227 = .ok (.getfield 76, 3) := by decide +kernel
theorem dX8_step_230 : decode cX8_step 230 = .ok (.isub, 1) := by decide +kernel
theorem dX8_step_231 : decode cX8_step 231 = .ok (.iconst 2, 1) := by decide +kernel
theorem dX8_step_232 : decode cX8_step 232 = .ok (.if_icmp .le 37, 3) := by decide +kernel
theorem dX8_step_235 : decode cX8_step 235 = .ok (.aload_n 0, 1) := by decide +kernel
theorem dX8_step_236 : decode cX8_step 236 = .ok (.iconst 1, 1) := by decide +kernel
theorem dX8_step_237 : decode cX8_step 237 = .ok (.invokevirtual 103, 3) := by decide +kernel
theorem dX8_step_240 : decode cX8_step 240 = .ok (.goto 29, 3) := by decide +kernel
theorem dX8_step_243 : decode cX8_step 243 = .ok (.aload_n 0, 1) := by decide +kernel
theorem dX8_step_244 : decode cX8_step 244 = .ok (.iconst 3, 1) := by decide +kernel
theorem dX8_step_245 : decode cX8_step 245 = .ok (.putfield 82, 3) := by decide +kernel
theorem dX8_step_248 : decode cX8_step 248 = .ok (.aload_n 0, 1) := by decide +kernel
theorem dX8_step_249 : decode cX8_step 249 = .ok (.dup, 1) := by decide +kernel
theorem dX8_step_250 : decode cX8_step 250 = .ok (.getfield 85, 3) := by decide +kernel
theorem dX8_step_253 : decode cX8_step 253 = .ok (.iconst 1, 1) := by decide +kernel
theorem dX8_step_254 : decode cX8_step 254 = .ok (.iadd, 1) := by decide +kernel
theorem dX8_step_255 : decode cX8_step 255 = .ok (.putfield 85, 3) := by decide +kernel
theorem dX8_step_258 : decode cX8_step 258 = .ok (.iload_n 1, 1) := by decide +kernel
theorem dX8_step_259 : decode cX8_step 259 = .ok (.bipush 59, 2) := by decide +kernel
theorem dX8_step_261 : decode cX8_step 261 = .ok (.if_icmp .eq 8, 3) := by decide +kernel
theorem dX8_step_264 : decode cX8_step 264 = .ok (.aload_n 0, 1) := by decide +kernel
theorem dX8_step_265 : decode cX8_step 265 = .ok (.iconst 1, 1) := by decide +kernel
theorem dX8_step_266 : decode cX8_step 266 = .ok (.invokevirtual 103, 3) := by decide +kernel
theorem dX8_step_269 : decode cX8_step 269 = .ok (.return_, 1) := by decide +kernel
end
section
theorem dX8_other_0 : decode cX8_other 0 = .ok (.aload_n 0, 1) := by decide +kernel
theorem dX8_other_1 : decode cX8_other 1 = .ok (.getfield 73, 3) := by decide +kernel
theorem dX8_other_4 : decode cX8_other 4 = .ok (.ifCond .ne 16, 3) := by decide +kernel
theorem dX8_other_7 : decode cX8_other 7 = .ok (.aload_n 0, 1) := by decide +kernel
theorem dX8_other_8 : decode cX8_other 8 = .ok (.getfield 82, 3) := by decide +kernel
theorem dX8_other_11 : decode cX8_other 11 = .ok (.iconst 2, 1) := by decide +kernel
theorem dX8_other_12 : decode cX8_other 12 = .ok (.if_icmp .eq 8, 3) := by decide +kernel
theorem dX8_other_15 : decode cX8_other 15 = .ok (.aload_n 0, 1) := by decide +kernel
theorem dX8_other_16 : decode cX8_other 16 = .ok (.iconst 2, 1) := by decide +kernel
theorem dX8_other_17 : decode cX8_other 17 = .ok (.invokevirtual 103, 3) := by decide +kernel
theorem dX8_other_20 : decode cX8_other 20 = .ok (.aload_n 0, 1) := by decide +kernel
theorem dX8_other_21 : decode cX8_other 21 = .ok (.getfield 73, 3) := by decide +kernel
theorem dX8_other_24 : decode cX8_other 24 = .ok (.ifCond .ne 23, 3) := by decide +kernel
theorem dX8_other_27 : decode cX8_other 27 = .ok (.aload_n 0, 1) := by decide +kernel
theorem dX8_other_28 : decode cX8_other 28 = .ok (.getfield 92, 3) := by decide +kernel
theorem dX8_other_31 : decode cX8_other 31 = .ok (.i2l, 1) := by decide +kernel
theorem dX8_other_32 : decode cX8_other 32 = .ok (.iload_n 1, 1) := by decide +kernel
theorem dX8_other_33 : decode cX8_other 33 = .ok (.i2l, 1) := by decide +kernel
theorem dX8_other_34 : decode cX8_other 34 = .ok (.iload_n 2, 1) := by decide +kernel
theorem dX8_other_35 : decode cX8_other 35 = .ok (.i2l, 1) := by decide +kernel
theorem dX8_other_36 : decode cX8_other 36 = .ok (.invokestatic 69, 3) := by decide +kernel
theorem dX8_other_39 : decode cX8_other 39 = .ok (.ifCond .ne 8, 3) := by decide +kernel
theorem dX8_other_42 : decode cX8_other 42 = .ok (.aload_n 0, 1) := by decide +kernel
theorem dX8_other_43 : decode cX8_other 43 = .ok (.iconst 3, 1) := by decide +kernel
theorem dX8_other_44 : decode cX8_other 44 = .ok (.invokevirtual 103, 3) := by decide +kernel
theorem dX8_other_47 : decode cX8_other 47 = .ok (.aload_n 0, 1) := by decide +kernel
theorem dX8_other_48 : decode cX8_other 48 = .ok (.getfield 73, 3) := by decide +kernel
theorem dX8_other_51 : decode cX8_other 51 = .ok (.ifCond .ne 29, 3) := by decide +kernel
theorem dX8_other_54 : decode cX8_other 54 = .ok (.aload_n 0, 1) := by decide +kernel
theorem dX8_other_55 : decode cX8_other 55 = .ok (.getfield 92, 3) := by decide +kernel
theorem dX8_other_58 : decode cX8_other 58 = .ok (.bipush 31, 2) := by decide +kernel
theorem dX8_other_60 : decode cX8_other 60 = .ok (.if_icmp .ge 20, 3) := by decide +kernel
theorem dX8_other_63 : decode cX8_other 63 = .ok (.iload_n 3, 1) := by decide +kernel
theorem dX8_other_64 : decode cX8_other 64 = .ok (.aload_n 0, 1) := by decide +kernel
theorem dX8_other_65 : decode cX8_other 65 = .ok (.getfield 92, 3) := by decide +kernel
theorem dX8_other_68 : decode cX8_other 68 = .ok (.ishr, 1) := by decide +kernel
theorem dX8_other_69 : decode cX8_other 69 = .ok (.iconst 1, 1) := by decide +kernel
theorem dX8_other_70 : decode cX8_other 70 = .ok (.iand, 1) := by decide +kernel
theorem dX8_other_71 : decode cX8_other 71 = .ok (.iconst 1, 1) := by decide +kernel
theorem dX8_other_72 : decode cX8_other 72 = .ok (.if_icmp .ne 8, 3) := by decide +kernel
theorem dX8_other_75 : decode cX8_other 75 = .ok (.aload_n 0, 1) := by decide +kernel
theorem dX8_other_76 : decode cX8_other 76 = .ok (.iconst 4, 1) := by decide +kernel
theorem dX8_other_77 : decode cX8_other 77 = .ok (.invokevirtual 103, 3) := by decide +kernel
theorem dX8_other_80 : decode cX8_other 80 = .ok (.aload_n 0, 1) := by decide +kernel
theorem dX8_other_81 : decode cX8_other 81 = .ok (.getfield 73, 3) := by decide +kernel
theorem dX8_other_84 : decode cX8_other 84 = .ok (.ifCond .ne 10, 3) := by decide +kernel
theorem dX8_other_87 : decode cX8_other 87 = .ok (.aload_n 0, 1) := by decide +kernel
theorem dX8_other_88 : decode cX8_other 88 = .ok (.getfield 92, 3) := by decide +kernel
theorem dX8_other_91 : decode cX8_other 91 = .ok (.goto 4, 3) := by decide +kernel
theorem dX8_other_94 : decode cX8_other 94 = .ok (.iload_n 1, 1) := by decide +kernel
theorem dX8_other_95 : decode cX8_other 95 = .ok (.istore 4, 2) := by decide +kernel
theorem dX8_other_97 : decode cX8_other 97 = .ok (.aload_n 0, 1) := by decide +kernel
theorem dX8_other_98 : decode cX8_other 98 = .ok (.invokevirtual 107, 3) := by decide +kernel
theorem dX8_other_101 : decode cX8_other 101 = .ok (.iload 4, 2) := by decide +kernel
theorem dX8_other_103 : decode cX8_other 103 = .ok (.ireturn, 1) := by decide +kernel
theorem dX8_oneOf_0 : decode cX8_oneOf 0 = .ok (.aload_n 0, 1) := by decide +kernel
theorem dX8_oneOf_1 : decode cX8_oneOf 1 = .ok (.iconst 0, 1) := by decide +kernel
theorem dX8_oneOf_2 : decode cX8_oneOf 2 = .ok (.iconst 5, 1) := by decide +kernel
theorem dX8_oneOf_3 : decode cX8_oneOf 3 = .ok (.iload_n 1, 1) := by decide +kernel
theorem dX8_oneOf_4 : decode cX8_oneOf 4 = .ok (.invokevirtual 110, 3) := by decide +kernel
theorem dX8_oneOf_7 : decode cX8_oneOf 7 = .ok (.istore_n 2, 1) := by decide +kernel
theorem dX8_oneOf_8 : decode cX8_oneOf 8 = .ok (.aload_n 0, 1) := by decide +kernel
theorem dX8_oneOf_9 : decode cX8_oneOf 9 = .ok (.iload_n 2, 1) := by decide +kernel
theorem dX8_oneOf_10 : decode cX8_oneOf 10 = .ok (.aload_n 0, 1) := by decide +kernel
theorem dX8_oneOf_11 : decode cX8_oneOf 11 = .ok (.getfield 114, 3) := by decide +kernel
theorem dX8_oneOf_14 : decode cX8_oneOf 14 = .ok (.if_icmp .le 7, 3) := by decide +kernel
theorem dX8_oneOf_17 : decode cX8_oneOf 17 = .ok (.iload_n 2, 1) := by decide +kernel
theorem dX8_oneOf_18 : decode cX8_oneOf 18 = .ok (.goto 7, 3) := by decide +kernel
theorem dX8_oneOf_21 : decode cX8_oneOf 21 = .ok (.aload_n 0, 1) := by decide +kernel
theorem dX8_oneOf_22 : decode cX8_oneOf 22 = .ok (.getfield 114, 3) := by decide +kernel
theorem dX8_oneOf_25 : decode cX8_oneOf 25 = .ok (.putfield 114, 3) := by decide +kernel
theorem dX8_oneOf_28 : decode cX8_oneOf 28 = .ok (.iload_n 2, 1) := by decide +kernel
theorem dX8_oneOf_29 : decode cX8_oneOf 29 = .ok (.ireturn, 1) := by decide +kernel
theorem dX8_readOne_0 : decode cX8_readOne 0 = .ok (.aload_n 0, 1) := by decide +kernel
theorem dX8_readOne_1 : decode cX8_readOne 1 = .ok (.invokevirtual 117, 3) := by decide +kernel
theorem dX8_readOne_4 : decode cX8_readOne 4 = .ok (.bipush 7, 2) := by decide +kernel
theorem dX8_readOne_6 : decode cX8_readOne 6 = .ok (.isub, 1) := by decide +kernel
theorem dX8_readOne_7 : decode cX8_readOne 7 = .ok (.istore_n 1, 1) := by decide +kernel
theorem dX8_readOne_8 : decode cX8_readOne 8 = .ok (.iload_n 1, 1) := by decide +kernel
theorem dX8_readOne_9 : decode cX8_readOne 9 = .ok (.ifCond .ge 9, 3) := by decide +kernel
theorem dX8_readOne_12 : decode cX8_readOne 12 = .ok (.aload_n 0, 1) := by decide +kernel
theorem dX8_readOne_13 : decode cX8_readOne 13 = .ok (.iconst 2, 1) := by decide +kernel
theorem dX8_readOne_14 : decode cX8_readOne 14 = .ok (.invokevirtual 103, 3) := by decide +kernel
theorem dX8_readOne_17 : decode cX8_readOne 17 = .ok (.return_, 1) := by decide +kernel
theorem dX8_readOne_18 : decode cX8_readOne 18 = .ok (.aload_n 0, 1) := by decide +kernel
theorem dX8_readOne_19 : decode cX8_readOne 19 = .ok (.invokevirtual 107, 3) := by decide +kernel
theorem dX8_readOne_22 : decode cX8_readOne 22 = .ok (.iconst 3, 1) := by decide +kernel
theorem dX8_readOne_23 : decode cX8_readOne 23 = .ok (.aload_n 0, 1) := by decide +kernel
theorem dX8_readOne_24 : decode cX8_readOne 24 = .ok (.getfield 121, 3) := by decide +kernel
theorem dX8_readOne_27 : decode cX8_readOne 27 = .ok (.imul, 1) := by decide +kernel
theorem dX8_readOne_28 : decode cX8_readOne 28 = .ok (.istore_n 2, 1) := by decide +kernel
theorem dX8_readOne_29 : decode cX8_readOne 29 = .ok (.aload_n 0, 1) := by decide +kernel
theorem dX8_readOne_30 : decode cX8_readOne 30 = .ok (.getfield 19, 3) := by decide +kernel
theorem dX8_readOne_33 : decode cX8_readOne 33 = .ok (.iload_n 2, 1) := by decide +kernel
theorem dX8_readOne_34 : decode cX8_readOne 34 = .ok (.iload_n 1, 1) := by decide +kernel
theorem dX8_readOne_35 : decode cX8_readOne 35 = .ok (.iastore, 1) := by decide +kernel
theorem dX8_readOne_36 : decode cX8_readOne 36 = .ok (.aload_n 0, 1) := by decide +kernel
theorem dX8_readOne_37 : decode cX8_readOne 37 = .ok (.getfield 19, 3) := by decide +kernel
theorem dX8_readOne_40 : decode cX8_readOne 40 = .ok (.iload_n 2, 1) := by decide +kernel
theorem dX8_readOne_41 : decode cX8_readOne 41 = .ok (.iconst 1, 1) := by decide +kernel
theorem dX8_readOne_42 : decode cX8_readOne 42 = .ok (.iadd, 1) := by decide +kernel
theorem dX8_readOne_43 : decode cX8_readOne 43 = .ok (.aload_n 0, 1) := by decide +kernel
theorem dX8_readOne_44 : decode cX8_readOne 44 = .ok (.iconst 0, 1) := by decide +kernel
theorem dX8_readOne_45 : decode cX8_readOne 45 = .ok (.bipush 9, 2) := by decide +kernel
theorem dX8_readOne_47 : decode cX8_readOne 47 = .ok (.iconst 0, 1) := by decide +kernel
theorem dX8_readOne_48 : decode cX8_readOne 48 = .ok (.invokevirtual 110, 3) := by decide +kernel
theorem dX8_readOne_51 : decode cX8_readOne 51 = .ok (.iastore, 1) := by decide +kernel
theorem dX8_readOne_52 : decode cX8_readOne 52 = .ok (.aload_n 0, 1) := by decide +kernel
theorem dX8_readOne_53 : decode cX8_readOne 53 = .ok (.getfield 19, 3) := by decide +kernel
theorem dX8_readOne_56 : decode cX8_readOne 56 = .ok (.iload_n 2, 1) := by decide +kernel
theorem dX8_readOne_57 : decode cX8_readOne 57 = .ok (.iconst 2, 1) := by decide +kernel
theorem dX8_readOne_58 : decode cX8_readOne 58 = .ok (.iadd, 1) := by decide +kernel
theorem dX8_readOne_59 : decode cX8_readOne 59 = .ok (.aload_n 0, 1) := by decide +kernel
theorem dX8_readOne_60 : decode cX8_readOne 60 = .ok (.iconst 0, 1) := by decide +kernel
theorem dX8_readOne_61 : decode cX8_readOne 61 = .ok (.bipush 50, 2) := by decide +kernel
theorem dX8_readOne_63 : decode cX8_readOne 63 = .ok (.iconst 0, 1) := by decide +kernel
theorem dX8_readOne_64 : decode cX8_readOne 64 = .ok (.invokevirtual 110, 3) := by decide +kernel
theorem dX8_readOne_67 : decode cX8_readOne 67 = .ok (.iastore, 1) := by decide +kernel
theorem dX8_readOne_68 : decode cX8_readOne 68 = .ok (.aload_n 0, 1) := by decide +kernel
theorem dX8_readOne_69 : decode cX8_readOne 69 = .ok (.dup, 1) := by decide +kernel
theorem dX8_readOne_70 : decode cX8_readOne 70 = .ok (.getfield 121, 3) := by decide +kernel
theorem dX8_readOne_73 : decode cX8_readOne 73 = .ok (.iconst 1, 1) := by decide +kernel
theorem dX8_readOne_74 : decode cX8_readOne 74 = .ok (.iadd, 1) := by decide +kernel
theorem dX8_readOne_75 : decode cX8_readOne 75 = .ok (.putfield 121, 3) := by decide +kernel
theorem dX8_readOne_78 : decode cX8_readOne 78 = .ok (.return_, 1) := by decide +kernel
theorem dX8_readCoin_0 : decode cX8_readCoin 0 = .ok (.iconst 4, 1) := by decide +kernel
theorem dX8_readCoin_1 : decode cX8_readCoin 1 = .ok (.aload_n 0, 1) := by decide +kernel
theorem dX8_readCoin_2 : decode cX8_readCoin 2 = .ok (.getfield 124, 3) := by decide +kernel
theorem dX8_readCoin_5 : decode cX8_readCoin 5 = .ok (.imul, 1) := by decide +kernel
theorem dX8_readCoin_6 : decode cX8_readCoin 6 = .ok (.istore_n 1, 1) := by decide +kernel
theorem dX8_readCoin_7 : decode cX8_readCoin 7 = .ok (.aload_n 0, 1) := by decide +kernel
theorem dX8_readCoin_8 : decode cX8_readCoin 8 = .ok (.getfield 16, 3) := by decide +kernel
theorem dX8_readCoin_11 : decode cX8_readCoin 11 = .ok (.iload_n 1, 1) := by decide +kernel
theorem dX8_readCoin_12 : decode cX8_readCoin 12 = .ok (.aload_n 0, 1) := by decide +kernel
theorem dX8_readCoin_13 : decode cX8_readCoin 13 = .ok (.iconst 1, 1) := by decide +kernel
theorem dX8_readCoin_14 : decode cX8_readCoin 14 = .ok (.iconst 3, 1) := by decide +kernel
theorem dX8_readCoin_15 : decode cX8_readCoin 15 = .ok (.iconst 0, 1) := by decide +kernel
theorem dX8_readCoin_16 : decode cX8_readCoin 16 = .ok (.invokevirtual 110, 3) := by decide +kernel
theorem dX8_readCoin_19 : decode cX8_readCoin 19 = .ok (.iastore, 1) := by decide +kernel
theorem dX8_readCoin_20 : decode cX8_readCoin 20 = .ok (.aload_n 0, 1) := by decide +kernel
theorem dX8_readCoin_21 : decode cX8_readCoin 21 = .ok (.getfield 16, 3) := by decide +kernel
theorem dX8_readCoin_24 : decode cX8_readCoin 24 = .ok (.iload_n 1, 1) := by decide +kernel
theorem dX8_readCoin_25 : decode cX8_readCoin 25 = .ok (.iconst 1, 1) := by decide +kernel
theorem dX8_readCoin_26 : decode cX8_readCoin 26 = .ok (.iadd, 1) := by decide +kernel
theorem dX8_readCoin_27 : decode cX8_readCoin 27 = .ok (.aload_n 0, 1) := by decide +kernel
theorem dX8_readCoin_28 : decode cX8_readCoin 28 = .ok (.iconst 0, 1) := by decide +kernel
theorem dX8_readCoin_29 : decode cX8_readCoin 29 = .ok (.invokevirtual 127, 3) := by decide +kernel
theorem dX8_readCoin_32 : decode cX8_readCoin 32 = .ok (.iastore, 1) := by decide +kernel
theorem dX8_readCoin_33 : decode cX8_readCoin 33 = .ok (.aload_n 0, 1) := by decide +kernel
theorem dX8_readCoin_34 : decode cX8_readCoin 34 = .ok (.getfield 73, 3) := by decide +kernel
theorem dX8_readCoin_37 : decode cX8_readCoin 37 = .ok (.ifCond .ne 38, 3) := by decide +kernel
theorem dX8_readCoin_40 : decode cX8_readCoin 40 = .ok (.aload_n 0, 1) := by decide +kernel
theorem dX8_readCoin_41 : decode cX8_readCoin 41 = .ok (.getfield 82, 3) := by decide +kernel
theorem dX8_readCoin_44 : decode cX8_readCoin 44 = .ok (.iconst 1, 1) := by decide +kernel
theorem dX8_readCoin_45 : decode cX8_readCoin 45 = .ok (.if_icmp .ne 30, 3) := by decide +kernel
theorem dX8_readCoin_48 : decode cX8_readCoin 48 = .ok (.aload_n 0, 1) := by decide +kernel
theorem dX8_readCoin_49 : decode cX8_readCoin 49 = .ok (.invokevirtual 117, 3) := by decide +kernel
theorem dX8_readCoin_52 : decode cX8_readCoin 52 = .ok (.bipush 6, 2) := by decide +kernel
theorem dX8_readCoin_54 : decode cX8_readCoin 54 = .ok (.if_icmp .eq 8, 3) := by decide +kernel
theorem dX8_readCoin_57 : decode cX8_readCoin 57 = .ok (.aload_n 0, 1) := by decide +kernel
theorem dX8_readCoin_58 : decode cX8_readCoin 58 = .ok (.iconst 2, 1) := by decide +kernel
theorem dX8_readCoin_59 : decode cX8_readCoin 59 = .ok (.invokevirtual 103, 3) := by decide +kernel
theorem dX8_readCoin_62 : decode cX8_readCoin 62 = .ok (.aload_n 0, 1) := by decide +kernel
theorem dX8_readCoin_63 : decode cX8_readCoin 63 = .ok (.getfield 16, 3) := by decide +kernel
theorem dX8_readCoin_66 : decode cX8_readCoin 66 = .ok (.iload_n 1, 1) := by decide +kernel
theorem dX8_readCoin_67 : decode cX8_readCoin 67 = .ok (.iconst 2, 1) := by decide +kernel
theorem dX8_readCoin_68 : decode cX8_readCoin 68 = .ok (.iadd, 1) := by decide +kernel
theorem dX8_readCoin_69 : decode cX8_readCoin 69 = .ok (.iconst 1, 1) := by decide +kernel
theorem dX8_readCoin_70 : decode cX8_readCoin 70 = .ok (.iastore, 1) := by decide +kernel
theorem dX8_readCoin_71 : decode cX8_readCoin 71 = .ok (.aload_n 0, 1) := by decide +kernel
theorem dX8_readCoin_72 : decode cX8_readCoin 72 = .ok (.invokevirtual 107, 3) := by decide +kernel
theorem dX8_readCoin_75 : decode cX8_readCoin 75 = .ok (.aload_n 0, 1) := by decide +kernel
theorem dX8_readCoin_76 : decode cX8_readCoin 76 = .ok (.dup, 1) := by decide +kernel
theorem dX8_readCoin_77 : decode cX8_readCoin 77 = .ok (.getfield 124, 3) := by decide +kernel
theorem dX8_readCoin_80 : decode cX8_readCoin 80 = .ok (.iconst 1, 1) := by decide +kernel
theorem dX8_readCoin_81 : decode cX8_readCoin 81 = .ok (.iadd, 1) := by decide +kernel
theorem dX8_readCoin_82 : decode cX8_readCoin 82 = .ok (.putfield 124, 3) := by decide +kernel
theorem dX8_readCoin_85 : decode cX8_readCoin 85 = .ok (.return_, 1) := by decide +kernel
theorem dX8_readTalk_0 : decode cX8_readTalk 0 = .ok (.bipush 24, 2) := by decide +kernel
theorem dX8_readTalk_2 : decode cX8_readTalk 2 = .ok (.iconst 3, 1) := by decide +kernel
theorem dX8_readTalk_3 : decode cX8_readTalk 3 = .ok (.aload_n 0, 1) := by decide +kernel
theorem dX8_readTalk_4 : decode cX8_readTalk 4 = .ok (.getfield 16, 3) := by decide +kernel
theorem dX8_readTalk_7 : decode cX8_readTalk 7 = .ok (.bipush 54, 2) := by decide +kernel
theorem dX8_readTalk_9 : decode cX8_readTalk 9 = .ok (.iaload, 1) := by decide +kernel
theorem dX8_readTalk_10 : decode cX8_readTalk 10 = .ok (.imul, 1) := by decide +kernel
theorem dX8_readTalk_11 : decode cX8_readTalk 11 = .ok (.iadd, 1) := by decide +kernel
theorem dX8_readTalk_12 : decode cX8_readTalk 12 = .ok (.istore_n 1, 1) := by decide +kernel
theorem dX8_readTalk_13 : decode cX8_readTalk 13 = .ok (.aload_n 0, 1) := by decide +kernel
theorem dX8_readTalk_14 : decode cX8_readTalk 14 = .ok (.getfield 16, 3) := by decide +kernel
theorem dX8_readTalk_17 : decode cX8_readTalk 17 = .ok (.iload_n 1, 1) := by decide +kernel
theorem dX8_readTalk_18 : decode cX8_readTalk 18 = .ok (.aload_n 0, 1) := by decide +kernel
theorem dX8_readTalk_19 : decode cX8_readTalk 19 = .ok (.iconst 0, 1) := by decide +kernel
theorem dX8_readTalk_20 : decode cX8_readTalk 20 = .ok (.bipush 11, 2) := by decide +kernel
theorem dX8_readTalk_22 : decode cX8_readTalk 22 = .ok (.iconst 0, 1) := by decide +kernel
theorem dX8_readTalk_23 : decode cX8_readTalk 23 = .ok (.invokevirtual 110, 3) := by decide +kernel
theorem dX8_readTalk_26 : decode cX8_readTalk 26 = .ok (.iastore, 1) := by decide +kernel
theorem dX8_readTalk_27 : decode cX8_readTalk 27 = .ok (.aload_n 0, 1) := by decide +kernel
theorem dX8_readTalk_28 : decode cX8_readTalk 28 = .ok (.getfield 16, 3) := by decide +kernel
theorem dX8_readTalk_31 : decode cX8_readTalk 31 = .ok (.iload_n 1, 1) := by decide +kernel
theorem dX8_readTalk_32 : decode cX8_readTalk 32 = .ok (.iconst 1, 1) := by decide +kernel
theorem dX8_readTalk_33 : decode cX8_readTalk 33 = .ok (.iadd, 1) := by decide +kernel
theorem dX8_readTalk_34 : decode cX8_readTalk 34 = .ok (.aload_n 0, 1) := by decide +kernel
theorem dX8_readTalk_35 : decode cX8_readTalk 35 = .ok (.iconst 0, 1) := by decide +kernel
theorem dX8_readTalk_36 : decode cX8_readTalk 36 = .ok (.invokevirtual 127, 3) := by decide +kernel
theorem dX8_readTalk_39 : decode cX8_readTalk 39 = .ok (.iastore, 1) := by decide +kernel
theorem dX8_readTalk_40 : decode cX8_readTalk 40 = .ok (.aload_n 0, 1) := by decide +kernel
theorem dX8_readTalk_41 : decode cX8_readTalk 41 = .ok (.getfield 16, 3) := by decide +kernel
theorem dX8_readTalk_44 : decode cX8_readTalk 44 = .ok (.iload_n 1, 1) := by decide +kernel
theorem dX8_readTalk_45 : decode cX8_readTalk 45 = .ok (.iconst 2, 1) := by decide +kernel
theorem dX8_readTalk_46 : decode cX8_readTalk 46 = .ok (.iadd, 1) := by decide +kernel
theorem dX8_readTalk_47 : decode cX8_readTalk 47 = .ok (.aload_n 0, 1) := by decide +kernel
theorem dX8_readTalk_48 : decode cX8_readTalk 48 = .ok (.iconst 1, 1) := by decide +kernel
theorem dX8_readTalk_49 : decode cX8_readTalk 49 = .ok (.aload_n 0, 1) := by decide +kernel
theorem dX8_readTalk_50 : decode cX8_readTalk 50 = .ok (.getfield 16, 3) := by decide +kernel
theorem dX8_readTalk_53 : decode cX8_readTalk 53 = .ok (.iload_n 1, 1) := by decide +kernel
theorem dX8_readTalk_54 : decode cX8_readTalk 54 = .ok (.iconst 1, 1) := by decide +kernel
theorem dX8_readTalk_55 : decode cX8_readTalk 55 = .ok (.iadd, 1) := by decide +kernel
theorem dX8_readTalk_56 : decode cX8_readTalk 56 = .ok (.iaload, 1) := by decide +kernel
theorem dX8_readTalk_57 : decode cX8_readTalk 57 = .ok (.ishl, 1) := by decide +kernel
theorem dX8_readTalk_58 : decode cX8_readTalk 58 = .ok (.invokevirtual 127, 3) := by decide +kernel
theorem dX8_readTalk_61 : decode cX8_readTalk 61 = .ok (.iastore, 1) := by decide +kernel
theorem dX8_readTalk_62 : decode cX8_readTalk 62 = .ok (.aload_n 0, 1) := by decide +kernel
theorem dX8_readTalk_63 : decode cX8_readTalk 63 = .ok (.getfield 16, 3) := by decide +kernel
theorem dX8_readTalk_66 : decode cX8_readTalk 66 = .ok (.bipush 54, 2) := by decide +kernel
theorem dX8_readTalk_68 : decode cX8_readTalk 68 = .ok (.dup2, 1) := by decide +kernel
theorem dX8_readTalk_69 : decode cX8_readTalk 69 = .ok (.iaload, 1) := by decide +kernel
theorem dX8_readTalk_70 : decode cX8_readTalk 70 = .ok (.iconst 1, 1) := by decide +kernel
theorem dX8_readTalk_71 : decode cX8_readTalk 71 = .ok (.iadd, 1) := by decide +kernel
theorem dX8_readTalk_72 : decode cX8_readTalk 72 = .ok (.iastore, 1) := by decide +kernel
theorem dX8_readTalk_73 : decode cX8_readTalk 73 = .ok (.return_, 1) := by decide +kernel
theorem dX8_hasRoom_0 : decode cX8_hasRoom 0 = .ok (.iload_n 1, 1) := by decide +kernel
theorem dX8_hasRoom_1 : decode cX8_hasRoom 1 = .ok (.iconst 2, 1) := by decide +kernel
theorem dX8_hasRoom_2 : decode cX8_hasRoom 2 = .ok (.if_icmp .ne 12, 3) := by decide +kernel
theorem dX8_hasRoom_5 : decode cX8_hasRoom 5 = .ok (.aload_n 0, 1) := by decide +kernel
theorem dX8_hasRoom_6 : decode cX8_hasRoom 6 = .ok (.getfield 121, 3) := by decide +kernel
theorem dX8_hasRoom_9 : decode cX8_hasRoom 9 = .ok (.bipush 6, 2) := by decide +kernel
theorem dX8_hasRoom_11 : decode cX8_hasRoom 11 = .ok (.if_icmp .eq 34, 3) := by decide +kernel
theorem dX8_hasRoom_14 : decode cX8_hasRoom 14 = .ok (.iload_n 1, 1) := by decide +kernel
theorem dX8_hasRoom_15 : decode cX8_hasRoom 15 = .ok (.iconst 3, 1) := by decide +kernel
theorem dX8_hasRoom_16 : decode cX8_hasRoom 16 = .ok (.if_icmp .ne 12, 3) := by decide +kernel
theorem dX8_hasRoom_19 : decode cX8_hasRoom 19 = .ok (.aload_n 0, 1) := by decide +kernel
theorem dX8_hasRoom_20 : decode cX8_hasRoom 20 = .ok (.getfield 124, 3) := by decide +kernel
theorem dX8_hasRoom_23 : decode cX8_hasRoom 23 = .ok (.bipush 6, 2) := by decide +kernel
theorem dX8_hasRoom_25 : decode cX8_hasRoom 25 = .ok (.if_icmp .eq 20, 3) := by decide +kernel
theorem dX8_hasRoom_28 : decode cX8_hasRoom 28 = .ok (.iload_n 1, 1) := by decide +kernel
theorem dX8_hasRoom_29 : decode cX8_hasRoom 29 = .ok (.iconst 5, 1) := by decide +kernel
theorem dX8_hasRoom_30 : decode cX8_hasRoom 30 = .ok (.if_icmp .ne 19, 3) := by decide +kernel
theorem dX8_hasRoom_33 : decode cX8_hasRoom 33 = .ok (.aload_n 0, 1) := by decide +kernel
theorem dX8_hasRoom_34 : decode cX8_hasRoom 34 = .ok (.getfield 16, 3) := by decide +kernel
theorem dX8_hasRoom_37 : decode cX8_hasRoom 37 = .ok (.bipush 54, 2) := by decide +kernel
theorem dX8_hasRoom_39 : decode cX8_hasRoom 39 = .ok (.iaload, 1) := by decide +kernel
theorem dX8_hasRoom_40 : decode cX8_hasRoom 40 = .ok (.bipush 10, 2) := by decide +kernel
theorem dX8_hasRoom_42 : decode cX8_hasRoom 42 = .ok (.if_icmp .ne 7, 3) := by decide +kernel
theorem dX8_hasRoom_45 : decode cX8_hasRoom 45 = .ok (.iconst 1, 1) := by decide +kernel
theorem dX8_hasRoom_46 : decode cX8_hasRoom 46 = .ok (.goto 4, 3) := by decide +kernel
theorem dX8_hasRoom_49 : decode cX8_hasRoom 49 = .ok (.iconst 0, 1) := by decide +kernel
theorem dX8_hasRoom_50 : decode cX8_hasRoom 50 = .ok (.istore_n 2, 1) := by decide +kernel
theorem dX8_hasRoom_51 : decode cX8_hasRoom 51 = .ok (.iload_n 2, 1) := by decide +kernel
theorem dX8_hasRoom_52 : decode cX8_hasRoom 52 = .ok (.ifCond .eq 8, 3) := by decide +kernel
theorem dX8_hasRoom_55 : decode cX8_hasRoom 55 = .ok (.aload_n 0, 1) := by decide +kernel
theorem dX8_hasRoom_56 : decode cX8_hasRoom 56 = .ok (.iconst 5, 1) := by decide +kernel
theorem dX8_hasRoom_57 : decode cX8_hasRoom 57 = .ok (.invokevirtual 103, 3) := by decide +kernel
theorem dX8_hasRoom_60 : decode cX8_hasRoom 60 = .ok (.iload_n 1, 1) := by decide +kernel
theorem dX8_hasRoom_61 : decode cX8_hasRoom 61 = .ok (.ifCond .eq 8, 3) := by decide +kernel
theorem dX8_hasRoom_64 : decode cX8_hasRoom 64 = .ok (.iload_n 1, 1) := by decide +kernel
theorem dX8_hasRoom_65 : decode cX8_hasRoom 65 = .ok (.iconst 1, 1) := by decide +kernel
theorem dX8_hasRoom_66 : decode cX8_hasRoom 66 = .ok (.if_icmp .ne 20, 3) := by decide +kernel
theorem dX8_hasRoom_69 : decode cX8_hasRoom 69 = .ok (.aload_n 0, 1) := by decide +kernel
theorem dX8_hasRoom_70 : decode cX8_hasRoom 70 = .ok (.getfield 130, 3) := by decide +kernel
theorem dX8_hasRoom_73 : decode cX8_hasRoom 73 = .ok (.iload_n 1, 1) := by decide +kernel
theorem dX8_hasRoom_74 : decode cX8_hasRoom 74 = .ok (.ishr, 1) := by decide +kernel
theorem dX8_hasRoom_75 : decode cX8_hasRoom 75 = .ok (.iconst 1, 1) := by decide +kernel
theorem dX8_hasRoom_76 : decode cX8_hasRoom 76 = .ok (.iand, 1) := by decide +kernel
theorem dX8_hasRoom_77 : decode cX8_hasRoom 77 = .ok (.iconst 1, 1) := by decide +kernel
theorem dX8_hasRoom_78 : decode cX8_hasRoom 78 = .ok (.if_icmp .ne 8, 3) := by decide +kernel
theorem dX8_hasRoom_81 : decode cX8_hasRoom 81 = .ok (.aload_n 0, 1) := by decide +kernel
theorem dX8_hasRoom_82 : decode cX8_hasRoom 82 = .ok (.iconst 4, 1) := by decide +kernel
theorem dX8_hasRoom_83 : decode cX8_hasRoom 83 = .ok (.invokevirtual 103, 3) := by decide +kernel
theorem dX8_hasRoom_86 : decode cX8_hasRoom 86 = .ok (.aload_n 0, 1) := by decide +kernel
theorem dX8_hasRoom_87 : decode cX8_hasRoom 87 = .ok (.dup, 1) := by decide +kernel
theorem dX8_hasRoom_88 : decode cX8_hasRoom 88 = .ok (.getfield 130, 3) := by decide +kernel
theorem dX8_hasRoom_91 : decode cX8_hasRoom 91 = .ok (.iconst 1, 1) := by decide +kernel
theorem dX8_hasRoom_92 : decode cX8_hasRoom 92 = .ok (.iload_n 1, 1) := by decide +kernel
theorem dX8_hasRoom_93 : decode cX8_hasRoom 93 = .ok (.ishl, 1) := by decide +kernel
theorem dX8_hasRoom_94 : decode cX8_hasRoom 94 = .ok (.ior, 1) := by decide +kernel
theorem dX8_hasRoom_95 : decode cX8_hasRoom 95 = .ok (.putfield 130, 3) := by decide +kernel
theorem dX8_hasRoom_98 : decode cX8_hasRoom 98 = .ok (.aload_n 0, 1) := by decide +kernel
theorem dX8_hasRoom_99 : decode cX8_hasRoom 99 = .ok (.invokevirtual 107, 3) := by decide +kernel
theorem dX8_hasRoom_102 : decode cX8_hasRoom 102 = .ok (.aload_n 0, 1) := by decide +kernel
theorem dX8_hasRoom_103 : decode cX8_hasRoom 103 = .ok (.getfield 73, 3) := by decide +kernel
theorem dX8_hasRoom_106 : decode cX8_hasRoom 106 = .ok (.ifCond .ne 7, 3) := by decide +kernel
theorem dX8_hasRoom_109 : decode cX8_hasRoom 109 = .ok (.iconst 1, 1) := by decide +kernel
theorem dX8_hasRoom_110 : decode cX8_hasRoom 110 = .ok (.goto 4, 3) := by decide +kernel
theorem dX8_hasRoom_113 : decode cX8_hasRoom 113 = .ok (.iconst 0, 1) := by decide +kernel
theorem dX8_hasRoom_114 : decode cX8_hasRoom 114 = .ok (.ireturn, 1) := by decide +kernel
theorem dX8_readMore_0 : decode cX8_readMore 0 = .ok (.iload_n 1, 1) := by decide +kernel
theorem dX8_readMore_1 : decode cX8_readMore 1 = .ok (.ifCond .ne 20, 3) := by decide +kernel
theorem dX8_readMore_4 : decode cX8_readMore 4 = .ok (.aload_n 0, 1) := by decide +kernel
theorem dX8_readMore_5 : decode cX8_readMore 5 = .ok (.getfield 16, 3) := by decide +kernel
theorem dX8_readMore_8 : decode cX8_readMore 8 = .ok (.bipush 55, 2) := by decide +kernel
theorem dX8_readMore_10 : decode cX8_readMore 10 = .ok (.aload_n 0, 1) := by decide +kernel
theorem dX8_readMore_11 : decode cX8_readMore 11 = .ok (.iconst 0, 1) := by decide +kernel
theorem dX8_readMore_12 : decode cX8_readMore 12 = .ok (.iconst 2, 1) := by decide +kernel
theorem dX8_readMore_13 : decode cX8_readMore 13 = .ok (.iconst 0, 1) := by decide +kernel
theorem dX8_readMore_14 : decode cX8_readMore 14 = .ok (.invokevirtual 110, 3) := by decide +kernel
theorem dX8_readMore_17 : decode cX8_readMore 17 = .ok (.iastore, 1) := by decide +kernel
theorem dX8_readMore_18 : decode cX8_readMore 18 = .ok (.goto 87, 3) := by decide +kernel
theorem dX8_readMore_21 : decode cX8_readMore 21 = .ok (.iload_n 1, 1) := by decide +kernel
theorem dX8_readMore_22 : decode cX8_readMore 22 = .ok (.iconst 1, 1) := by decide +kernel
theorem dX8_readMore_23 : decode cX8_readMore 23 = .ok (.if_icmp .ne 23, 3) := by decide +kernel
theorem dX8_readMore_26 : decode cX8_readMore 26 = .ok (.aload_n 0, 1) := by decide +kernel
theorem dX8_readMore_27 : decode cX8_readMore 27 = .ok (.getfield 16, 3) := by decide +kernel
theorem dX8_readMore_30 : decode cX8_readMore 30 = .ok (.bipush 56, 2) := by decide +kernel
theorem dX8_readMore_32 : decode cX8_readMore 32 = .ok (.aload_n 0, 1) := by decide +kernel
theorem dX8_readMore_33 : decode cX8_readMore 33 = .ok (.iconst 0, 1) := by decide +kernel
theorem dX8_readMore_34 : decode cX8_readMore 34 = .ok (.bipush 9, 2) := by decide +kernel
theorem dX8_readMore_36 : decode cX8_readMore 36 = .ok (.iconst 0, 1) := by decide +kernel
theorem dX8_readMore_37 : decode cX8_readMore 37 = .ok (.invokevirtual 110, 3) := by decide +kernel
theorem dX8_readMore_40 : decode cX8_readMore 40 = .ok (.iconst 1, 1) := by decide +kernel
theorem dX8_readMore_41 : decode cX8_readMore 41 = .ok (.isub, 1) := by decide +kernel
theorem dX8_readMore_42 : decode cX8_readMore 42 = .ok (.iastore, 1) := by decide +kernel
theorem dX8_readMore_43 : decode cX8_readMore 43 = .ok (.goto 62, 3) := by decide +kernel
theorem dX8_readMore_46 : decode cX8_readMore 46 = .ok (.aload_n 0, 1) := by decide +kernel
theorem dX8_readMore_47 : decode cX8_readMore 47 = .ok (.iconst 0, 1) := by decide +kernel
theorem dX8_readMore_48 : decode cX8_readMore 48 = .ok (.iconst 5, 1) := by decide +kernel
theorem dX8_readMore_49 : decode cX8_readMore 49 = .ok (.aload_n 0, 1) := by decide +kernel
theorem dX8_readMore_50 : decode cX8_readMore 50 = .ok (.getfield 133, 3) := by decide +kernel
theorem dX8_readMore_53 : decode cX8_readMore 53 = .ok (.invokevirtual 110, 3) := by decide +kernel
theorem dX8_readMore_56 : decode cX8_readMore 56 = .ok (.istore_n 2, 1) := by decide +kernel
theorem dX8_readMore_57 : decode cX8_readMore 57 = .ok (.aload_n 0, 1) := by decide +kernel
theorem dX8_readMore_58 : decode cX8_readMore 58 = .ok (.dup, 1) := by decide +kernel
theorem dX8_readMore_59 : decode cX8_readMore 59 = .ok (.getfield 133, 3) := by decide +kernel
theorem dX8_readMore_62 : decode cX8_readMore 62 = .ok (.iconst 1, 1) := by decide +kernel
theorem dX8_readMore_63 : decode cX8_readMore 63 = .ok (.iload_n 2, 1) := by decide +kernel
theorem dX8_readMore_64 : decode cX8_readMore 64 = .ok (.ishl, 1) := by decide +kernel
theorem dX8_readMore_65 : decode cX8_readMore 65 = .ok (.ior, 1) := by decide +kernel
theorem dX8_readMore_66 : decode cX8_readMore 66 = .ok (.putfield 133, 3) := by decide +kernel
theorem dX8_readMore_69 : decode cX8_readMore 69 = .ok (.aload_n 0, 1) := by decide +kernel
theorem dX8_readMore_70 : decode cX8_readMore 70 = .ok (.iload_n 2, 1) := by decide +kernel
theorem dX8_readMore_71 : decode cX8_readMore 71 = .ok (.aload_n 0, 1) := by decide +kernel
theorem dX8_readMore_72 : decode cX8_readMore 72 = .ok (.getfield 136, 3) := by decide +kernel
theorem dX8_readMore_75 : decode cX8_readMore 75 = .ok (.if_icmp .le 7, 3) := by decide +kernel
theorem dX8_readMore_78 : decode cX8_readMore 78 = .ok (.iload_n 2, 1) := by decide +kernel
theorem dX8_readMore_79 : decode cX8_readMore 79 = .ok (.goto 7, 3) := by decide +kernel
theorem dX8_readMore_82 : decode cX8_readMore 82 = .ok (.aload_n 0, 1) := by decide +kernel
theorem dX8_readMore_83 : decode cX8_readMore 83 = .ok (.getfield 136, 3) := by decide +kernel
theorem dX8_readMore_86 : decode cX8_readMore 86 = .ok (.putfield 136, 3) := by decide +kernel
theorem dX8_readMore_89 : decode cX8_readMore 89 = .ok (.aload_n 0, 1) := by decide +kernel
theorem dX8_readMore_90 : decode cX8_readMore 90 = .ok (.getfield 22, 3) := by decide +kernel
theorem dX8_readMore_93 : decode cX8_readMore 93 = .ok (.iload_n 2, 1) := by decide +kernel
theorem dX8_readMore_94 : decode cX8_readMore 94 = .ok (.iconst 1, 1) := by decide +kernel
theorem dX8_readMore_95 : decode cX8_readMore 95 = .ok (.aload_n 0, 1) := by decide +kernel
theorem dX8_readMore_96 : decode cX8_readMore 96 = .ok (.iconst 0, 1) := by decide +kernel
theorem dX8_readMore_97 : decode cX8_readMore 97 = .ok (.bipush 11, 2) := by decide +kernel
theorem dX8_readMore_99 : decode cX8_readMore 99 = .ok (.iconst 0, 1) := by decide +kernel
theorem dX8_readMore_100 : decode cX8_readMore 100 = .ok (.invokevirtual 110, 3) := by decide +kernel
theorem dX8_readMore_103 : decode cX8_readMore 103 = .ok (.iadd, 1) := by decide +kernel
theorem dX8_readMore_104 : decode cX8_readMore 104 = .ok (.iastore, 1) := by decide +kernel
theorem dX8_readMore_105 : decode cX8_readMore 105 = .ok (.return_, 1) := by decide +kernel
theorem dX8_readLine_0 : decode cX8_readLine 0 = .ok (.aload_n 0, 1) := by decide +kernel
theorem dX8_readLine_1 : decode cX8_readLine 1 = .ok (.invokevirtual 117, 3) := by decide +kernel
theorem dX8_readLine_4 : decode cX8_readLine 4 = .ok (.istore_n 1, 1) := by decide +kernel
theorem dX8_readLine_5 : decode cX8_readLine 5 = .ok (.iload_n 1, 1) := by decide +kernel
theorem dX8_readLine_6 : decode cX8_readLine 6 = .ok (.i2l, 1) := by decide +kernel
theorem dX8_readLine_7 : decode cX8_readLine 7 = .ok (.lconst 0, 1) := by decide +kernel
theorem dX8_readLine_8 : decode cX8_readLine 8 = .ok (.ldc2_w 139, 3) := by decide +kernel
theorem dX8_readLine_11 : decode cX8_readLine 11 = .ok (.invokestatic 69, 3) := by decide +kernel
theorem dX8_readLine_14 : decode cX8_readLine 14 = .ok (.ifCond .ne 9, 3) := by decide +kernel
theorem dX8_readLine_17 : decode cX8_readLine 17 = .ok (.aload_n 0, 1) := by decide +kernel
theorem dX8_readLine_18 : decode cX8_readLine 18 = .ok (.iconst 2, 1) := by decide +kernel
theorem dX8_readLine_19 : decode cX8_readLine 19 = .ok (.invokevirtual 103, 3) := by decide +kernel
theorem dX8_readLine_22 : decode cX8_readLine 22 = .ok (.return_, 1) := by decide +kernel
theorem dX8_readLine_23 : decode cX8_readLine 23 = .ok (.aload_n 0, 1) := by decide +kernel
theorem dX8_readLine_24 : decode cX8_readLine 24 = .ok (.iload_n 1, 1) := by decide +kernel
theorem dX8_readLine_25 : decode cX8_readLine 25 = .ok (.invokevirtual 141, 3) := by decide +kernel
theorem dX8_readLine_28 : decode cX8_readLine 28 = .ok (.ifCond .eq 44, 3) := by decide +kernel
theorem dX8_readLine_31 : decode cX8_readLine 31 = .ok (.iload_n 1, 1) := by decide +kernel
theorem dX8_readLine_32 : decode cX8_readLine 32 = .ok (.iconst 2, 1) := by decide +kernel
theorem dX8_readLine_33 : decode cX8_readLine 33 = .ok (.if_icmp .ne 10, 3) := by decide +kernel
theorem dX8_readLine_36 : decode cX8_readLine 36 = .ok (.aload_n 0, 1) := by decide +kernel
theorem dX8_readLine_37 : decode cX8_readLine 37 = .ok (.invokevirtual 145, 3) := by decide +kernel
theorem dX8_readLine_40 : decode cX8_readLine 40 = .ok (.goto 32, 3) := by decide +kernel
theorem dX8_readLine_43 : decode cX8_readLine 43 = .ok (.iload_n 1, 1) := by decide +kernel
theorem dX8_readLine_44 : decode cX8_readLine 44 = .ok (.iconst 3, 1) := by decide +kernel
theorem dX8_readLine_45 : decode cX8_readLine 45 = .ok (.if_icmp .ne 10, 3) := by decide +kernel
theorem dX8_readLine_48 : decode cX8_readLine 48 = .ok (.aload_n 0, 1) := by decide +kernel
theorem dX8_readLine_49 : decode cX8_readLine 49 = .ok (.invokevirtual 148, 3) := by decide +kernel
theorem dX8_readLine_52 : decode cX8_readLine 52 = .ok (.goto 20, 3) := by decide +kernel
theorem dX8_readLine_55 : decode cX8_readLine 55 = .ok (.iload_n 1, 1) := by decide +kernel
theorem dX8_readLine_56 : decode cX8_readLine 56 = .ok (.iconst 5, 1) := by decide +kernel
theorem dX8_readLine_57 : decode cX8_readLine 57 = .ok (.if_icmp .ne 10, 3) := by decide +kernel
theorem dX8_readLine_60 : decode cX8_readLine 60 = .ok (.aload_n 0, 1) := by decide +kernel
theorem dX8_readLine_61 : decode cX8_readLine 61 = .ok (.invokevirtual 151, 3) := by decide +kernel
theorem dX8_readLine_64 : decode cX8_readLine 64 = .ok (.goto 8, 3) := by decide +kernel
theorem dX8_readLine_67 : decode cX8_readLine 67 = .ok (.aload_n 0, 1) := by decide +kernel
theorem dX8_readLine_68 : decode cX8_readLine 68 = .ok (.iload_n 1, 1) := by decide +kernel
theorem dX8_readLine_69 : decode cX8_readLine 69 = .ok (.invokevirtual 154, 3) := by decide +kernel
theorem dX8_readLine_72 : decode cX8_readLine 72 = .ok (.aload_n 0, 1) := by decide +kernel
theorem dX8_readLine_73 : decode cX8_readLine 73 = .ok (.getfield 73, 3) := by decide +kernel
theorem dX8_readLine_76 : decode cX8_readLine 76 = .ok (.ifCond .ne 16, 3) := by decide +kernel
theorem dX8_readLine_79 : decode cX8_readLine 79 = .ok (.aload_n 0, 1) := by decide +kernel
theorem dX8_readLine_80 : decode cX8_readLine 80 = .ok (.getfield 82, 3) := by decide +kernel
theorem dX8_readLine_83 : decode cX8_readLine 83 = .ok (.iconst 3, 1) := by decide +kernel
theorem dX8_readLine_84 : decode cX8_readLine 84 = .ok (.if_icmp .eq 8, 3) := by decide +kernel
theorem dX8_readLine_87 : decode cX8_readLine 87 = .ok (.aload_n 0, 1) := by decide +kernel
theorem dX8_readLine_88 : decode cX8_readLine 88 = .ok (.iconst 2, 1) := by decide +kernel
theorem dX8_readLine_89 : decode cX8_readLine 89 = .ok (.invokevirtual 103, 3) := by decide +kernel
theorem dX8_readLine_92 : decode cX8_readLine 92 = .ok (.aload_n 0, 1) := by decide +kernel
theorem dX8_readLine_93 : decode cX8_readLine 93 = .ok (.invokevirtual 107, 3) := by decide +kernel
theorem dX8_readLine_96 : decode cX8_readLine 96 = .ok (.return_, 1) := by decide +kernel
theorem dX8_beginsText_0 : decode cX8_beginsText 0 = .ok (.aload_n 0, 1) := by decide +kernel
theorem dX8_beginsText_1 : decode cX8_beginsText 1 = .ok (.iconst 0, 1) := by decide +kernel
theorem dX8_beginsText_2 : decode cX8_beginsText 2 = .ok (.putfield 73, 3) := by decide +kernel
theorem dX8_beginsText_5 : decode cX8_beginsText 5 = .ok (.aload_n 0, 1) := by decide +kernel
theorem dX8_beginsText_6 : decode cX8_beginsText 6 = .ok (.iconst 0, 1) := by decide +kernel
theorem dX8_beginsText_7 : decode cX8_beginsText 7 = .ok (.putfield 85, 3) := by decide +kernel
theorem dX8_beginsText_10 : decode cX8_beginsText 10 = .ok (.aload_n 0, 1) := by decide +kernel
theorem dX8_beginsText_11 : decode cX8_beginsText 11 = .ok (.iconst 0, 1) := by decide +kernel
theorem dX8_beginsText_12 : decode cX8_beginsText 12 = .ok (.putfield 121, 3) := by decide +kernel
theorem dX8_beginsText_15 : decode cX8_beginsText 15 = .ok (.aload_n 0, 1) := by decide +kernel
theorem dX8_beginsText_16 : decode cX8_beginsText 16 = .ok (.iconst 0, 1) := by decide +kernel
theorem dX8_beginsText_17 : decode cX8_beginsText 17 = .ok (.putfield 124, 3) := by decide +kernel
theorem dX8_beginsText_20 : decode cX8_beginsText 20 = .ok (.aload_n 0, 1) := by decide +kernel
theorem dX8_beginsText_21 : decode cX8_beginsText 21 = .ok (.iconst 0, 1) := by decide +kernel
theorem dX8_beginsText_22 : decode cX8_beginsText 22 = .ok (.putfield 130, 3) := by decide +kernel
theorem dX8_beginsText_25 : decode cX8_beginsText 25 = .ok (.aload_n 0, 1) := by decide +kernel
theorem dX8_beginsText_26 : decode cX8_beginsText 26 = .ok (.iconst 0, 1) := by decide +kernel
theorem dX8_beginsText_27 : decode cX8_beginsText 27 = .ok (.putfield 133, 3) := by decide +kernel
theorem dX8_beginsText_30 : decode cX8_beginsText 30 = .ok (.aload_n 0, 1) := by decide +kernel
theorem dX8_beginsText_31 : decode cX8_beginsText 31 = .ok (.iconst (-1), 1) := by decide +kernel
theorem dX8_beginsText_32 : decode cX8_beginsText 32 = .ok (.putfield 114, 3) := by decide +kernel
theorem dX8_beginsText_35 : decode cX8_beginsText 35 = .ok (.aload_n 0, 1) := by decide +kernel
theorem dX8_beginsText_36 : decode cX8_beginsText 36 = .ok (.iconst (-1), 1) := by decide +kernel
theorem dX8_beginsText_37 : decode cX8_beginsText 37 = .ok (.putfield 136, 3) := by decide +kernel
theorem dX8_beginsText_40 : decode cX8_beginsText 40 = .ok (.iconst 0, 1) := by decide +kernel
theorem dX8_beginsText_41 : decode cX8_beginsText 41 = .ok (.istore_n 1, 1) := by decide +kernel
theorem dX8_beginsText_42 : decode cX8_beginsText 42 = .ok (.iload_n 1, 1) := by decide +kernel
theorem dX8_beginsText_43 : decode cX8_beginsText 43 = .ok (.bipush 57, 2) := by decide +kernel
theorem dX8_beginsText_45 : decode cX8_beginsText 45 = .ok (.if_icmp .ge 26, 3) := by decide +kernel
theorem dX8_beginsText_48 : decode cX8_beginsText 48 = .ok (.aload_n 0, 1) := by decide +kernel
theorem dX8_beginsText_49 : decode cX8_beginsText 49 = .ok (.getfield 16, 3) := by decide +kernel
theorem dX8_beginsText_52 : decode cX8_beginsText 52 = .ok (.iload_n 1, 1) := by decide +kernel
theorem dX8_beginsText_53 : decode cX8_beginsText 53 = .ok (.iconst 0, 1) := by decide +kernel
theorem dX8_beginsText_54 : decode cX8_beginsText 54 = .ok (.iastore, 1) := by decide +kernel
theorem dX8_beginsText_55 : decode cX8_beginsText 55 = .ok (.aload_n 0, 1) := by decide +kernel
theorem dX8_beginsText_56 : decode cX8_beginsText 56 = .ok (.getfield 22, 3) := by decide +kernel
theorem dX8_beginsText_59 : decode cX8_beginsText 59 = .ok (.iload_n 1, 1) := by decide +kernel
theorem dX8_beginsText_60 : decode cX8_beginsText 60 = .ok (.bipush 6, 2) := by decide +kernel
theorem dX8_beginsText_62 : decode cX8_beginsText 62 = .ok (.irem, 1) := by decide +kernel
theorem dX8_beginsText_63 : decode cX8_beginsText 63 = .ok (.iconst 0, 1) := by decide +kernel
theorem dX8_beginsText_64 : decode cX8_beginsText 64 = .ok (.iastore, 1) := by decide +kernel
theorem dX8_beginsText_65 : decode cX8_beginsText 65 = .ok (.iinc 1 1, 3) := by decide +kernel
theorem dX8_beginsText_68 : decode cX8_beginsText 68 = .ok (.goto (-26), 3) := by decide +kernel
theorem dX8_beginsText_71 : decode cX8_beginsText 71 = .ok (.return_, 1) := by decide +kernel
theorem dX8_text_0 : decode cX8_text 0 = .ok (.aload_n 0, 1) := by decide +kernel
theorem dX8_text_1 : decode cX8_text 1 = .ok (.invokevirtual 157, 3) := by decide +kernel
theorem dX8_text_4 : decode cX8_text 4 = .ok (.iconst 0, 1) := by decide +kernel
theorem dX8_text_5 : decode cX8_text 5 = .ok (.istore_n 1, 1) := by decide +kernel
theorem dX8_text_6 : decode cX8_text 6 = .ok (.aload_n 0, 1) := by decide +kernel
theorem dX8_text_7 : decode cX8_text 7 = .ok (.invokevirtual 107, 3) := by decide +kernel
theorem dX8_text_10 : decode cX8_text 10 = .ok (.aload_n 0, 1) := by decide +kernel
theorem dX8_text_11 : decode cX8_text 11 = .ok (.getfield 73, 3) := by decide +kernel
theorem dX8_text_14 : decode cX8_text 14 = .ok (.ifCond .ne 20, 3) := by decide +kernel
theorem dX8_text_17 : decode cX8_text 17 = .ok (.aload_n 0, 1) := by decide +kernel
theorem dX8_text_18 : decode cX8_text 18 = .ok (.getfield 82, 3) := by decide +kernel
theorem dX8_text_21 : decode cX8_text 21 = .ok (.ifCond .eq 13, 3) := by decide +kernel
theorem dX8_text_24 : decode cX8_text 24 = .ok (.aload_n 0, 1) := by decide +kernel
theorem dX8_text_25 : decode cX8_text 25 = .ok (.invokevirtual 160, 3) := by decide +kernel
theorem dX8_text_28 : decode cX8_text 28 = .ok (.iinc 1 1, 3) := by decide +kernel
theorem dX8_text_31 : decode cX8_text 31 = .ok (.goto (-21), 3) := by decide +kernel
theorem dX8_text_34 : decode cX8_text 34 = .ok (.aload_n 0, 1) := by decide +kernel
theorem dX8_text_35 : decode cX8_text 35 = .ok (.getfield 73, 3) := by decide +kernel
theorem dX8_text_38 : decode cX8_text 38 = .ok (.ifCond .ne 31, 3) := by decide +kernel
theorem dX8_text_41 : decode cX8_text 41 = .ok (.aload_n 0, 1) := by decide +kernel
theorem dX8_text_42 : decode cX8_text 42 = .ok (.getfield 114, 3) := by decide +kernel
theorem dX8_text_45 : decode cX8_text 45 = .ok (.aload_n 0, 1) := by decide +kernel
theorem dX8_text_46 : decode cX8_text 46 = .ok (.getfield 121, 3) := by decide +kernel
theorem dX8_text_49 : decode cX8_text 49 = .ok (.if_icmp .ge 14, 3) := by decide +kernel
theorem dX8_text_52 : decode cX8_text 52 = .ok (.aload_n 0, 1) := by decide +kernel
theorem dX8_text_53 : decode cX8_text 53 = .ok (.getfield 136, 3) := by decide +kernel
theorem dX8_text_56 : decode cX8_text 56 = .ok (.aload_n 0, 1) := by decide +kernel
theorem dX8_text_57 : decode cX8_text 57 = .ok (.getfield 124, 3) := by decide +kernel
theorem dX8_text_60 : decode cX8_text 60 = .ok (.if_icmp .lt 9, 3) := by decide +kernel
theorem dX8_text_63 : decode cX8_text 63 = .ok (.aload_n 0, 1) := by decide +kernel
theorem dX8_text_64 : decode cX8_text 64 = .ok (.bipush 6, 2) := by decide +kernel
theorem dX8_text_66 : decode cX8_text 66 = .ok (.invokevirtual 103, 3) := by decide +kernel
theorem dX8_text_69 : decode cX8_text 69 = .ok (.aload_n 0, 1) := by decide +kernel
theorem dX8_text_70 : decode cX8_text 70 = .ok (.iconst 0, 1) := by decide +kernel
theorem dX8_text_71 : decode cX8_text 71 = .ok (.putfield 65, 3) := by decide +kernel
theorem dX8_text_74 : decode cX8_text 74 = .ok (.aload_n 0, 1) := by decide +kernel
theorem dX8_text_75 : decode cX8_text 75 = .ok (.aload_n 0, 1) := by decide +kernel
theorem dX8_text_76 : decode cX8_text 76 = .ok (.getfield 73, 3) := by decide +kernel
theorem dX8_text_79 : decode cX8_text 79 = .ok (.putfield 163, 3) := by decide +kernel
theorem dX8_text_82 : decode cX8_text 82 = .ok (.aload_n 0, 1) := by decide +kernel
theorem dX8_text_83 : decode cX8_text 83 = .ok (.getfield 73, 3) := by decide +kernel
theorem dX8_text_86 : decode cX8_text 86 = .ok (.ifCond .le 11, 3) := by decide +kernel
theorem dX8_text_89 : decode cX8_text 89 = .ok (.bipush (-10), 2) := by decide +kernel
theorem dX8_text_91 : decode cX8_text 91 = .ok (.aload_n 0, 1) := by decide +kernel
theorem dX8_text_92 : decode cX8_text 92 = .ok (.getfield 79, 3) := by decide +kernel
theorem dX8_text_95 : decode cX8_text 95 = .ok (.isub, 1) := by decide +kernel
theorem dX8_text_96 : decode cX8_text 96 = .ok (.ireturn, 1) := by decide +kernel
theorem dX8_text_97 : decode cX8_text 97 = .ok (.iconst 0, 1) := by decide +kernel
theorem dX8_text_98 : decode cX8_text 98 = .ok (.istore_n 2, 1) := by decide +kernel
theorem dX8_text_99 : decode cX8_text 99 = .ok (.iload_n 2, 1) := by decide +kernel
theorem dX8_text_100 : decode cX8_text 100 = .ok (.bipush 57, 2) := by decide +kernel
theorem dX8_text_102 : decode cX8_text 102 = .ok (.if_icmp .ge 39, 3) := by decide +kernel
theorem dX8_text_105 : decode cX8_text 105 = .ok (.aload_n 0, 1) := by decide +kernel
theorem dX8_text_106 : decode cX8_text 106 = .ok (.getfield 7, 3) := by decide +kernel
theorem dX8_text_109 : decode cX8_text 109 = .ok (.iload_n 2, 1) := by decide +kernel
theorem dX8_text_110 : decode cX8_text 110 = .ok (.aload_n 0, 1) := by decide +kernel
theorem dX8_text_111 : decode cX8_text 111 = .ok (.getfield 16, 3) := by decide +kernel
theorem dX8_text_114 : decode cX8_text 114 = .ok (.iload_n 2, 1) := by decide +kernel
theorem dX8_text_115 : decode cX8_text 115 = .ok (.iaload, 1) := by decide +kernel
theorem dX8_text_116 : decode cX8_text 116 = .ok (.iastore, 1) := by decide +kernel
theorem dX8_text_117 : decode cX8_text 117 = .ok (.aload_n 0, 1) := by decide +kernel
theorem dX8_text_118 : decode cX8_text 118 = .ok (.getfield 13, 3) := by decide +kernel
theorem dX8_text_121 : decode cX8_text 121 = .ok (.iload_n 2, 1) := by decide +kernel
theorem dX8_text_122 : decode cX8_text 122 = .ok (.bipush 18, 2) := by decide +kernel
theorem dX8_text_124 : decode cX8_text 124 = .ok (.irem, 1) := by decide +kernel
theorem dX8_text_125 : decode cX8_text 125 = .ok (.aload_n 0, 1) := by decide +kernel
theorem dX8_text_126 : decode cX8_text 126 = .ok (.getfield 19, 3) := by decide +kernel
theorem dX8_text_129 : decode cX8_text 129 = .ok (.iload_n 2, 1) := by decide +kernel
theorem dX8_text_130 : decode cX8_text 130 = .ok (.bipush 18, 2) := by decide +kernel
theorem dX8_text_132 : decode cX8_text 132 = .ok (.irem, 1) := by decide +kernel
theorem dX8_text_133 : decode cX8_text 133 = .ok (.iaload, 1) := by decide +kernel
theorem dX8_text_134 : decode cX8_text 134 = .ok (.iastore, 1) := by decide +kernel
theorem dX8_text_135 : decode cX8_text 135 = .ok (.iinc 2 1, 3) := by decide +kernel
theorem dX8_text_138 : decode cX8_text 138 = .ok (.goto (-39), 3) := by decide +kernel
theorem dX8_text_141 : decode cX8_text 141 = .ok (.iconst 0, 1) := by decide +kernel
theorem dX8_text_142 : decode cX8_text 142 = .ok (.istore_n 2, 1) := by decide +kernel
theorem dX8_text_143 : decode cX8_text 143 = .ok (.iload_n 2, 1) := by decide +kernel
theorem dX8_text_144 : decode cX8_text 144 = .ok (.bipush 6, 2) := by decide +kernel
theorem dX8_text_146 : decode cX8_text 146 = .ok (.if_icmp .ge 25, 3) := by decide +kernel
theorem dX8_text_149 : decode cX8_text 149 = .ok (.aload_n 0, 1) := by decide +kernel
theorem dX8_text_150 : decode cX8_text 150 = .ok (.getfield 7, 3) := by decide +kernel
theorem dX8_text_153 : decode cX8_text 153 = .ok (.iconst 4, 1) := by decide +kernel
theorem dX8_text_154 : decode cX8_text 154 = .ok (.iload_n 2, 1) := by decide +kernel
theorem dX8_text_155 : decode cX8_text 155 = .ok (.imul, 1) := by decide +kernel
theorem dX8_text_156 : decode cX8_text 156 = .ok (.iconst 3, 1) := by decide +kernel
theorem dX8_text_157 : decode cX8_text 157 = .ok (.iadd, 1) := by decide +kernel
theorem dX8_text_158 : decode cX8_text 158 = .ok (.aload_n 0, 1) := by decide +kernel
theorem dX8_text_159 : decode cX8_text 159 = .ok (.getfield 22, 3) := by decide +kernel
theorem dX8_text_162 : decode cX8_text 162 = .ok (.iload_n 2, 1) := by decide +kernel
theorem dX8_text_163 : decode cX8_text 163 = .ok (.iaload, 1) := by decide +kernel
theorem dX8_text_164 : decode cX8_text 164 = .ok (.iastore, 1) := by decide +kernel
theorem dX8_text_165 : decode cX8_text 165 = .ok (.iinc 2 1, 3) := by decide +kernel
theorem dX8_text_168 : decode cX8_text 168 = .ok (.goto (-25), 3) := by decide +kernel
theorem dX8_text_171 : decode cX8_text 171 = .ok (.aload_n 0, 1) := by decide +kernel
theorem dX8_text_172 : decode cX8_text 172 = .ok (.aload_n 0, 1) := by decide +kernel
theorem dX8_text_173 : decode cX8_text 173 = .ok (.getfield 121, 3) := by decide +kernel
theorem dX8_text_176 : decode cX8_text 176 = .ok (.putfield 166, 3) := by decide +kernel
theorem dX8_text_179 : decode cX8_text 179 = .ok (.aload_n 0, 1) := by decide +kernel
theorem dX8_text_180 : decode cX8_text 180 = .ok (.aload_n 0, 1) := by decide +kernel
theorem dX8_text_181 : decode cX8_text 181 = .ok (.getfield 124, 3) := by decide +kernel
theorem dX8_text_184 : decode cX8_text 184 = .ok (.putfield 169, 3) := by decide +kernel
theorem dX8_text_187 : decode cX8_text 187 = .ok (.aload_n 0, 1) := by decide +kernel
theorem dX8_text_188 : decode cX8_text 188 = .ok (.iconst 0, 1) := by decide +kernel
theorem dX8_text_189 : decode cX8_text 189 = .ok (.putfield 172, 3) := by decide +kernel
theorem dX8_text_192 : decode cX8_text 192 = .ok (.aload_n 0, 1) := by decide +kernel
theorem dX8_text_193 : decode cX8_text 193 = .ok (.iconst 0, 1) := by decide +kernel
theorem dX8_text_194 : decode cX8_text 194 = .ok (.putfield 175, 3) := by decide +kernel
theorem dX8_text_197 : decode cX8_text 197 = .ok (.aload_n 0, 1) := by decide +kernel
theorem dX8_text_198 : decode cX8_text 198 = .ok (.getfield 52, 3) := by decide +kernel
theorem dX8_text_201 : decode cX8_text 201 = .ok (.iconst 0, 1) := by decide +kernel
theorem dX8_text_202 : decode cX8_text 202 = .ok (.iconst 0, 1) := by decide +kernel
theorem dX8_text_203 : decode cX8_text 203 = .ok (.bastore, 1) := by decide +kernel
theorem dX8_text_204 : decode cX8_text 204 = .ok (.aload_n 0, 1) := by decide +kernel
theorem dX8_text_205 : decode cX8_text 205 = .ok (.getfield 52, 3) := by decide +kernel
theorem dX8_text_208 : decode cX8_text 208 = .ok (.iconst 1, 1) := by decide +kernel
theorem dX8_text_209 : decode cX8_text 209 = .ok (.iconst 0, 1) := by decide +kernel
theorem dX8_text_210 : decode cX8_text 210 = .ok (.bastore, 1) := by decide +kernel
theorem dX8_text_211 : decode cX8_text 211 = .ok (.iload_n 1, 1) := by decide +kernel
theorem dX8_text_212 : decode cX8_text 212 = .ok (.ireturn, 1) := by decide +kernel
theorem dX8_fault_0 : decode cX8_fault 0 = .ok (.aload_n 0, 1) := by decide +kernel
theorem dX8_fault_1 : decode cX8_fault 1 = .ok (.getfield 163, 3) := by decide +kernel
theorem dX8_fault_4 : decode cX8_fault 4 = .ok (.ireturn, 1) := by decide +kernel
theorem dX8_isOne_0 : decode cX8_isOne 0 = .ok (.iload_n 1, 1) := by decide +kernel
theorem dX8_isOne_1 : decode cX8_isOne 1 = .ok (.i2l, 1) := by decide +kernel
theorem dX8_isOne_2 : decode cX8_isOne 2 = .ok (.lconst 0, 1) := by decide +kernel
theorem dX8_isOne_3 : decode cX8_isOne 3 = .ok (.aload_n 0, 1) := by decide +kernel
theorem dX8_isOne_4 : decode cX8_isOne 4 = .ok (.getfield 166, 3) := by decide +kernel
theorem dX8_isOne_7 : decode cX8_isOne 7 = .ok (.iconst 1, 1) := by decide +kernel
theorem dX8_isOne_8 : decode cX8_isOne 8 = .ok (.isub, 1) := by decide +kernel
theorem dX8_isOne_9 : decode cX8_isOne 9 = .ok (.i2l, 1) := by decide +kernel
theorem dX8_isOne_10 : decode cX8_isOne 10 = .ok (.invokestatic 69, 3) := by decide +kernel
theorem dX8_isOne_13 : decode cX8_isOne 13 = .ok (.ireturn, 1) := by decide +kernel
theorem dX8_isCoin_0 : decode cX8_isCoin 0 = .ok (.iload_n 1, 1) := by decide +kernel
theorem dX8_isCoin_1 : decode cX8_isCoin 1 = .ok (.i2l, 1) := by decide +kernel
theorem dX8_isCoin_2 : decode cX8_isCoin 2 = .ok (.lconst 0, 1) := by decide +kernel
theorem dX8_isCoin_3 : decode cX8_isCoin 3 = .ok (.aload_n 0, 1) := by decide +kernel
theorem dX8_isCoin_4 : decode cX8_isCoin 4 = .ok (.getfield 169, 3) := by decide +kernel
theorem dX8_isCoin_7 : decode cX8_isCoin 7 = .ok (.iconst 1, 1) := by decide +kernel
theorem dX8_isCoin_8 : decode cX8_isCoin 8 = .ok (.isub, 1) := by decide +kernel
theorem dX8_isCoin_9 : decode cX8_isCoin 9 = .ok (.i2l, 1) := by decide +kernel
theorem dX8_isCoin_10 : decode cX8_isCoin 10 = .ok (.invokestatic 69, 3) := by decide +kernel
theorem dX8_isCoin_13 : decode cX8_isCoin 13 = .ok (.ireturn, 1) := by decide +kernel
theorem dX8_isHour_0 : decode cX8_isHour 0 = .ok (.iload_n 0, 1) := by decide +kernel
theorem dX8_isHour_1 : decode cX8_isHour 1 = .ok (.i2l, 1) := by decide +kernel
theorem dX8_isHour_2 : decode cX8_isHour 2 = .ok (.lconst 0, 1) := by decide +kernel
theorem dX8_isHour_3 : decode cX8_isHour 3 = .ok (.ldc2_w 178, 3) := by decide +kernel
theorem dX8_isHour_6 : decode cX8_isHour 6 = .ok (.invokestatic 69, 3) := by decide +kernel
theorem dX8_isHour_9 : decode cX8_isHour 9 = .ok (.ireturn, 1) := by decide +kernel
theorem dX8_areTwo_0 : decode cX8_areTwo 0 = .ok (.aload_n 0, 1) := by decide +kernel
theorem dX8_areTwo_1 : decode cX8_areTwo 1 = .ok (.iload_n 1, 1) := by decide +kernel
theorem dX8_areTwo_2 : decode cX8_areTwo 2 = .ok (.invokevirtual 180, 3) := by decide +kernel
theorem dX8_areTwo_5 : decode cX8_areTwo 5 = .ok (.ifCond .eq 20, 3) := by decide +kernel
theorem dX8_areTwo_8 : decode cX8_areTwo 8 = .ok (.aload_n 0, 1) := by decide +kernel
theorem dX8_areTwo_9 : decode cX8_areTwo 9 = .ok (.iload_n 2, 1) := by decide +kernel
theorem dX8_areTwo_10 : decode cX8_areTwo 10 = .ok (.invokevirtual 180, 3) := by decide +kernel
theorem dX8_areTwo_13 : decode cX8_areTwo 13 = .ok (.ifCond .eq 12, 3) := by decide +kernel
theorem dX8_areTwo_16 : decode cX8_areTwo 16 = .ok (.iload_n 1, 1) := by decide +kernel
theorem dX8_areTwo_17 : decode cX8_areTwo 17 = .ok (.iload_n 2, 1) := by decide +kernel
theorem dX8_areTwo_18 : decode cX8_areTwo 18 = .ok (.if_icmp .eq 7, 3) := by decide +kernel
theorem dX8_areTwo_21 : decode cX8_areTwo 21 = .ok (.iconst 1, 1) := by decide +kernel
theorem dX8_areTwo_22 : decode cX8_areTwo 22 = .ok (.goto 4, 3) := by decide +kernel
theorem dX8_areTwo_25 : decode cX8_areTwo 25 = .ok (.iconst 0, 1) := by decide +kernel
theorem dX8_areTwo_26 : decode cX8_areTwo 26 = .ok (.ireturn, 1) := by decide +kernel
theorem dX8_feeNow_0 : decode cX8_feeNow 0 = .ok (.aload_n 0, 1) := by decide +kernel
theorem dX8_feeNow_1 : decode cX8_feeNow 1 = .ok (.getfield 7, 3) := by decide +kernel
theorem dX8_feeNow_4 : decode cX8_feeNow 4 = .ok (.bipush 56, 2) := by decide +kernel
theorem dX8_feeNow_6 : decode cX8_feeNow 6 = .ok (.iaload, 1) := by decide +kernel
theorem dX8_feeNow_7 : decode cX8_feeNow 7 = .ok (.iconst 1, 1) := by decide +kernel
theorem dX8_feeNow_8 : decode cX8_feeNow 8 = .ok (.iadd, 1) := by decide +kernel
theorem dX8_feeNow_9 : decode cX8_feeNow 9 = .ok (.ireturn, 1) := by decide +kernel
theorem dX8_rule_0 : decode cX8_rule 0 = .ok (.iload_n 1, 1) := by decide +kernel
theorem dX8_rule_1 : decode cX8_rule 1 = .ok (.tableswitch 66 0 4 #[35, 40, 45, 53, 61], 35) := by decide +kernel
theorem dX8_rule_36 : decode cX8_rule 36 = .ok (.aload_n 0, 1) := by decide +kernel
theorem dX8_rule_37 : decode cX8_rule 37 = .ok (.getfield 166, 3) := by decide +kernel
theorem dX8_rule_40 : decode cX8_rule 40 = .ok (.ireturn, 1) := by decide +kernel
theorem dX8_rule_41 : decode cX8_rule 41 = .ok (.aload_n 0, 1) := by decide +kernel
theorem dX8_rule_42 : decode cX8_rule 42 = .ok (.getfield 169, 3) := by decide +kernel
theorem dX8_rule_45 : decode cX8_rule 45 = .ok (.ireturn, 1) := by decide +kernel
theorem dX8_rule_46 : decode cX8_rule 46 = .ok (.aload_n 0, 1) := by decide +kernel
theorem dX8_rule_47 : decode cX8_rule 47 = .ok (.getfield 7, 3) := by decide +kernel
theorem dX8_rule_50 : decode cX8_rule 50 = .ok (.bipush 54, 2) := by decide +kernel
theorem dX8_rule_52 : decode cX8_rule 52 = .ok (.iaload, 1) := by decide +kernel
theorem dX8_rule_53 : decode cX8_rule 53 = .ok (.ireturn, 1) := by decide +kernel
theorem dX8_rule_54 : decode cX8_rule 54 = .ok (.aload_n 0, 1) := by decide +kernel
theorem dX8_rule_55 : decode cX8_rule 55 = .ok (.getfield 7, 3) := by decide +kernel
theorem dX8_rule_58 : decode cX8_rule 58 = .ok (.bipush 55, 2) := by decide +kernel
theorem dX8_rule_60 : decode cX8_rule 60 = .ok (.iaload, 1) := by decide +kernel
theorem dX8_rule_61 : decode cX8_rule 61 = .ok (.ireturn, 1) := by decide +kernel
theorem dX8_rule_62 : decode cX8_rule 62 = .ok (.aload_n 0, 1) := by decide +kernel
theorem dX8_rule_63 : decode cX8_rule 63 = .ok (.invokevirtual 183, 3) := by decide +kernel
theorem dX8_rule_66 : decode cX8_rule 66 = .ok (.ireturn, 1) := by decide +kernel
theorem dX8_rule_67 : decode cX8_rule 67 = .ok (.iconst (-1), 1) := by decide +kernel
theorem dX8_rule_68 : decode cX8_rule 68 = .ok (.ireturn, 1) := by decide +kernel
theorem dX8_one_0 : decode cX8_one 0 = .ok (.aload_n 0, 1) := by decide +kernel
theorem dX8_one_1 : decode cX8_one 1 = .ok (.iload_n 1, 1) := by decide +kernel
theorem dX8_one_2 : decode cX8_one 2 = .ok (.invokevirtual 180, 3) := by decide +kernel
theorem dX8_one_5 : decode cX8_one 5 = .ok (.ifCond .eq 28, 3) := by decide +kernel
theorem dX8_one_8 : decode cX8_one 8 = .ok (.iload_n 2, 1) := by decide +kernel
theorem dX8_one_9 : decode cX8_one 9 = .ok (.i2l, 1) := by decide +kernel
theorem dX8_one_10 : decode cX8_one 10 = .ok (.lconst 0, 1) := by decide +kernel
theorem dX8_one_11 : decode cX8_one 11 = .ok (.ldc2_w 186, 3) := by decide +kernel
theorem dX8_one_14 : decode cX8_one 14 = .ok (.invokestatic 69, 3) := by decide +kernel
theorem dX8_one_17 : decode cX8_one 17 = .ok (.ifCond .eq 16, 3) := by decide +kernel
theorem dX8_one_20 : decode cX8_one 20 = .ok (.aload_n 0, 1) := by decide +kernel
theorem dX8_one_21 : decode cX8_one 21 = .ok (.getfield 13, 3) := by decide +kernel
theorem dX8_one_24 : decode cX8_one 24 = .ok (.iconst 3, 1) := by decide +kernel
theorem dX8_one_25 : decode cX8_one 25 = .ok (.iload_n 1, 1) := by decide +kernel
theorem dX8_one_26 : decode cX8_one 26 = .ok (.imul, 1) := by decide +kernel
theorem dX8_one_27 : decode cX8_one 27 = .ok (.iload_n 2, 1) := by decide +kernel
theorem dX8_one_28 : decode cX8_one 28 = .ok (.iadd, 1) := by decide +kernel
theorem dX8_one_29 : decode cX8_one 29 = .ok (.iaload, 1) := by decide +kernel
theorem dX8_one_30 : decode cX8_one 30 = .ok (.goto 4, 3) := by decide +kernel
theorem dX8_one_33 : decode cX8_one 33 = .ok (.iconst (-1), 1) := by decide +kernel
theorem dX8_one_34 : decode cX8_one 34 = .ok (.ireturn, 1) := by decide +kernel
theorem dX8_kindOf_0 : decode cX8_kindOf 0 = .ok (.aload_n 0, 1) := by decide +kernel
theorem dX8_kindOf_1 : decode cX8_kindOf 1 = .ok (.getfield 13, 3) := by decide +kernel
theorem dX8_kindOf_4 : decode cX8_kindOf 4 = .ok (.iconst 3, 1) := by decide +kernel
theorem dX8_kindOf_5 : decode cX8_kindOf 5 = .ok (.iload_n 1, 1) := by decide +kernel
theorem dX8_kindOf_6 : decode cX8_kindOf 6 = .ok (.imul, 1) := by decide +kernel
theorem dX8_kindOf_7 : decode cX8_kindOf 7 = .ok (.iaload, 1) := by decide +kernel
theorem dX8_kindOf_8 : decode cX8_kindOf 8 = .ok (.ireturn, 1) := by decide +kernel
theorem dX8_lengthBy_0 : decode cX8_lengthBy 0 = .ok (.aload_n 0, 1) := by decide +kernel
theorem dX8_lengthBy_1 : decode cX8_lengthBy 1 = .ok (.getfield 7, 3) := by decide +kernel
theorem dX8_lengthBy_4 : decode cX8_lengthBy 4 = .ok (.iconst 4, 1) := by decide +kernel
theorem dX8_lengthBy_5 : decode cX8_lengthBy 5 = .ok (.iload_n 1, 1) := by decide +kernel
theorem dX8_lengthBy_6 : decode cX8_lengthBy 6 = .ok (.imul, 1) := by decide +kernel
theorem dX8_lengthBy_7 : decode cX8_lengthBy 7 = .ok (.iaload, 1) := by decide +kernel
theorem dX8_lengthBy_8 : decode cX8_lengthBy 8 = .ok (.aload_n 0, 1) := by decide +kernel
theorem dX8_lengthBy_9 : decode cX8_lengthBy 9 = .ok (.getfield 7, 3) := by decide +kernel
theorem dX8_lengthBy_12 : decode cX8_lengthBy 12 = .ok (.iconst 4, 1) := by decide +kernel
theorem dX8_lengthBy_13 : decode cX8_lengthBy 13 = .ok (.iload_n 1, 1) := by decide +kernel
theorem dX8_lengthBy_14 : decode cX8_lengthBy 14 = .ok (.imul, 1) := by decide +kernel
theorem dX8_lengthBy_15 : decode cX8_lengthBy 15 = .ok (.iconst 2, 1) := by decide +kernel
theorem dX8_lengthBy_16 : decode cX8_lengthBy 16 = .ok (.iadd, 1) := by decide +kernel
theorem dX8_lengthBy_17 : decode cX8_lengthBy 17 = .ok (.iaload, 1) := by decide +kernel
theorem dX8_lengthBy_18 : decode cX8_lengthBy 18 = .ok (.isub, 1) := by decide +kernel
theorem dX8_lengthBy_19 : decode cX8_lengthBy 19 = .ok (.istore_n 3, 1) := by decide +kernel
theorem dX8_lengthBy_20 : decode cX8_lengthBy 20 = .ok (.iload_n 3, 1) := by decide +kernel
theorem dX8_lengthBy_21 : decode cX8_lengthBy 21 = .ok (.iconst 1, 1) := by decide +kernel
theorem dX8_lengthBy_22 : decode cX8_lengthBy 22 = .ok (.if_icmp .ge 7, 3) := by decide +kernel
theorem dX8_lengthBy_25 : decode cX8_lengthBy 25 = .ok (.iconst 1, 1) := by decide +kernel
theorem dX8_lengthBy_26 : decode cX8_lengthBy 26 = .ok (.goto 4, 3) := by decide +kernel
theorem dX8_lengthBy_29 : decode cX8_lengthBy 29 = .ok (.iload_n 3, 1) := by decide +kernel
theorem dX8_lengthBy_30 : decode cX8_lengthBy 30 = .ok (.aload_n 0, 1) := by decide +kernel
theorem dX8_lengthBy_31 : decode cX8_lengthBy 31 = .ok (.iload_n 2, 1) := by decide +kernel
theorem dX8_lengthBy_32 : decode cX8_lengthBy 32 = .ok (.invokevirtual 188, 3) := by decide +kernel
theorem dX8_lengthBy_35 : decode cX8_lengthBy 35 = .ok (.iconst 3, 1) := by decide +kernel
theorem dX8_lengthBy_36 : decode cX8_lengthBy 36 = .ok (.if_icmp .ne 7, 3) := by decide +kernel
theorem dX8_lengthBy_39 : decode cX8_lengthBy 39 = .ok (.iconst 1, 1) := by decide +kernel
theorem dX8_lengthBy_40 : decode cX8_lengthBy 40 = .ok (.goto 4, 3) := by decide +kernel
theorem dX8_lengthBy_43 : decode cX8_lengthBy 43 = .ok (.iconst 0, 1) := by decide +kernel
theorem dX8_lengthBy_44 : decode cX8_lengthBy 44 = .ok (.iadd, 1) := by decide +kernel
theorem dX8_lengthBy_45 : decode cX8_lengthBy 45 = .ok (.ireturn, 1) := by decide +kernel
theorem dX8_ownerOf_0 : decode cX8_ownerOf 0 = .ok (.aload_n 0, 1) := by decide +kernel
theorem dX8_ownerOf_1 : decode cX8_ownerOf 1 = .ok (.getfield 7, 3) := by decide +kernel
theorem dX8_ownerOf_4 : decode cX8_ownerOf 4 = .ok (.iconst 4, 1) := by decide +kernel
theorem dX8_ownerOf_5 : decode cX8_ownerOf 5 = .ok (.iload_n 1, 1) := by decide +kernel
theorem dX8_ownerOf_6 : decode cX8_ownerOf 6 = .ok (.imul, 1) := by decide +kernel
theorem dX8_ownerOf_7 : decode cX8_ownerOf 7 = .ok (.iconst 1, 1) := by decide +kernel
theorem dX8_ownerOf_8 : decode cX8_ownerOf 8 = .ok (.iadd, 1) := by decide +kernel
theorem dX8_ownerOf_9 : decode cX8_ownerOf 9 = .ok (.iaload, 1) := by decide +kernel
theorem dX8_ownerOf_10 : decode cX8_ownerOf 10 = .ok (.ireturn, 1) := by decide +kernel
theorem dX8_isSpent_0 : decode cX8_isSpent 0 = .ok (.aload_n 0, 1) := by decide +kernel
theorem dX8_isSpent_1 : decode cX8_isSpent 1 = .ok (.getfield 7, 3) := by decide +kernel
theorem dX8_isSpent_4 : decode cX8_isSpent 4 = .ok (.iconst 4, 1) := by decide +kernel
theorem dX8_isSpent_5 : decode cX8_isSpent 5 = .ok (.iload_n 1, 1) := by decide +kernel
theorem dX8_isSpent_6 : decode cX8_isSpent 6 = .ok (.imul, 1) := by decide +kernel
theorem dX8_isSpent_7 : decode cX8_isSpent 7 = .ok (.iconst 3, 1) := by decide +kernel
theorem dX8_isSpent_8 : decode cX8_isSpent 8 = .ok (.iadd, 1) := by decide +kernel
theorem dX8_isSpent_9 : decode cX8_isSpent 9 = .ok (.iaload, 1) := by decide +kernel
theorem dX8_isSpent_10 : decode cX8_isSpent 10 = .ok (.ifCond .le 7, 3) := by decide +kernel
theorem dX8_isSpent_13 : decode cX8_isSpent 13 = .ok (.iconst 1, 1) := by decide +kernel
theorem dX8_isSpent_14 : decode cX8_isSpent 14 = .ok (.goto 4, 3) := by decide +kernel
theorem dX8_isSpent_17 : decode cX8_isSpent 17 = .ok (.iconst 0, 1) := by decide +kernel
theorem dX8_isSpent_18 : decode cX8_isSpent 18 = .ok (.ireturn, 1) := by decide +kernel
theorem dX8_coin_0 : decode cX8_coin 0 = .ok (.aload_n 0, 1) := by decide +kernel
theorem dX8_coin_1 : decode cX8_coin 1 = .ok (.iload_n 1, 1) := by decide +kernel
theorem dX8_coin_2 : decode cX8_coin 2 = .ok (.invokevirtual 191, 3) := by decide +kernel
theorem dX8_coin_5 : decode cX8_coin 5 = .ok (.ifCond .eq 15, 3) := by decide +kernel
theorem dX8_coin_8 : decode cX8_coin 8 = .ok (.iload_n 2, 1) := by decide +kernel
theorem dX8_coin_9 : decode cX8_coin 9 = .ok (.i2l, 1) := by decide +kernel
theorem dX8_coin_10 : decode cX8_coin 10 = .ok (.lconst 0, 1) := by decide +kernel
theorem dX8_coin_11 : decode cX8_coin 11 = .ok (.ldc2_w 194, 3) := by decide +kernel
theorem dX8_coin_14 : decode cX8_coin 14 = .ok (.invokestatic 69, 3) := by decide +kernel
theorem dX8_coin_17 : decode cX8_coin 17 = .ok (.ifCond .ne 5, 3) := by decide +kernel
theorem dX8_coin_20 : decode cX8_coin 20 = .ok (.iconst (-1), 1) := by decide +kernel
theorem dX8_coin_21 : decode cX8_coin 21 = .ok (.ireturn, 1) := by decide +kernel
theorem dX8_coin_22 : decode cX8_coin 22 = .ok (.iload_n 2, 1) := by decide +kernel
theorem dX8_coin_23 : decode cX8_coin 23 = .ok (.iconst 4, 1) := by decide +kernel
theorem dX8_coin_24 : decode cX8_coin 24 = .ok (.if_icmp .ne 16, 3) := by decide +kernel
theorem dX8_coin_27 : decode cX8_coin 27 = .ok (.aload_n 0, 1) := by decide +kernel
theorem dX8_coin_28 : decode cX8_coin 28 = .ok (.iload_n 1, 1) := by decide +kernel
theorem dX8_coin_29 : decode cX8_coin 29 = .ok (.aload_n 0, 1) := by decide +kernel
theorem dX8_coin_30 : decode cX8_coin 30 = .ok (.iload_n 1, 1) := by decide +kernel
theorem dX8_coin_31 : decode cX8_coin 31 = .ok (.invokevirtual 196, 3) := by decide +kernel
theorem dX8_coin_34 : decode cX8_coin 34 = .ok (.invokevirtual 199, 3) := by decide +kernel
theorem dX8_coin_37 : decode cX8_coin 37 = .ok (.goto 46, 3) := by decide +kernel
theorem dX8_coin_40 : decode cX8_coin 40 = .ok (.iload_n 2, 1) := by decide +kernel
theorem dX8_coin_41 : decode cX8_coin 41 = .ok (.iconst 3, 1) := by decide +kernel
theorem dX8_coin_42 : decode cX8_coin 42 = .ok (.if_icmp .ne 31, 3) := by decide +kernel
theorem dX8_coin_45 : decode cX8_coin 45 = .ok (.aload_n 0, 1) := by decide +kernel
theorem dX8_coin_46 : decode cX8_coin 46 = .ok (.iload_n 1, 1) := by decide +kernel
theorem dX8_coin_47 : decode cX8_coin 47 = .ok (.invokevirtual 203, 3) := by decide +kernel
theorem dX8_coin_50 : decode cX8_coin 50 = .ok (.ifCond .eq 18, 3) := by decide +kernel
theorem dX8_coin_53 : decode cX8_coin 53 = .ok (.aload_n 0, 1) := by decide +kernel
theorem dX8_coin_54 : decode cX8_coin 54 = .ok (.getfield 7, 3) := by decide +kernel
theorem dX8_coin_57 : decode cX8_coin 57 = .ok (.iconst 4, 1) := by decide +kernel
theorem dX8_coin_58 : decode cX8_coin 58 = .ok (.iload_n 1, 1) := by decide +kernel
theorem dX8_coin_59 : decode cX8_coin 59 = .ok (.imul, 1) := by decide +kernel
theorem dX8_coin_60 : decode cX8_coin 60 = .ok (.iconst 3, 1) := by decide +kernel
theorem dX8_coin_61 : decode cX8_coin 61 = .ok (.iadd, 1) := by decide +kernel
theorem dX8_coin_62 : decode cX8_coin 62 = .ok (.iaload, 1) := by decide +kernel
theorem dX8_coin_63 : decode cX8_coin 63 = .ok (.iconst 1, 1) := by decide +kernel
theorem dX8_coin_64 : decode cX8_coin 64 = .ok (.isub, 1) := by decide +kernel
theorem dX8_coin_65 : decode cX8_coin 65 = .ok (.goto 18, 3) := by decide +kernel
theorem dX8_coin_68 : decode cX8_coin 68 = .ok (.bipush (-4), 2) := by decide +kernel
theorem dX8_coin_70 : decode cX8_coin 70 = .ok (.goto 13, 3) := by decide +kernel
theorem dX8_coin_73 : decode cX8_coin 73 = .ok (.aload_n 0, 1) := by decide +kernel
theorem dX8_coin_74 : decode cX8_coin 74 = .ok (.getfield 7, 3) := by decide +kernel
theorem dX8_coin_77 : decode cX8_coin 77 = .ok (.iconst 4, 1) := by decide +kernel
theorem dX8_coin_78 : decode cX8_coin 78 = .ok (.iload_n 1, 1) := by decide +kernel
theorem dX8_coin_79 : decode cX8_coin 79 = .ok (.imul, 1) := by decide +kernel
theorem dX8_coin_80 : decode cX8_coin 80 = .ok (.iload_n 2, 1) := by decide +kernel
theorem dX8_coin_81 : decode cX8_coin 81 = .ok (.iadd, 1) := by decide +kernel
theorem dX8_coin_82 : decode cX8_coin 82 = .ok (.iaload, 1) := by decide +kernel
theorem dX8_coin_83 : decode cX8_coin 83 = .ok (.ireturn, 1) := by decide +kernel
theorem dX8_quietOf_0 : decode cX8_quietOf 0 = .ok (.iconst 0, 1) := by decide +kernel
theorem dX8_quietOf_1 : decode cX8_quietOf 1 = .ok (.istore_n 2, 1) := by decide +kernel
theorem dX8_quietOf_2 : decode cX8_quietOf 2 = .ok (.iconst 0, 1) := by decide +kernel
theorem dX8_quietOf_3 : decode cX8_quietOf 3 = .ok (.istore_n 3, 1) := by decide +kernel
theorem dX8_quietOf_4 : decode cX8_quietOf 4 = .ok (.iload_n 3, 1) := by decide +kernel
theorem dX8_quietOf_5 : decode cX8_quietOf 5 = .ok (.aload_n 0, 1) := by decide +kernel
theorem dX8_quietOf_6 : decode cX8_quietOf 6 = .ok (.getfield 169, 3) := by decide +kernel
theorem dX8_quietOf_9 : decode cX8_quietOf 9 = .ok (.if_icmp .ge 52, 3) := by decide +kernel
theorem dX8_quietOf_12 : decode cX8_quietOf 12 = .ok (.aload_n 0, 1) := by decide +kernel
theorem dX8_quietOf_13 : decode cX8_quietOf 13 = .ok (.iload_n 3, 1) := by decide +kernel
theorem dX8_quietOf_14 : decode cX8_quietOf 14 = .ok (.invokevirtual 203, 3) := by decide +kernel
theorem dX8_quietOf_17 : decode cX8_quietOf 17 = .ok (.ifCond .eq 38, 3) := by decide +kernel
theorem dX8_quietOf_20 : decode cX8_quietOf 20 = .ok (.aload_n 0, 1) := by decide +kernel
theorem dX8_quietOf_21 : decode cX8_quietOf 21 = .ok (.iload_n 3, 1) := by decide +kernel
theorem dX8_quietOf_22 : decode cX8_quietOf 22 = .ok (.invokevirtual 196, 3) := by decide +kernel
theorem dX8_quietOf_25 : decode cX8_quietOf 25 = .ok (.iload_n 1, 1) := by decide +kernel
theorem dX8_quietOf_26 : decode cX8_quietOf 26 = .ok (.if_icmp .ne 29, 3) := by decide +kernel
theorem dX8_quietOf_29 : decode cX8_quietOf 29 = .ok (.iload_n 2, 1) := by decide +kernel
theorem dX8_quietOf_30 : decode cX8_quietOf 30 = .ok (.iconst 1, 1) := by decide +kernel
theorem dX8_quietOf_31 : decode cX8_quietOf 31 = .ok (.aload_n 0, 1) := by decide +kernel
theorem dX8_quietOf_32 : decode cX8_quietOf 32 = .ok (.iload_n 3, 1) := by decide +kernel
theorem dX8_quietOf_33 : decode cX8_quietOf 33 = .ok (.iload_n 1, 1) := by decide +kernel
theorem dX8_quietOf_34 : decode cX8_quietOf 34 = .ok (.invokevirtual 199, 3) := by decide +kernel
theorem dX8_quietOf_37 : decode cX8_quietOf 37 = .ok (.ishl, 1) := by decide +kernel
theorem dX8_quietOf_38 : decode cX8_quietOf 38 = .ok (.iconst 1, 1) := by decide +kernel
theorem dX8_quietOf_39 : decode cX8_quietOf 39 = .ok (.isub, 1) := by decide +kernel
theorem dX8_quietOf_40 : decode cX8_quietOf 40 = .ok (.aload_n 0, 1) := by decide +kernel
theorem dX8_quietOf_41 : decode cX8_quietOf 41 = .ok (.getfield 7, 3) := by decide +kernel
theorem dX8_quietOf_44 : decode cX8_quietOf 44 = .ok (.iconst 4, 1) := by decide +kernel
theorem dX8_quietOf_45 : decode cX8_quietOf 45 = .ok (.iload_n 3, 1) := by decide +kernel
theorem dX8_quietOf_46 : decode cX8_quietOf 46 = .ok (.imul, 1) := by decide +kernel
theorem dX8_quietOf_47 : decode cX8_quietOf 47 = .ok (.iconst 3, 1) := by decide +kernel
theorem dX8_quietOf_48 : decode cX8_quietOf 48 = .ok (.iadd, 1) := by decide +kernel
theorem dX8_quietOf_49 : decode cX8_quietOf 49 = .ok (.iaload, 1) := by decide +kernel
theorem dX8_quietOf_50 : decode cX8_quietOf 50 = .ok (.iconst 1, 1) := by decide +kernel
theorem dX8_quietOf_51 : decode cX8_quietOf 51 = .ok (.isub, 1) := by decide +kernel
theorem dX8_quietOf_52 : decode cX8_quietOf 52 = .ok (.ishl, 1) := by decide +kernel
theorem dX8_quietOf_53 : decode cX8_quietOf 53 = .ok (.ior, 1) := by decide +kernel
theorem dX8_quietOf_54 : decode cX8_quietOf 54 = .ok (.istore_n 2, 1) := by decide +kernel
theorem dX8_quietOf_55 : decode cX8_quietOf 55 = .ok (.iinc 3 1, 3) := by decide +kernel
theorem dX8_quietOf_58 : decode cX8_quietOf 58 = .ok (.goto (-54), 3) := by decide +kernel
theorem dX8_quietOf_61 : decode cX8_quietOf 61 = .ok (.iload_n 2, 1) := by decide +kernel
theorem dX8_quietOf_62 : decode cX8_quietOf 62 = .ok (.sipush 4095, 3) := by decide +kernel
theorem dX8_quietOf_65 : decode cX8_quietOf 65 = .ok (.iand, 1) := by decide +kernel
theorem dX8_quietOf_66 : decode cX8_quietOf 66 = .ok (.ireturn, 1) := by decide +kernel
theorem dX8_isSilent_0 : decode cX8_isSilent 0 = .ok (.aload_n 0, 1) := by decide +kernel
theorem dX8_isSilent_1 : decode cX8_isSilent 1 = .ok (.iload_n 1, 1) := by decide +kernel
theorem dX8_isSilent_2 : decode cX8_isSilent 2 = .ok (.invokevirtual 206, 3) := by decide +kernel
theorem dX8_isSilent_5 : decode cX8_isSilent 5 = .ok (.iload_n 2, 1) := by decide +kernel
theorem dX8_isSilent_6 : decode cX8_isSilent 6 = .ok (.ishr, 1) := by decide +kernel
theorem dX8_isSilent_7 : decode cX8_isSilent 7 = .ok (.iconst 1, 1) := by decide +kernel
theorem dX8_isSilent_8 : decode cX8_isSilent 8 = .ok (.iand, 1) := by decide +kernel
theorem dX8_isSilent_9 : decode cX8_isSilent 9 = .ok (.iconst 1, 1) := by decide +kernel
theorem dX8_isSilent_10 : decode cX8_isSilent 10 = .ok (.if_icmp .ne 7, 3) := by decide +kernel
theorem dX8_isSilent_13 : decode cX8_isSilent 13 = .ok (.iconst 1, 1) := by decide +kernel
theorem dX8_isSilent_14 : decode cX8_isSilent 14 = .ok (.goto 4, 3) := by decide +kernel
theorem dX8_isSilent_17 : decode cX8_isSilent 17 = .ok (.iconst 0, 1) := by decide +kernel
theorem dX8_isSilent_18 : decode cX8_isSilent 18 = .ok (.ireturn, 1) := by decide +kernel
theorem dX8_isSaid_0 : decode cX8_isSaid 0 = .ok (.aload_n 0, 1) := by decide +kernel
theorem dX8_isSaid_1 : decode cX8_isSaid 1 = .ok (.iload_n 2, 1) := by decide +kernel
theorem dX8_isSaid_2 : decode cX8_isSaid 2 = .ok (.invokevirtual 188, 3) := by decide +kernel
theorem dX8_isSaid_5 : decode cX8_isSaid 5 = .ok (.iconst 4, 1) := by decide +kernel
theorem dX8_isSaid_6 : decode cX8_isSaid 6 = .ok (.if_icmp .ne 5, 3) := by decide +kernel
theorem dX8_isSaid_9 : decode cX8_isSaid 9 = .ok (.iconst 1, 1) := by decide +kernel
theorem dX8_isSaid_10 : decode cX8_isSaid 10 = .ok (.ireturn, 1) := by decide +kernel
theorem dX8_isSaid_11 : decode cX8_isSaid 11 = .ok (.aload_n 0, 1) := by decide +kernel
theorem dX8_isSaid_12 : decode cX8_isSaid 12 = .ok (.iload_n 2, 1) := by decide +kernel
theorem dX8_isSaid_13 : decode cX8_isSaid 13 = .ok (.iload_n 1, 1) := by decide +kernel
theorem dX8_isSaid_14 : decode cX8_isSaid 14 = .ok (.invokevirtual 209, 3) := by decide +kernel
theorem dX8_isSaid_17 : decode cX8_isSaid 17 = .ok (.istore 4, 2) := by decide +kernel
theorem dX8_isSaid_19 : decode cX8_isSaid 19 = .ok (.aload_n 0, 1) := by decide +kernel
theorem dX8_isSaid_20 : decode cX8_isSaid 20 = .ok (.iload_n 3, 1) := by decide +kernel
theorem dX8_isSaid_21 : decode cX8_isSaid 21 = .ok (.iload_n 1, 1) := by decide +kernel
theorem dX8_isSaid_22 : decode cX8_isSaid 22 = .ok (.invokevirtual 209, 3) := by decide +kernel
theorem dX8_isSaid_25 : decode cX8_isSaid 25 = .ok (.istore 5, 2) := by decide +kernel
theorem dX8_isSaid_27 : decode cX8_isSaid 27 = .ok (.aload_n 0, 1) := by decide +kernel
theorem dX8_isSaid_28 : decode cX8_isSaid 28 = .ok (.getfield 7, 3) := by decide +kernel
theorem dX8_isSaid_31 : decode cX8_isSaid 31 = .ok (.bipush 55, 2) := by decide +kernel
theorem dX8_isSaid_33 : decode cX8_isSaid 33 = .ok (.iaload, 1) := by decide +kernel
theorem dX8_isSaid_34 : decode cX8_isSaid 34 = .ok (.ifCond .ne 16, 3) := by decide +kernel
theorem dX8_isSaid_37 : decode cX8_isSaid 37 = .ok (.iload 5, 2) := by decide +kernel
theorem dX8_isSaid_39 : decode cX8_isSaid 39 = .ok (.ifCond .ne 7, 3) := by decide +kernel
theorem dX8_isSaid_42 : decode cX8_isSaid 42 = .ok (.iconst 1, 1) := by decide +kernel
theorem dX8_isSaid_43 : decode cX8_isSaid 43 = .ok (.goto 51, 3) := by decide +kernel
theorem dX8_isSaid_46 : decode cX8_isSaid 46 = .ok (.iconst 0, 1) := by decide +kernel
theorem dX8_isSaid_47 : decode cX8_isSaid 47 = .ok (.goto 47, 3) := by decide +kernel
theorem dX8_isSaid_50 : decode cX8_isSaid 50 = .ok (.aload_n 0, 1) := by decide +kernel
theorem dX8_isSaid_51 : decode cX8_isSaid 51 = .ok (.getfield 7, 3) := by decide +kernel
theorem dX8_isSaid_54 : decode cX8_isSaid 54 = .ok (.bipush 55, 2) := by decide +kernel
theorem dX8_isSaid_56 : decode cX8_isSaid 56 = .ok (.iaload, 1) := by decide +kernel
theorem dX8_isSaid_57 : decode cX8_isSaid 57 = .ok (.iconst 1, 1) := by decide +kernel
theorem dX8_isSaid_58 : decode cX8_isSaid 58 = .ok (.if_icmp .ne 21, 3) := by decide +kernel
theorem dX8_isSaid_61 : decode cX8_isSaid 61 = .ok (.iload 5, 2) := by decide +kernel
theorem dX8_isSaid_63 : decode cX8_isSaid 63 = .ok (.ifCond .eq 8, 3) := by decide +kernel
theorem dX8_isSaid_66 : decode cX8_isSaid 66 = .ok (.iload 4, 2) := by decide +kernel
theorem dX8_isSaid_68 : decode cX8_isSaid 68 = .ok (.ifCond .eq 7, 3) := by decide +kernel
theorem dX8_isSaid_71 : decode cX8_isSaid 71 = .ok (.iconst 1, 1) := by decide +kernel
theorem dX8_isSaid_72 : decode cX8_isSaid 72 = .ok (.goto 22, 3) := by decide +kernel
theorem dX8_isSaid_75 : decode cX8_isSaid 75 = .ok (.iconst 0, 1) := by decide +kernel
theorem dX8_isSaid_76 : decode cX8_isSaid 76 = .ok (.goto 18, 3) := by decide +kernel
theorem dX8_isSaid_79 : decode cX8_isSaid 79 = .ok (.iload 5, 2) := by decide +kernel
theorem dX8_isSaid_81 : decode cX8_isSaid 81 = .ok (.ifCond .ne 12, 3) := by decide +kernel
theorem dX8_isSaid_84 : decode cX8_isSaid 84 = .ok (.iload 4, 2) := by decide +kernel
theorem dX8_isSaid_86 : decode cX8_isSaid 86 = .ok (.ifCond .ne 7, 3) := by decide +kernel
theorem dX8_isSaid_89 : decode cX8_isSaid 89 = .ok (.iconst 1, 1) := by decide +kernel
theorem dX8_isSaid_90 : decode cX8_isSaid 90 = .ok (.goto 4, 3) := by decide +kernel
theorem dX8_isSaid_93 : decode cX8_isSaid 93 = .ok (.iconst 0, 1) := by decide +kernel
theorem dX8_isSaid_94 : decode cX8_isSaid 94 = .ok (.ireturn, 1) := by decide +kernel
theorem dX8_isTalkSaid_0 : decode cX8_isTalkSaid 0 = .ok (.bipush 24, 2) := by decide +kernel
theorem dX8_isTalkSaid_2 : decode cX8_isTalkSaid 2 = .ok (.iconst 3, 1) := by decide +kernel
theorem dX8_isTalkSaid_3 : decode cX8_isTalkSaid 3 = .ok (.iload_n 1, 1) := by decide +kernel
theorem dX8_isTalkSaid_4 : decode cX8_isTalkSaid 4 = .ok (.imul, 1) := by decide +kernel
theorem dX8_isTalkSaid_5 : decode cX8_isTalkSaid 5 = .ok (.iadd, 1) := by decide +kernel
theorem dX8_isTalkSaid_6 : decode cX8_isTalkSaid 6 = .ok (.istore_n 2, 1) := by decide +kernel
theorem dX8_isTalkSaid_7 : decode cX8_isTalkSaid 7 = .ok (.aload_n 0, 1) := by decide +kernel
theorem dX8_isTalkSaid_8 : decode cX8_isTalkSaid 8 = .ok (.aload_n 0, 1) := by decide +kernel
theorem dX8_isTalkSaid_9 : decode cX8_isTalkSaid 9 = .ok (.getfield 7, 3) := by decide +kernel
theorem dX8_isTalkSaid_12 : decode cX8_isTalkSaid 12 = .ok (.iload_n 2, 1) := by decide +kernel
theorem dX8_isTalkSaid_13 : decode cX8_isTalkSaid 13 = .ok (.iaload, 1) := by decide +kernel
theorem dX8_isTalkSaid_14 : decode cX8_isTalkSaid 14 = .ok (.aload_n 0, 1) := by decide +kernel
theorem dX8_isTalkSaid_15 : decode cX8_isTalkSaid 15 = .ok (.getfield 7, 3) := by decide +kernel
theorem dX8_isTalkSaid_18 : decode cX8_isTalkSaid 18 = .ok (.iload_n 2, 1) := by decide +kernel
theorem dX8_isTalkSaid_19 : decode cX8_isTalkSaid 19 = .ok (.iconst 1, 1) := by decide +kernel
theorem dX8_isTalkSaid_20 : decode cX8_isTalkSaid 20 = .ok (.iadd, 1) := by decide +kernel
theorem dX8_isTalkSaid_21 : decode cX8_isTalkSaid 21 = .ok (.iaload, 1) := by decide +kernel
theorem dX8_isTalkSaid_22 : decode cX8_isTalkSaid 22 = .ok (.aload_n 0, 1) := by decide +kernel
theorem dX8_isTalkSaid_23 : decode cX8_isTalkSaid 23 = .ok (.getfield 7, 3) := by decide +kernel
theorem dX8_isTalkSaid_26 : decode cX8_isTalkSaid 26 = .ok (.iload_n 2, 1) := by decide +kernel
theorem dX8_isTalkSaid_27 : decode cX8_isTalkSaid 27 = .ok (.iconst 2, 1) := by decide +kernel
theorem dX8_isTalkSaid_28 : decode cX8_isTalkSaid 28 = .ok (.iadd, 1) := by decide +kernel
theorem dX8_isTalkSaid_29 : decode cX8_isTalkSaid 29 = .ok (.iaload, 1) := by decide +kernel
theorem dX8_isTalkSaid_30 : decode cX8_isTalkSaid 30 = .ok (.invokevirtual 213, 3) := by decide +kernel
theorem dX8_isTalkSaid_33 : decode cX8_isTalkSaid 33 = .ok (.ireturn, 1) := by decide +kernel
theorem dX8_talk_0 : decode cX8_talk 0 = .ok (.iload_n 1, 1) := by decide +kernel
theorem dX8_talk_1 : decode cX8_talk 1 = .ok (.i2l, 1) := by decide +kernel
theorem dX8_talk_2 : decode cX8_talk 2 = .ok (.lconst 0, 1) := by decide +kernel
theorem dX8_talk_3 : decode cX8_talk 3 = .ok (.aload_n 0, 1) := by decide +kernel
theorem dX8_talk_4 : decode cX8_talk 4 = .ok (.getfield 7, 3) := by decide +kernel
theorem dX8_talk_7 : decode cX8_talk 7 = .ok (.bipush 54, 2) := by decide +kernel
theorem dX8_talk_9 : decode cX8_talk 9 = .ok (.iaload, 1) := by decide +kernel
theorem dX8_talk_10 : decode cX8_talk 10 = .ok (.iconst 1, 1) := by decide +kernel
theorem dX8_talk_11 : decode cX8_talk 11 = .ok (.isub, 1) := by decide +kernel
theorem dX8_talk_12 : decode cX8_talk 12 = .ok (.i2l, 1) := by decide +kernel
theorem dX8_talk_13 : decode cX8_talk 13 = .ok (.invokestatic 69, 3) := by decide +kernel
theorem dX8_talk_16 : decode cX8_talk 16 = .ok (.ifCond .eq 15, 3) := by decide +kernel
theorem dX8_talk_19 : decode cX8_talk 19 = .ok (.iload_n 2, 1) := by decide +kernel
theorem dX8_talk_20 : decode cX8_talk 20 = .ok (.i2l, 1) := by decide +kernel
theorem dX8_talk_21 : decode cX8_talk 21 = .ok (.lconst 0, 1) := by decide +kernel
theorem dX8_talk_22 : decode cX8_talk 22 = .ok (.ldc2_w 217, 3) := by decide +kernel
theorem dX8_talk_25 : decode cX8_talk 25 = .ok (.invokestatic 69, 3) := by decide +kernel
theorem dX8_talk_28 : decode cX8_talk 28 = .ok (.ifCond .ne 5, 3) := by decide +kernel
theorem dX8_talk_31 : decode cX8_talk 31 = .ok (.iconst (-1), 1) := by decide +kernel
theorem dX8_talk_32 : decode cX8_talk 32 = .ok (.ireturn, 1) := by decide +kernel
theorem dX8_talk_33 : decode cX8_talk 33 = .ok (.iload_n 2, 1) := by decide +kernel
theorem dX8_talk_34 : decode cX8_talk 34 = .ok (.iconst 3, 1) := by decide +kernel
theorem dX8_talk_35 : decode cX8_talk 35 = .ok (.if_icmp .ne 19, 3) := by decide +kernel
theorem dX8_talk_38 : decode cX8_talk 38 = .ok (.aload_n 0, 1) := by decide +kernel
theorem dX8_talk_39 : decode cX8_talk 39 = .ok (.iload_n 1, 1) := by decide +kernel
theorem dX8_talk_40 : decode cX8_talk 40 = .ok (.invokevirtual 219, 3) := by decide +kernel
theorem dX8_talk_43 : decode cX8_talk 43 = .ok (.ifCond .eq 7, 3) := by decide +kernel
theorem dX8_talk_46 : decode cX8_talk 46 = .ok (.iconst 1, 1) := by decide +kernel
theorem dX8_talk_47 : decode cX8_talk 47 = .ok (.goto 20, 3) := by decide +kernel
theorem dX8_talk_50 : decode cX8_talk 50 = .ok (.iconst 0, 1) := by decide +kernel
theorem dX8_talk_51 : decode cX8_talk 51 = .ok (.goto 16, 3) := by decide +kernel
theorem dX8_talk_54 : decode cX8_talk 54 = .ok (.aload_n 0, 1) := by decide +kernel
theorem dX8_talk_55 : decode cX8_talk 55 = .ok (.getfield 7, 3) := by decide +kernel
theorem dX8_talk_58 : decode cX8_talk 58 = .ok (.bipush 24, 2) := by decide +kernel
theorem dX8_talk_60 : decode cX8_talk 60 = .ok (.iconst 3, 1) := by decide +kernel
theorem dX8_talk_61 : decode cX8_talk 61 = .ok (.iload_n 1, 1) := by decide +kernel
theorem dX8_talk_62 : decode cX8_talk 62 = .ok (.imul, 1) := by decide +kernel
theorem dX8_talk_63 : decode cX8_talk 63 = .ok (.iadd, 1) := by decide +kernel
theorem dX8_talk_64 : decode cX8_talk 64 = .ok (.iload_n 2, 1) := by decide +kernel
theorem dX8_talk_65 : decode cX8_talk 65 = .ok (.iadd, 1) := by decide +kernel
theorem dX8_talk_66 : decode cX8_talk 66 = .ok (.iaload, 1) := by decide +kernel
theorem dX8_talk_67 : decode cX8_talk 67 = .ok (.ireturn, 1) := by decide +kernel
theorem dX8_silent_0 : decode cX8_silent 0 = .ok (.iload_n 1, 1) := by decide +kernel
theorem dX8_silent_1 : decode cX8_silent 1 = .ok (.invokestatic 222, 3) := by decide +kernel
theorem dX8_silent_4 : decode cX8_silent 4 = .ok (.ifCond .ne 5, 3) := by decide +kernel
theorem dX8_silent_7 : decode cX8_silent 7 = .ok (.iconst (-1), 1) := by decide +kernel
theorem dX8_silent_8 : decode cX8_silent 8 = .ok (.ireturn, 1) := by decide +kernel
theorem dX8_silent_9 : decode cX8_silent 9 = .ok (.iconst 0, 1) := by decide +kernel
theorem dX8_silent_10 : decode cX8_silent 10 = .ok (.istore_n 2, 1) := by decide +kernel
theorem dX8_silent_11 : decode cX8_silent 11 = .ok (.iconst 0, 1) := by decide +kernel
theorem dX8_silent_12 : decode cX8_silent 12 = .ok (.istore_n 3, 1) := by decide +kernel
theorem dX8_silent_13 : decode cX8_silent 13 = .ok (.iload_n 3, 1) := by decide +kernel
theorem dX8_silent_14 : decode cX8_silent 14 = .ok (.aload_n 0, 1) := by decide +kernel
theorem dX8_silent_15 : decode cX8_silent 15 = .ok (.getfield 166, 3) := by decide +kernel
theorem dX8_silent_18 : decode cX8_silent 18 = .ok (.if_icmp .ge 28, 3) := by decide +kernel
theorem dX8_silent_21 : decode cX8_silent 21 = .ok (.iload_n 2, 1) := by decide +kernel
theorem dX8_silent_22 : decode cX8_silent 22 = .ok (.aload_n 0, 1) := by decide +kernel
theorem dX8_silent_23 : decode cX8_silent 23 = .ok (.iload_n 3, 1) := by decide +kernel
theorem dX8_silent_24 : decode cX8_silent 24 = .ok (.iload_n 1, 1) := by decide +kernel
theorem dX8_silent_25 : decode cX8_silent 25 = .ok (.invokevirtual 209, 3) := by decide +kernel
theorem dX8_silent_28 : decode cX8_silent 28 = .ok (.ifCond .eq 9, 3) := by decide +kernel
theorem dX8_silent_31 : decode cX8_silent 31 = .ok (.iconst 1, 1) := by decide +kernel
theorem dX8_silent_32 : decode cX8_silent 32 = .ok (.iload_n 3, 1) := by decide +kernel
theorem dX8_silent_33 : decode cX8_silent 33 = .ok (.ishl, 1) := by decide +kernel
theorem dX8_silent_34 : decode cX8_silent 34 = .ok (.goto 4, 3) := by decide +kernel
theorem dX8_silent_37 : decode cX8_silent 37 = .ok (.iconst 0, 1) := by decide +kernel
theorem dX8_silent_38 : decode cX8_silent 38 = .ok (.ior, 1) := by decide +kernel
theorem dX8_silent_39 : decode cX8_silent 39 = .ok (.istore_n 2, 1) := by decide +kernel
theorem dX8_silent_40 : decode cX8_silent 40 = .ok (.iinc 3 1, 3) := by decide +kernel
theorem dX8_silent_43 : decode cX8_silent 43 = .ok (.goto (-30), 3) := by decide +kernel
theorem dX8_silent_46 : decode cX8_silent 46 = .ok (.iload_n 2, 1) := by decide +kernel
theorem dX8_silent_47 : decode cX8_silent 47 = .ok (.ireturn, 1) := by decide +kernel
theorem dX8_quiet_0 : decode cX8_quiet 0 = .ok (.aload_n 0, 1) := by decide +kernel
theorem dX8_quiet_1 : decode cX8_quiet 1 = .ok (.iload_n 1, 1) := by decide +kernel
theorem dX8_quiet_2 : decode cX8_quiet 2 = .ok (.invokevirtual 180, 3) := by decide +kernel
theorem dX8_quiet_5 : decode cX8_quiet 5 = .ok (.ifCond .eq 11, 3) := by decide +kernel
theorem dX8_quiet_8 : decode cX8_quiet 8 = .ok (.aload_n 0, 1) := by decide +kernel
theorem dX8_quiet_9 : decode cX8_quiet 9 = .ok (.iload_n 1, 1) := by decide +kernel
theorem dX8_quiet_10 : decode cX8_quiet 10 = .ok (.invokevirtual 206, 3) := by decide +kernel
theorem dX8_quiet_13 : decode cX8_quiet 13 = .ok (.goto 4, 3) := by decide +kernel
theorem dX8_quiet_16 : decode cX8_quiet 16 = .ok (.iconst (-1), 1) := by decide +kernel
theorem dX8_quiet_17 : decode cX8_quiet 17 = .ok (.ireturn, 1) := by decide +kernel
theorem dX8_may_0 : decode cX8_may 0 = .ok (.iload_n 1, 1) := by decide +kernel
theorem dX8_may_1 : decode cX8_may 1 = .ok (.invokestatic 222, 3) := by decide +kernel
theorem dX8_may_4 : decode cX8_may 4 = .ok (.ifCond .eq 30, 3) := by decide +kernel
theorem dX8_may_7 : decode cX8_may 7 = .ok (.aload_n 0, 1) := by decide +kernel
theorem dX8_may_8 : decode cX8_may 8 = .ok (.iload_n 2, 1) := by decide +kernel
theorem dX8_may_9 : decode cX8_may 9 = .ok (.iload_n 3, 1) := by decide +kernel
theorem dX8_may_10 : decode cX8_may 10 = .ok (.invokevirtual 225, 3) := by decide +kernel
theorem dX8_may_13 : decode cX8_may 13 = .ok (.ifCond .eq 21, 3) := by decide +kernel
theorem dX8_may_16 : decode cX8_may 16 = .ok (.aload_n 0, 1) := by decide +kernel
theorem dX8_may_17 : decode cX8_may 17 = .ok (.iload_n 1, 1) := by decide +kernel
theorem dX8_may_18 : decode cX8_may 18 = .ok (.iload_n 2, 1) := by decide +kernel
theorem dX8_may_19 : decode cX8_may 19 = .ok (.iload_n 3, 1) := by decide +kernel
theorem dX8_may_20 : decode cX8_may 20 = .ok (.invokevirtual 213, 3) := by decide +kernel
theorem dX8_may_23 : decode cX8_may 23 = .ok (.ifCond .eq 7, 3) := by decide +kernel
theorem dX8_may_26 : decode cX8_may 26 = .ok (.iconst 1, 1) := by decide +kernel
theorem dX8_may_27 : decode cX8_may 27 = .ok (.goto 8, 3) := by decide +kernel
theorem dX8_may_30 : decode cX8_may 30 = .ok (.iconst 0, 1) := by decide +kernel
theorem dX8_may_31 : decode cX8_may 31 = .ok (.goto 4, 3) := by decide +kernel
theorem dX8_may_34 : decode cX8_may 34 = .ok (.iconst (-1), 1) := by decide +kernel
theorem dX8_may_35 : decode cX8_may 35 = .ok (.ireturn, 1) := by decide +kernel
theorem dX8_said_0 : decode cX8_said 0 = .ok (.iconst 0, 1) := by decide +kernel
theorem dX8_said_1 : decode cX8_said 1 = .ok (.istore_n 1, 1) := by decide +kernel
theorem dX8_said_2 : decode cX8_said 2 = .ok (.iconst 0, 1) := by decide +kernel
theorem dX8_said_3 : decode cX8_said 3 = .ok (.istore_n 2, 1) := by decide +kernel
theorem dX8_said_4 : decode cX8_said 4 = .ok (.iload_n 2, 1) := by decide +kernel
theorem dX8_said_5 : decode cX8_said 5 = .ok (.aload_n 0, 1) := by decide +kernel
theorem dX8_said_6 : decode cX8_said 6 = .ok (.getfield 7, 3) := by decide +kernel
theorem dX8_said_9 : decode cX8_said 9 = .ok (.bipush 54, 2) := by decide +kernel
theorem dX8_said_11 : decode cX8_said 11 = .ok (.iaload, 1) := by decide +kernel
theorem dX8_said_12 : decode cX8_said 12 = .ok (.if_icmp .ge 27, 3) := by decide +kernel
theorem dX8_said_15 : decode cX8_said 15 = .ok (.iload_n 1, 1) := by decide +kernel
theorem dX8_said_16 : decode cX8_said 16 = .ok (.aload_n 0, 1) := by decide +kernel
theorem dX8_said_17 : decode cX8_said 17 = .ok (.iload_n 2, 1) := by decide +kernel
theorem dX8_said_18 : decode cX8_said 18 = .ok (.invokevirtual 219, 3) := by decide +kernel
theorem dX8_said_21 : decode cX8_said 21 = .ok (.ifCond .eq 9, 3) := by decide +kernel
theorem dX8_said_24 : decode cX8_said 24 = .ok (.iconst 1, 1) := by decide +kernel
theorem dX8_said_25 : decode cX8_said 25 = .ok (.iload_n 2, 1) := by decide +kernel
theorem dX8_said_26 : decode cX8_said 26 = .ok (.ishl, 1) := by decide +kernel
theorem dX8_said_27 : decode cX8_said 27 = .ok (.goto 4, 3) := by decide +kernel
theorem dX8_said_30 : decode cX8_said 30 = .ok (.iconst 0, 1) := by decide +kernel
theorem dX8_said_31 : decode cX8_said 31 = .ok (.ior, 1) := by decide +kernel
theorem dX8_said_32 : decode cX8_said 32 = .ok (.istore_n 1, 1) := by decide +kernel
theorem dX8_said_33 : decode cX8_said 33 = .ok (.iinc 2 1, 3) := by decide +kernel
theorem dX8_said_36 : decode cX8_said 36 = .ok (.goto (-32), 3) := by decide +kernel
theorem dX8_said_39 : decode cX8_said 39 = .ok (.iload_n 1, 1) := by decide +kernel
theorem dX8_said_40 : decode cX8_said 40 = .ok (.ireturn, 1) := by decide +kernel
theorem dX8_law_0 : decode cX8_law 0 = .ok (.iload_n 1, 1) := by decide +kernel
theorem dX8_law_1 : decode cX8_law 1 = .ok (.i2l, 1) := by decide +kernel
theorem dX8_law_2 : decode cX8_law 2 = .ok (.lconst 0, 1) := by decide +kernel
theorem dX8_law_3 : decode cX8_law 3 = .ok (.ldc2_w 186, 3) := by decide +kernel
theorem dX8_law_6 : decode cX8_law 6 = .ok (.invokestatic 69, 3) := by decide +kernel
theorem dX8_law_9 : decode cX8_law 9 = .ok (.ifCond .ne 5, 3) := by decide +kernel
theorem dX8_law_12 : decode cX8_law 12 = .ok (.iconst (-1), 1) := by decide +kernel
theorem dX8_law_13 : decode cX8_law 13 = .ok (.ireturn, 1) := by decide +kernel
theorem dX8_law_14 : decode cX8_law 14 = .ok (.aload_n 0, 1) := by decide +kernel
theorem dX8_law_15 : decode cX8_law 15 = .ok (.getfield 7, 3) := by decide +kernel
theorem dX8_law_18 : decode cX8_law 18 = .ok (.bipush 55, 2) := by decide +kernel
theorem dX8_law_20 : decode cX8_law 20 = .ok (.iaload, 1) := by decide +kernel
theorem dX8_law_21 : decode cX8_law 21 = .ok (.istore_n 2, 1) := by decide +kernel
theorem dX8_law_22 : decode cX8_law 22 = .ok (.aload_n 0, 1) := by decide +kernel
theorem dX8_law_23 : decode cX8_law 23 = .ok (.getfield 7, 3) := by decide +kernel
theorem dX8_law_26 : decode cX8_law 26 = .ok (.bipush 55, 2) := by decide +kernel
theorem dX8_law_28 : decode cX8_law 28 = .ok (.iload_n 1, 1) := by decide +kernel
theorem dX8_law_29 : decode cX8_law 29 = .ok (.iastore, 1) := by decide +kernel
theorem dX8_law_30 : decode cX8_law 30 = .ok (.iload_n 2, 1) := by decide +kernel
theorem dX8_law_31 : decode cX8_law 31 = .ok (.ireturn, 1) := by decide +kernel
theorem dX8_fee_0 : decode cX8_fee 0 = .ok (.iload_n 1, 1) := by decide +kernel
theorem dX8_fee_1 : decode cX8_fee 1 = .ok (.i2l, 1) := by decide +kernel
theorem dX8_fee_2 : decode cX8_fee 2 = .ok (.lconst 0, 1) := by decide +kernel
theorem dX8_fee_3 : decode cX8_fee 3 = .ok (.ldc2_w 228, 3) := by decide +kernel
theorem dX8_fee_6 : decode cX8_fee 6 = .ok (.invokestatic 69, 3) := by decide +kernel
theorem dX8_fee_9 : decode cX8_fee 9 = .ok (.ifCond .ne 5, 3) := by decide +kernel
theorem dX8_fee_12 : decode cX8_fee 12 = .ok (.iconst (-1), 1) := by decide +kernel
theorem dX8_fee_13 : decode cX8_fee 13 = .ok (.ireturn, 1) := by decide +kernel
theorem dX8_fee_14 : decode cX8_fee 14 = .ok (.aload_n 0, 1) := by decide +kernel
theorem dX8_fee_15 : decode cX8_fee 15 = .ok (.invokevirtual 183, 3) := by decide +kernel
theorem dX8_fee_18 : decode cX8_fee 18 = .ok (.istore_n 2, 1) := by decide +kernel
theorem dX8_fee_19 : decode cX8_fee 19 = .ok (.aload_n 0, 1) := by decide +kernel
theorem dX8_fee_20 : decode cX8_fee 20 = .ok (.getfield 7, 3) := by decide +kernel
theorem dX8_fee_23 : decode cX8_fee 23 = .ok (.bipush 56, 2) := by decide +kernel
theorem dX8_fee_25 : decode cX8_fee 25 = .ok (.iload_n 1, 1) := by decide +kernel
theorem dX8_fee_26 : decode cX8_fee 26 = .ok (.iconst 1, 1) := by decide +kernel
theorem dX8_fee_27 : decode cX8_fee 27 = .ok (.isub, 1) := by decide +kernel
theorem dX8_fee_28 : decode cX8_fee 28 = .ok (.iastore, 1) := by decide +kernel
theorem dX8_fee_29 : decode cX8_fee 29 = .ok (.iload_n 2, 1) := by decide +kernel
theorem dX8_fee_30 : decode cX8_fee 30 = .ok (.ireturn, 1) := by decide +kernel
theorem dX8_give_0 : decode cX8_give 0 = .ok (.aload_n 0, 1) := by decide +kernel
theorem dX8_give_1 : decode cX8_give 1 = .ok (.iload_n 1, 1) := by decide +kernel
theorem dX8_give_2 : decode cX8_give 2 = .ok (.invokevirtual 191, 3) := by decide +kernel
theorem dX8_give_5 : decode cX8_give 5 = .ok (.ifCond .eq 11, 3) := by decide +kernel
theorem dX8_give_8 : decode cX8_give 8 = .ok (.aload_n 0, 1) := by decide +kernel
theorem dX8_give_9 : decode cX8_give 9 = .ok (.iload_n 2, 1) := by decide +kernel
theorem dX8_give_10 : decode cX8_give 10 = .ok (.invokevirtual 180, 3) := by decide +kernel
theorem dX8_give_13 : decode cX8_give 13 = .ok (.ifCond .ne 5, 3) := by decide +kernel
theorem dX8_give_16 : decode cX8_give 16 = .ok (.iconst (-1), 1) := by decide +kernel
theorem dX8_give_17 : decode cX8_give 17 = .ok (.ireturn, 1) := by decide +kernel
theorem dX8_give_18 : decode cX8_give 18 = .ok (.aload_n 0, 1) := by decide +kernel
theorem dX8_give_19 : decode cX8_give 19 = .ok (.iload_n 1, 1) := by decide +kernel
theorem dX8_give_20 : decode cX8_give 20 = .ok (.invokevirtual 203, 3) := by decide +kernel
theorem dX8_give_23 : decode cX8_give 23 = .ok (.ifCond .eq 6, 3) := by decide +kernel
theorem dX8_give_26 : decode cX8_give 26 = .ok (.bipush (-2), 2) := by decide +kernel
theorem dX8_give_28 : decode cX8_give 28 = .ok (.ireturn, 1) := by decide +kernel
theorem dX8_give_29 : decode cX8_give 29 = .ok (.aload_n 0, 1) := by decide +kernel
theorem dX8_give_30 : decode cX8_give 30 = .ok (.iload_n 1, 1) := by decide +kernel
theorem dX8_give_31 : decode cX8_give 31 = .ok (.invokevirtual 196, 3) := by decide +kernel
theorem dX8_give_34 : decode cX8_give 34 = .ok (.istore_n 3, 1) := by decide +kernel
theorem dX8_give_35 : decode cX8_give 35 = .ok (.aload_n 0, 1) := by decide +kernel
theorem dX8_give_36 : decode cX8_give 36 = .ok (.getfield 7, 3) := by decide +kernel
theorem dX8_give_39 : decode cX8_give 39 = .ok (.iconst 4, 1) := by decide +kernel
theorem dX8_give_40 : decode cX8_give 40 = .ok (.iload_n 1, 1) := by decide +kernel
theorem dX8_give_41 : decode cX8_give 41 = .ok (.imul, 1) := by decide +kernel
theorem dX8_give_42 : decode cX8_give 42 = .ok (.iconst 1, 1) := by decide +kernel
theorem dX8_give_43 : decode cX8_give 43 = .ok (.iadd, 1) := by decide +kernel
theorem dX8_give_44 : decode cX8_give 44 = .ok (.iload_n 2, 1) := by decide +kernel
theorem dX8_give_45 : decode cX8_give 45 = .ok (.iastore, 1) := by decide +kernel
theorem dX8_give_46 : decode cX8_give 46 = .ok (.iload_n 3, 1) := by decide +kernel
theorem dX8_give_47 : decode cX8_give 47 = .ok (.ireturn, 1) := by decide +kernel
theorem dX8_clip_0 : decode cX8_clip 0 = .ok (.aload_n 0, 1) := by decide +kernel
theorem dX8_clip_1 : decode cX8_clip 1 = .ok (.iload_n 1, 1) := by decide +kernel
theorem dX8_clip_2 : decode cX8_clip 2 = .ok (.invokevirtual 191, 3) := by decide +kernel
theorem dX8_clip_5 : decode cX8_clip 5 = .ok (.ifCond .ne 5, 3) := by decide +kernel
theorem dX8_clip_8 : decode cX8_clip 8 = .ok (.iconst (-1), 1) := by decide +kernel
theorem dX8_clip_9 : decode cX8_clip 9 = .ok (.ireturn, 1) := by decide +kernel
theorem dX8_clip_10 : decode cX8_clip 10 = .ok (.aload_n 0, 1) := by decide +kernel
theorem dX8_clip_11 : decode cX8_clip 11 = .ok (.getfield 7, 3) := by decide +kernel
theorem dX8_clip_14 : decode cX8_clip 14 = .ok (.iconst 4, 1) := by decide +kernel
theorem dX8_clip_15 : decode cX8_clip 15 = .ok (.iload_n 1, 1) := by decide +kernel
theorem dX8_clip_16 : decode cX8_clip 16 = .ok (.imul, 1) := by decide +kernel
theorem dX8_clip_17 : decode cX8_clip 17 = .ok (.iconst 2, 1) := by decide +kernel
theorem dX8_clip_18 : decode cX8_clip 18 = .ok (.iadd, 1) := by decide +kernel
theorem dX8_clip_19 : decode cX8_clip 19 = .ok (.iaload, 1) := by decide +kernel
theorem dX8_clip_20 : decode cX8_clip 20 = .ok (.istore_n 2, 1) := by decide +kernel
theorem dX8_clip_21 : decode cX8_clip 21 = .ok (.aload_n 0, 1) := by decide +kernel
theorem dX8_clip_22 : decode cX8_clip 22 = .ok (.getfield 7, 3) := by decide +kernel
theorem dX8_clip_25 : decode cX8_clip 25 = .ok (.iconst 4, 1) := by decide +kernel
theorem dX8_clip_26 : decode cX8_clip 26 = .ok (.iload_n 1, 1) := by decide +kernel
theorem dX8_clip_27 : decode cX8_clip 27 = .ok (.imul, 1) := by decide +kernel
theorem dX8_clip_28 : decode cX8_clip 28 = .ok (.iconst 2, 1) := by decide +kernel
theorem dX8_clip_29 : decode cX8_clip 29 = .ok (.iadd, 1) := by decide +kernel
theorem dX8_clip_30 : decode cX8_clip 30 = .ok (.iconst 1, 1) := by decide +kernel
theorem dX8_clip_31 : decode cX8_clip 31 = .ok (.iastore, 1) := by decide +kernel
theorem dX8_clip_32 : decode cX8_clip 32 = .ok (.iconst 1, 1) := by decide +kernel
theorem dX8_clip_33 : decode cX8_clip 33 = .ok (.iload_n 2, 1) := by decide +kernel
theorem dX8_clip_34 : decode cX8_clip 34 = .ok (.isub, 1) := by decide +kernel
theorem dX8_clip_35 : decode cX8_clip 35 = .ok (.ireturn, 1) := by decide +kernel
theorem dX8_spend_0 : decode cX8_spend 0 = .ok (.aload_n 0, 1) := by decide +kernel
theorem dX8_spend_1 : decode cX8_spend 1 = .ok (.iload_n 1, 1) := by decide +kernel
theorem dX8_spend_2 : decode cX8_spend 2 = .ok (.invokevirtual 191, 3) := by decide +kernel
theorem dX8_spend_5 : decode cX8_spend 5 = .ok (.ifCond .eq 10, 3) := by decide +kernel
theorem dX8_spend_8 : decode cX8_spend 8 = .ok (.iload_n 2, 1) := by decide +kernel
theorem dX8_spend_9 : decode cX8_spend 9 = .ok (.invokestatic 222, 3) := by decide +kernel
theorem dX8_spend_12 : decode cX8_spend 12 = .ok (.ifCond .ne 5, 3) := by decide +kernel
theorem dX8_spend_15 : decode cX8_spend 15 = .ok (.iconst (-1), 1) := by decide +kernel
theorem dX8_spend_16 : decode cX8_spend 16 = .ok (.ireturn, 1) := by decide +kernel
theorem dX8_spend_17 : decode cX8_spend 17 = .ok (.aload_n 0, 1) := by decide +kernel
theorem dX8_spend_18 : decode cX8_spend 18 = .ok (.iload_n 1, 1) := by decide +kernel
theorem dX8_spend_19 : decode cX8_spend 19 = .ok (.invokevirtual 203, 3) := by decide +kernel
theorem dX8_spend_22 : decode cX8_spend 22 = .ok (.ifCond .eq 6, 3) := by decide +kernel
theorem dX8_spend_25 : decode cX8_spend 25 = .ok (.bipush (-2), 2) := by decide +kernel
theorem dX8_spend_27 : decode cX8_spend 27 = .ok (.ireturn, 1) := by decide +kernel
theorem dX8_spend_28 : decode cX8_spend 28 = .ok (.aload_n 0, 1) := by decide +kernel
theorem dX8_spend_29 : decode cX8_spend 29 = .ok (.getfield 7, 3) := by decide +kernel
theorem dX8_spend_32 : decode cX8_spend 32 = .ok (.iconst 4, 1) := by decide +kernel
theorem dX8_spend_33 : decode cX8_spend 33 = .ok (.iload_n 1, 1) := by decide +kernel
theorem dX8_spend_34 : decode cX8_spend 34 = .ok (.imul, 1) := by decide +kernel
theorem dX8_spend_35 : decode cX8_spend 35 = .ok (.iconst 3, 1) := by decide +kernel
theorem dX8_spend_36 : decode cX8_spend 36 = .ok (.iadd, 1) := by decide +kernel
theorem dX8_spend_37 : decode cX8_spend 37 = .ok (.iload_n 2, 1) := by decide +kernel
theorem dX8_spend_38 : decode cX8_spend 38 = .ok (.iconst 1, 1) := by decide +kernel
theorem dX8_spend_39 : decode cX8_spend 39 = .ok (.iadd, 1) := by decide +kernel
theorem dX8_spend_40 : decode cX8_spend 40 = .ok (.iastore, 1) := by decide +kernel
theorem dX8_spend_41 : decode cX8_spend 41 = .ok (.aload_n 0, 1) := by decide +kernel
theorem dX8_spend_42 : decode cX8_spend 42 = .ok (.iload_n 1, 1) := by decide +kernel
theorem dX8_spend_43 : decode cX8_spend 43 = .ok (.aload_n 0, 1) := by decide +kernel
theorem dX8_spend_44 : decode cX8_spend 44 = .ok (.iload_n 1, 1) := by decide +kernel
theorem dX8_spend_45 : decode cX8_spend 45 = .ok (.invokevirtual 196, 3) := by decide +kernel
theorem dX8_spend_48 : decode cX8_spend 48 = .ok (.invokevirtual 199, 3) := by decide +kernel
theorem dX8_spend_51 : decode cX8_spend 51 = .ok (.ireturn, 1) := by decide +kernel
theorem dX8_undo_0 : decode cX8_undo 0 = .ok (.aload_n 0, 1) := by decide +kernel
theorem dX8_undo_1 : decode cX8_undo 1 = .ok (.iload_n 1, 1) := by decide +kernel
theorem dX8_undo_2 : decode cX8_undo 2 = .ok (.invokevirtual 191, 3) := by decide +kernel
theorem dX8_undo_5 : decode cX8_undo 5 = .ok (.ifCond .ne 5, 3) := by decide +kernel
theorem dX8_undo_8 : decode cX8_undo 8 = .ok (.iconst (-1), 1) := by decide +kernel
theorem dX8_undo_9 : decode cX8_undo 9 = .ok (.ireturn, 1) := by decide +kernel
theorem dX8_undo_10 : decode cX8_undo 10 = .ok (.aload_n 0, 1) := by decide +kernel
theorem dX8_undo_11 : decode cX8_undo 11 = .ok (.iload_n 1, 1) := by decide +kernel
theorem dX8_undo_12 : decode cX8_undo 12 = .ok (.invokevirtual 203, 3) := by decide +kernel
theorem dX8_undo_15 : decode cX8_undo 15 = .ok (.ifCond .eq 18, 3) := by decide +kernel
theorem dX8_undo_18 : decode cX8_undo 18 = .ok (.aload_n 0, 1) := by decide +kernel
theorem dX8_undo_19 : decode cX8_undo 19 = .ok (.getfield 7, 3) := by decide +kernel
theorem dX8_undo_22 : decode cX8_undo 22 = .ok (.iconst 4, 1) := by decide +kernel
theorem dX8_undo_23 : decode cX8_undo 23 = .ok (.iload_n 1, 1) := by decide +kernel
theorem dX8_undo_24 : decode cX8_undo 24 = .ok (.imul, 1) := by decide +kernel
theorem dX8_undo_25 : decode cX8_undo 25 = .ok (.iconst 3, 1) := by decide +kernel
theorem dX8_undo_26 : decode cX8_undo 26 = .ok (.iadd, 1) := by decide +kernel
theorem dX8_undo_27 : decode cX8_undo 27 = .ok (.iaload, 1) := by decide +kernel
theorem dX8_undo_28 : decode cX8_undo 28 = .ok (.iconst 1, 1) := by decide +kernel
theorem dX8_undo_29 : decode cX8_undo 29 = .ok (.isub, 1) := by decide +kernel
theorem dX8_undo_30 : decode cX8_undo 30 = .ok (.goto 5, 3) := by decide +kernel
theorem dX8_undo_33 : decode cX8_undo 33 = .ok (.bipush (-4), 2) := by decide +kernel
theorem dX8_undo_35 : decode cX8_undo 35 = .ok (.istore_n 2, 1) := by decide +kernel
theorem dX8_undo_36 : decode cX8_undo 36 = .ok (.aload_n 0, 1) := by decide +kernel
theorem dX8_undo_37 : decode cX8_undo 37 = .ok (.getfield 7, 3) := by decide +kernel
theorem dX8_undo_40 : decode cX8_undo 40 = .ok (.iconst 4, 1) := by decide +kernel
theorem dX8_undo_41 : decode cX8_undo 41 = .ok (.iload_n 1, 1) := by decide +kernel
theorem dX8_undo_42 : decode cX8_undo 42 = .ok (.imul, 1) := by decide +kernel
theorem dX8_undo_43 : decode cX8_undo 43 = .ok (.iconst 3, 1) := by decide +kernel
theorem dX8_undo_44 : decode cX8_undo 44 = .ok (.iadd, 1) := by decide +kernel
theorem dX8_undo_45 : decode cX8_undo 45 = .ok (.iconst 0, 1) := by decide +kernel
theorem dX8_undo_46 : decode cX8_undo 46 = .ok (.iastore, 1) := by decide +kernel
theorem dX8_undo_47 : decode cX8_undo 47 = .ok (.iload_n 2, 1) := by decide +kernel
theorem dX8_undo_48 : decode cX8_undo 48 = .ok (.ireturn, 1) := by decide +kernel
theorem dX8_speaks_0 : decode cX8_speaks 0 = .ok (.iload_n 1, 1) := by decide +kernel
theorem dX8_speaks_1 : decode cX8_speaks 1 = .ok (.invokestatic 222, 3) := by decide +kernel
theorem dX8_speaks_4 : decode cX8_speaks 4 = .ok (.ifCond .eq 12, 3) := by decide +kernel
theorem dX8_speaks_7 : decode cX8_speaks 7 = .ok (.aload_n 0, 1) := by decide +kernel
theorem dX8_speaks_8 : decode cX8_speaks 8 = .ok (.iload_n 2, 1) := by decide +kernel
theorem dX8_speaks_9 : decode cX8_speaks 9 = .ok (.iload_n 3, 1) := by decide +kernel
theorem dX8_speaks_10 : decode cX8_speaks 10 = .ok (.invokevirtual 225, 3) := by decide +kernel
theorem dX8_speaks_13 : decode cX8_speaks 13 = .ok (.ifCond .ne 5, 3) := by decide +kernel
theorem dX8_speaks_16 : decode cX8_speaks 16 = .ok (.iconst (-1), 1) := by decide +kernel
theorem dX8_speaks_17 : decode cX8_speaks 17 = .ok (.ireturn, 1) := by decide +kernel
theorem dX8_speaks_18 : decode cX8_speaks 18 = .ok (.aload_n 0, 1) := by decide +kernel
theorem dX8_speaks_19 : decode cX8_speaks 19 = .ok (.getfield 7, 3) := by decide +kernel
theorem dX8_speaks_22 : decode cX8_speaks 22 = .ok (.bipush 54, 2) := by decide +kernel
theorem dX8_speaks_24 : decode cX8_speaks 24 = .ok (.iaload, 1) := by decide +kernel
theorem dX8_speaks_25 : decode cX8_speaks 25 = .ok (.istore 4, 2) := by decide +kernel
theorem dX8_speaks_27 : decode cX8_speaks 27 = .ok (.iload 4, 2) := by decide +kernel
theorem dX8_speaks_29 : decode cX8_speaks 29 = .ok (.bipush 10, 2) := by decide +kernel
theorem dX8_speaks_31 : decode cX8_speaks 31 = .ok (.if_icmp .ne 6, 3) := by decide +kernel
theorem dX8_speaks_34 : decode cX8_speaks 34 = .ok (.bipush (-3), 2) := by decide +kernel
theorem dX8_speaks_36 : decode cX8_speaks 36 = .ok (.ireturn, 1) := by decide +kernel
theorem dX8_speaks_37 : decode cX8_speaks 37 = .ok (.aload_n 0, 1) := by decide +kernel
theorem dX8_speaks_38 : decode cX8_speaks 38 = .ok (.getfield 7, 3) := by decide +kernel
theorem dX8_speaks_41 : decode cX8_speaks 41 = .ok (.bipush 24, 2) := by decide +kernel
theorem dX8_speaks_43 : decode cX8_speaks 43 = .ok (.iconst 3, 1) := by decide +kernel
theorem dX8_speaks_44 : decode cX8_speaks 44 = .ok (.iload 4, 2) := by decide +kernel
theorem dX8_speaks_46 : decode cX8_speaks 46 = .ok (.imul, 1) := by decide +kernel
theorem dX8_speaks_47 : decode cX8_speaks 47 = .ok (.iadd, 1) := by decide +kernel
theorem dX8_speaks_48 : decode cX8_speaks 48 = .ok (.iload_n 1, 1) := by decide +kernel
theorem dX8_speaks_49 : decode cX8_speaks 49 = .ok (.iastore, 1) := by decide +kernel
theorem dX8_speaks_50 : decode cX8_speaks 50 = .ok (.aload_n 0, 1) := by decide +kernel
theorem dX8_speaks_51 : decode cX8_speaks 51 = .ok (.getfield 7, 3) := by decide +kernel
theorem dX8_speaks_54 : decode cX8_speaks 54 = .ok (.bipush 24, 2) := by decide +kernel
theorem dX8_speaks_56 : decode cX8_speaks 56 = .ok (.iconst 3, 1) := by decide +kernel
theorem dX8_speaks_57 : decode cX8_speaks 57 = .ok (.iload 4, 2) := by decide +kernel
theorem dX8_speaks_59 : decode cX8_speaks 59 = .ok (.imul, 1) := by decide +kernel
theorem dX8_speaks_60 : decode cX8_speaks 60 = .ok (.iadd, 1) := by decide +kernel
theorem dX8_speaks_61 : decode cX8_speaks 61 = .ok (.iconst 1, 1) := by decide +kernel
theorem dX8_speaks_62 : decode cX8_speaks 62 = .ok (.iadd, 1) := by decide +kernel
theorem dX8_speaks_63 : decode cX8_speaks 63 = .ok (.iload_n 2, 1) := by decide +kernel
theorem dX8_speaks_64 : decode cX8_speaks 64 = .ok (.iastore, 1) := by decide +kernel
theorem dX8_speaks_65 : decode cX8_speaks 65 = .ok (.aload_n 0, 1) := by decide +kernel
theorem dX8_speaks_66 : decode cX8_speaks 66 = .ok (.getfield 7, 3) := by decide +kernel
theorem dX8_speaks_69 : decode cX8_speaks 69 = .ok (.bipush 24, 2) := by decide +kernel
theorem dX8_speaks_71 : decode cX8_speaks 71 = .ok (.iconst 3, 1) := by decide +kernel
theorem dX8_speaks_72 : decode cX8_speaks 72 = .ok (.iload 4, 2) := by decide +kernel
theorem dX8_speaks_74 : decode cX8_speaks 74 = .ok (.imul, 1) := by decide +kernel
theorem dX8_speaks_75 : decode cX8_speaks 75 = .ok (.iadd, 1) := by decide +kernel
theorem dX8_speaks_76 : decode cX8_speaks 76 = .ok (.iconst 2, 1) := by decide +kernel
theorem dX8_speaks_77 : decode cX8_speaks 77 = .ok (.iadd, 1) := by decide +kernel
theorem dX8_speaks_78 : decode cX8_speaks 78 = .ok (.iload_n 3, 1) := by decide +kernel
theorem dX8_speaks_79 : decode cX8_speaks 79 = .ok (.iastore, 1) := by decide +kernel
theorem dX8_speaks_80 : decode cX8_speaks 80 = .ok (.aload_n 0, 1) := by decide +kernel
theorem dX8_speaks_81 : decode cX8_speaks 81 = .ok (.getfield 7, 3) := by decide +kernel
theorem dX8_speaks_84 : decode cX8_speaks 84 = .ok (.bipush 54, 2) := by decide +kernel
theorem dX8_speaks_86 : decode cX8_speaks 86 = .ok (.dup2, 1) := by decide +kernel
theorem dX8_speaks_87 : decode cX8_speaks 87 = .ok (.iaload, 1) := by decide +kernel
theorem dX8_speaks_88 : decode cX8_speaks 88 = .ok (.iconst 1, 1) := by decide +kernel
theorem dX8_speaks_89 : decode cX8_speaks 89 = .ok (.iadd, 1) := by decide +kernel
theorem dX8_speaks_90 : decode cX8_speaks 90 = .ok (.iastore, 1) := by decide +kernel
theorem dX8_speaks_91 : decode cX8_speaks 91 = .ok (.iload 4, 2) := by decide +kernel
theorem dX8_speaks_93 : decode cX8_speaks 93 = .ok (.iconst 1, 1) := by decide +kernel
theorem dX8_speaks_94 : decode cX8_speaks 94 = .ok (.iadd, 1) := by decide +kernel
theorem dX8_speaks_95 : decode cX8_speaks 95 = .ok (.ireturn, 1) := by decide +kernel
theorem dX8_speak_0 : decode cX8_speak 0 = .ok (.aload_n 0, 1) := by decide +kernel
theorem dX8_speak_1 : decode cX8_speak 1 = .ok (.iload_n 1, 1) := by decide +kernel
theorem dX8_speak_2 : decode cX8_speak 2 = .ok (.iload_n 2, 1) := by decide +kernel
theorem dX8_speak_3 : decode cX8_speak 3 = .ok (.iload_n 3, 1) := by decide +kernel
theorem dX8_speak_4 : decode cX8_speak 4 = .ok (.invokevirtual 230, 3) := by decide +kernel
theorem dX8_speak_7 : decode cX8_speak 7 = .ok (.ireturn, 1) := by decide +kernel
theorem dX8_layRumour_0 : decode cX8_layRumour 0 = .ok (.iconst 1, 1) := by decide +kernel
theorem dX8_layRumour_1 : decode cX8_layRumour 1 = .ok (.iload_n 1, 1) := by decide +kernel
theorem dX8_layRumour_2 : decode cX8_layRumour 2 = .ok (.ishl, 1) := by decide +kernel
theorem dX8_layRumour_3 : decode cX8_layRumour 3 = .ok (.istore_n 2, 1) := by decide +kernel
theorem dX8_layRumour_4 : decode cX8_layRumour 4 = .ok (.iconst 0, 1) := by decide +kernel
theorem dX8_layRumour_5 : decode cX8_layRumour 5 = .ok (.istore_n 3, 1) := by decide +kernel
theorem dX8_layRumour_6 : decode cX8_layRumour 6 = .ok (.iload_n 3, 1) := by decide +kernel
theorem dX8_layRumour_7 : decode cX8_layRumour 7 = .ok (.bipush 12, 2) := by decide +kernel
theorem dX8_layRumour_9 : decode cX8_layRumour 9 = .ok (.if_icmp .ge 193, 3) := by decide +kernel
theorem dX8_layRumour_12 : decode cX8_layRumour 12 = .ok (.iconst 0, 1) := by decide +kernel
theorem dX8_layRumour_13 : decode cX8_layRumour 13 = .ok (.istore 4, 2) := by decide +kernel
theorem dX8_layRumour_15 : decode cX8_layRumour 15 = .ok (.iload 4, 2) := by decide +kernel
theorem dX8_layRumour_17 : decode cX8_layRumour 17 = .ok (.aload_n 0, 1) := by decide +kernel
theorem dX8_layRumour_18 : decode cX8_layRumour 18 = .ok (.getfield 7, 3) := by decide +kernel
theorem dX8_layRumour_21 : decode cX8_layRumour 21 = .ok (.bipush 54, 2) := by decide +kernel
theorem dX8_layRumour_23 : decode cX8_layRumour 23 = .ok (.iaload, 1) := by decide +kernel
theorem dX8_layRumour_24 : decode cX8_layRumour 24 = .ok (.if_icmp .ge 165, 3) := by decide +kernel
theorem dX8_layRumour_27 : decode cX8_layRumour 27 = .ok (.aload_n 0, 1) := by decide +kernel
theorem dX8_layRumour_28 : decode cX8_layRumour 28 = .ok (.getfield 7, 3) := by decide +kernel
theorem dX8_layRumour_31 : decode cX8_layRumour 31 = .ok (.bipush 24, 2) := by decide +kernel
theorem dX8_layRumour_33 : decode cX8_layRumour 33 = .ok (.iconst 3, 1) := by decide +kernel
theorem dX8_layRumour_34 : decode cX8_layRumour 34 = .ok (.iload 4, 2) := by decide +kernel
theorem dX8_layRumour_36 : decode cX8_layRumour 36 = .ok (.imul, 1) := by decide +kernel
theorem dX8_layRumour_37 : decode cX8_layRumour 37 = .ok (.iadd, 1) := by decide +kernel
theorem dX8_layRumour_38 : decode cX8_layRumour 38 = .ok (.iconst 1, 1) := by decide +kernel
theorem dX8_layRumour_39 : decode cX8_layRumour 39 = .ok (.iadd, 1) := by decide +kernel
theorem dX8_layRumour_40 : decode cX8_layRumour 40 = .ok (.iaload, 1) := by decide +kernel
theorem dX8_layRumour_41 : decode cX8_layRumour 41 = .ok (.istore 5, 2) := by decide +kernel
theorem dX8_layRumour_43 : decode cX8_layRumour 43 = .ok (.aload_n 0, 1) := by decide +kernel
theorem dX8_layRumour_44 : decode cX8_layRumour 44 = .ok (.getfield 7, 3) := by decide +kernel
theorem dX8_layRumour_47 : decode cX8_layRumour 47 = .ok (.bipush 24, 2) := by decide +kernel
theorem dX8_layRumour_49 : decode cX8_layRumour 49 = .ok (.iconst 3, 1) := by decide +kernel
theorem dX8_layRumour_50 : decode cX8_layRumour 50 = .ok (.iload 4, 2) := by decide +kernel
theorem dX8_layRumour_52 : decode cX8_layRumour 52 = .ok (.imul, 1) := by decide +kernel
theorem dX8_layRumour_53 : decode cX8_layRumour 53 = .ok (.iadd, 1) := by decide +kernel
theorem dX8_layRumour_54 : decode cX8_layRumour 54 = .ok (.iconst 2, 1) := by decide +kernel
theorem dX8_layRumour_55 : decode cX8_layRumour 55 = .ok (.iadd, 1) := by decide +kernel
theorem dX8_layRumour_56 : decode cX8_layRumour 56 = .ok (.iaload, 1) := by decide +kernel
theorem dX8_layRumour_57 : decode cX8_layRumour 57 = .ok (.istore 6, 2) := by decide +kernel
theorem dX8_layRumour_59 : decode cX8_layRumour 59 = .ok (.aload_n 0, 1) := by decide +kernel
theorem dX8_layRumour_60 : decode cX8_layRumour 60 = .ok (.getfield 7, 3) := by decide +kernel
theorem dX8_layRumour_63 : decode cX8_layRumour 63 = .ok (.bipush 24, 2) := by decide +kernel
theorem dX8_layRumour_65 : decode cX8_layRumour 65 = .ok (.iconst 3, 1) := by decide +kernel
theorem dX8_layRumour_66 : decode cX8_layRumour 66 = .ok (.iload 4, 2) := by decide +kernel
theorem dX8_layRumour_68 : decode cX8_layRumour 68 = .ok (.imul, 1) := by decide +kernel
theorem dX8_layRumour_69 : decode cX8_layRumour 69 = .ok (.iadd, 1) := by decide +kernel
theorem dX8_layRumour_70 : decode cX8_layRumour 70 = .ok (.iaload, 1) := by decide +kernel
theorem dX8_layRumour_71 : decode cX8_layRumour 71 = .ok (.iload_n 3, 1) := by decide +kernel
theorem dX8_layRumour_72 : decode cX8_layRumour 72 = .ok (.if_icmp .ne 111, 3) := by decide +kernel
theorem dX8_layRumour_75 : decode cX8_layRumour 75 = .ok (.aload_n 0, 1) := by decide +kernel
theorem dX8_layRumour_76 : decode cX8_layRumour 76 = .ok (.iload 4, 2) := by decide +kernel
theorem dX8_layRumour_78 : decode cX8_layRumour 78 = .ok (.invokevirtual 219, 3) := by decide +kernel
theorem dX8_layRumour_81 : decode cX8_layRumour 81 = .ok (.ifCond .eq 102, 3) := by decide +kernel
theorem dX8_layRumour_84 : decode cX8_layRumour 84 = .ok (.aload_n 0, 1) := by decide +kernel
theorem dX8_layRumour_85 : decode cX8_layRumour 85 = .ok (.iload 5, 2) := by decide +kernel
theorem dX8_layRumour_87 : decode cX8_layRumour 87 = .ok (.invokevirtual 188, 3) := by decide +kernel
theorem dX8_layRumour_90 : decode cX8_layRumour 90 = .ok (.iconst 1, 1) := by decide +kernel
theorem dX8_layRumour_91 : decode cX8_layRumour 91 = .ok (.if_icmp .eq 13, 3) := by decide +kernel
theorem dX8_layRumour_94 : decode cX8_layRumour 94 = .ok (.aload_n 0, 1) := by decide +kernel
theorem dX8_layRumour_95 : decode cX8_layRumour 95 = .ok (.iload 6, 2) := by decide +kernel
theorem dX8_layRumour_97 : decode cX8_layRumour 97 = .ok (.invokevirtual 188, 3) := by decide +kernel
theorem dX8_layRumour_100 : decode cX8_layRumour 100 = .ok (.iconst 1, 1) := by decide +kernel
theorem dX8_layRumour_101 : decode cX8_layRumour 101 = .ok (.if_icmp .ne 7, 3) := by decide +kernel
theorem dX8_layRumour_104 : decode cX8_layRumour 104 = .ok (.iconst 1, 1) := by decide +kernel
theorem dX8_layRumour_105 : decode cX8_layRumour 105 = .ok (.goto 4, 3) := by decide +kernel
theorem dX8_layRumour_108 : decode cX8_layRumour 108 = .ok (.iconst 0, 1) := by decide +kernel
theorem dX8_layRumour_109 : decode cX8_layRumour 109 = .ok (.istore 7, 2) := by decide +kernel
theorem dX8_layRumour_111 : decode cX8_layRumour 111 = .ok (.iload_n 2, 1) := by decide +kernel
theorem dX8_layRumour_112 : decode cX8_layRumour 112 = .ok (.istore 8, 2) := by decide +kernel
theorem dX8_layRumour_114 : decode cX8_layRumour 114 = .ok (.iload_n 2, 1) := by decide +kernel
theorem dX8_layRumour_115 : decode cX8_layRumour 115 = .ok (.iload 8, 2) := by decide +kernel
theorem dX8_layRumour_117 : decode cX8_layRumour 117 = .ok (.iload 5, 2) := by decide +kernel
theorem dX8_layRumour_119 : decode cX8_layRumour 119 = .ok (.ishr, 1) := by decide +kernel
theorem dX8_layRumour_120 : decode cX8_layRumour 120 = .ok (.iconst 1, 1) := by decide +kernel
theorem dX8_layRumour_121 : decode cX8_layRumour 121 = .ok (.iand, 1) := by decide +kernel
theorem dX8_layRumour_122 : decode cX8_layRumour 122 = .ok (.iconst 1, 1) := by decide +kernel
theorem dX8_layRumour_123 : decode cX8_layRumour 123 = .ok (.if_icmp .ne 20, 3) := by decide +kernel
theorem dX8_layRumour_126 : decode cX8_layRumour 126 = .ok (.aload_n 0, 1) := by decide +kernel
theorem dX8_layRumour_127 : decode cX8_layRumour 127 = .ok (.iload 6, 2) := by decide +kernel
theorem dX8_layRumour_129 : decode cX8_layRumour 129 = .ok (.invokevirtual 188, 3) := by decide +kernel
theorem dX8_layRumour_132 : decode cX8_layRumour 132 = .ok (.iconst 2, 1) := by decide +kernel
theorem dX8_layRumour_133 : decode cX8_layRumour 133 = .ok (.if_icmp .eq 10, 3) := by decide +kernel
theorem dX8_layRumour_136 : decode cX8_layRumour 136 = .ok (.iconst 1, 1) := by decide +kernel
theorem dX8_layRumour_137 : decode cX8_layRumour 137 = .ok (.iload 6, 2) := by decide +kernel
theorem dX8_layRumour_139 : decode cX8_layRumour 139 = .ok (.ishl, 1) := by decide +kernel
theorem dX8_layRumour_140 : decode cX8_layRumour 140 = .ok (.goto 4, 3) := by decide +kernel
theorem dX8_layRumour_143 : decode cX8_layRumour 143 = .ok (.iconst 0, 1) := by decide +kernel
theorem dX8_layRumour_144 : decode cX8_layRumour 144 = .ok (.ior, 1) := by decide +kernel
theorem dX8_layRumour_145 : decode cX8_layRumour 145 = .ok (.istore_n 2, 1) := by decide +kernel
theorem dX8_layRumour_146 : decode cX8_layRumour 146 = .ok (.iload_n 2, 1) := by decide +kernel
theorem dX8_layRumour_147 : decode cX8_layRumour 147 = .ok (.iload 7, 2) := by decide +kernel
theorem dX8_layRumour_149 : decode cX8_layRumour 149 = .ok (.ifCond .eq 31, 3) := by decide +kernel
theorem dX8_layRumour_152 : decode cX8_layRumour 152 = .ok (.iload 8, 2) := by decide +kernel
theorem dX8_layRumour_154 : decode cX8_layRumour 154 = .ok (.iload 6, 2) := by decide +kernel
theorem dX8_layRumour_156 : decode cX8_layRumour 156 = .ok (.ishr, 1) := by decide +kernel
theorem dX8_layRumour_157 : decode cX8_layRumour 157 = .ok (.iconst 1, 1) := by decide +kernel
theorem dX8_layRumour_158 : decode cX8_layRumour 158 = .ok (.iand, 1) := by decide +kernel
theorem dX8_layRumour_159 : decode cX8_layRumour 159 = .ok (.iconst 1, 1) := by decide +kernel
theorem dX8_layRumour_160 : decode cX8_layRumour 160 = .ok (.if_icmp .ne 20, 3) := by decide +kernel
theorem dX8_layRumour_163 : decode cX8_layRumour 163 = .ok (.aload_n 0, 1) := by decide +kernel
theorem dX8_layRumour_164 : decode cX8_layRumour 164 = .ok (.iload 5, 2) := by decide +kernel
theorem dX8_layRumour_166 : decode cX8_layRumour 166 = .ok (.invokevirtual 188, 3) := by decide +kernel
theorem dX8_layRumour_169 : decode cX8_layRumour 169 = .ok (.iconst 2, 1) := by decide +kernel
theorem dX8_layRumour_170 : decode cX8_layRumour 170 = .ok (.if_icmp .eq 10, 3) := by decide +kernel
theorem dX8_layRumour_173 : decode cX8_layRumour 173 = .ok (.iconst 1, 1) := by decide +kernel
theorem dX8_layRumour_174 : decode cX8_layRumour 174 = .ok (.iload 5, 2) := by decide +kernel
theorem dX8_layRumour_176 : decode cX8_layRumour 176 = .ok (.ishl, 1) := by decide +kernel
theorem dX8_layRumour_177 : decode cX8_layRumour 177 = .ok (.goto 4, 3) := by decide +kernel
theorem dX8_layRumour_180 : decode cX8_layRumour 180 = .ok (.iconst 0, 1) := by decide +kernel
theorem dX8_layRumour_181 : decode cX8_layRumour 181 = .ok (.ior, 1) := by decide +kernel
theorem dX8_layRumour_182 : decode cX8_layRumour 182 = .ok (.istore_n 2, 1) := by decide +kernel
theorem dX8_layRumour_183 : decode cX8_layRumour 183 = .ok (.iinc 4 1, 3) := by decide +kernel
theorem dX8_layRumour_186 : decode cX8_layRumour 186 = .ok (.goto (-171), 3) := by decide +kernel
theorem dX8_layRumour_189 : decode cX8_layRumour 189 = .ok (.aload_n 0, 1) := by decide +kernel
theorem dX8_layRumour_190 : decode cX8_layRumour 190 = .ok (.getfield 34, 3) := by decide +kernel
theorem dX8_layRumour_193 : decode cX8_layRumour 193 = .ok (.iload_n 3, 1) := by decide +kernel
theorem dX8_layRumour_194 : decode cX8_layRumour 194 = .ok (.iload_n 2, 1) := by decide +kernel
theorem dX8_layRumour_195 : decode cX8_layRumour 195 = .ok (.iastore, 1) := by decide +kernel
theorem dX8_layRumour_196 : decode cX8_layRumour 196 = .ok (.iinc 3 1, 3) := by decide +kernel
theorem dX8_layRumour_199 : decode cX8_layRumour 199 = .ok (.goto (-193), 3) := by decide +kernel
theorem dX8_layRumour_202 : decode cX8_layRumour 202 = .ok (.return_, 1) := by decide +kernel
theorem dX8_knows_0 : decode cX8_knows 0 = .ok (.aload_n 0, 1) := by decide +kernel
theorem dX8_knows_1 : decode cX8_knows 1 = .ok (.iload_n 1, 1) := by decide +kernel
theorem dX8_knows_2 : decode cX8_knows 2 = .ok (.invokevirtual 180, 3) := by decide +kernel
end
section
theorem dX8_knows_5 : decode cX8_knows 5 = .ok (.ifCond .eq 10, 3) := by decide +kernel
theorem dX8_knows_8 : decode cX8_knows 8 = .ok (.iload_n 2, 1) := by decide +kernel
theorem dX8_knows_9 : decode cX8_knows 9 = .ok (.invokestatic 222, 3) := by decide +kernel
theorem dX8_knows_12 : decode cX8_knows 12 = .ok (.ifCond .ne 5, 3) := by decide +kernel
theorem dX8_knows_15 : decode cX8_knows 15 = .ok (.iconst (-1), 1) := by decide +kernel
theorem dX8_knows_16 : decode cX8_knows 16 = .ok (.ireturn, 1) := by decide +kernel
theorem dX8_knows_17 : decode cX8_knows 17 = .ok (.aload_n 0, 1) := by decide +kernel
theorem dX8_knows_18 : decode cX8_knows 18 = .ok (.iload_n 1, 1) := by decide +kernel
theorem dX8_knows_19 : decode cX8_knows 19 = .ok (.invokevirtual 233, 3) := by decide +kernel
theorem dX8_knows_22 : decode cX8_knows 22 = .ok (.aload_n 0, 1) := by decide +kernel
theorem dX8_knows_23 : decode cX8_knows 23 = .ok (.getfield 34, 3) := by decide +kernel
theorem dX8_knows_26 : decode cX8_knows 26 = .ok (.iload_n 2, 1) := by decide +kernel
theorem dX8_knows_27 : decode cX8_knows 27 = .ok (.iaload, 1) := by decide +kernel
theorem dX8_knows_28 : decode cX8_knows 28 = .ok (.ireturn, 1) := by decide +kernel
theorem dX8_learnsIn_0 : decode cX8_learnsIn 0 = .ok (.aload_n 0, 1) := by decide +kernel
theorem dX8_learnsIn_1 : decode cX8_learnsIn 1 = .ok (.iload_n 1, 1) := by decide +kernel
theorem dX8_learnsIn_2 : decode cX8_learnsIn 2 = .ok (.invokevirtual 233, 3) := by decide +kernel
theorem dX8_learnsIn_5 : decode cX8_learnsIn 5 = .ok (.iconst 0, 1) := by decide +kernel
theorem dX8_learnsIn_6 : decode cX8_learnsIn 6 = .ok (.istore_n 3, 1) := by decide +kernel
theorem dX8_learnsIn_7 : decode cX8_learnsIn 7 = .ok (.iload_n 3, 1) := by decide +kernel
theorem dX8_learnsIn_8 : decode cX8_learnsIn 8 = .ok (.bipush 12, 2) := by decide +kernel
theorem dX8_learnsIn_10 : decode cX8_learnsIn 10 = .ok (.if_icmp .ge 34, 3) := by decide +kernel
theorem dX8_learnsIn_13 : decode cX8_learnsIn 13 = .ok (.aload_n 0, 1) := by decide +kernel
theorem dX8_learnsIn_14 : decode cX8_learnsIn 14 = .ok (.getfield 34, 3) := by decide +kernel
theorem dX8_learnsIn_17 : decode cX8_learnsIn 17 = .ok (.iload_n 3, 1) := by decide +kernel
theorem dX8_learnsIn_18 : decode cX8_learnsIn 18 = .ok (.iaload, 1) := by decide +kernel
theorem dX8_learnsIn_19 : decode cX8_learnsIn 19 = .ok (.iload_n 2, 1) := by decide +kernel
theorem dX8_learnsIn_20 : decode cX8_learnsIn 20 = .ok (.ishr, 1) := by decide +kernel
theorem dX8_learnsIn_21 : decode cX8_learnsIn 21 = .ok (.iconst 1, 1) := by decide +kernel
theorem dX8_learnsIn_22 : decode cX8_learnsIn 22 = .ok (.iand, 1) := by decide +kernel
theorem dX8_learnsIn_23 : decode cX8_learnsIn 23 = .ok (.iconst 1, 1) := by decide +kernel
theorem dX8_learnsIn_24 : decode cX8_learnsIn 24 = .ok (.if_icmp .ne 14, 3) := by decide +kernel
theorem dX8_learnsIn_27 : decode cX8_learnsIn 27 = .ok (.iload_n 1, 1) := by decide +kernel
theorem dX8_learnsIn_28 : decode cX8_learnsIn 28 = .ok (.iload_n 2, 1) := by decide +kernel
theorem dX8_learnsIn_29 : decode cX8_learnsIn 29 = .ok (.if_icmp .ne 7, 3) := by decide +kernel
theorem dX8_learnsIn_32 : decode cX8_learnsIn 32 = .ok (.iconst 0, 1) := by decide +kernel
theorem dX8_learnsIn_33 : decode cX8_learnsIn 33 = .ok (.goto 4, 3) := by decide +kernel
theorem dX8_learnsIn_36 : decode cX8_learnsIn 36 = .ok (.iload_n 3, 1) := by decide +kernel
theorem dX8_learnsIn_37 : decode cX8_learnsIn 37 = .ok (.ireturn, 1) := by decide +kernel
theorem dX8_learnsIn_38 : decode cX8_learnsIn 38 = .ok (.iinc 3 1, 3) := by decide +kernel
theorem dX8_learnsIn_41 : decode cX8_learnsIn 41 = .ok (.goto (-34), 3) := by decide +kernel
theorem dX8_learnsIn_44 : decode cX8_learnsIn 44 = .ok (.bipush (-4), 2) := by decide +kernel
theorem dX8_learnsIn_46 : decode cX8_learnsIn 46 = .ok (.ireturn, 1) := by decide +kernel
theorem dX8_learns_0 : decode cX8_learns 0 = .ok (.aload_n 0, 1) := by decide +kernel
theorem dX8_learns_1 : decode cX8_learns 1 = .ok (.iload_n 1, 1) := by decide +kernel
theorem dX8_learns_2 : decode cX8_learns 2 = .ok (.invokevirtual 180, 3) := by decide +kernel
theorem dX8_learns_5 : decode cX8_learns 5 = .ok (.ifCond .eq 20, 3) := by decide +kernel
theorem dX8_learns_8 : decode cX8_learns 8 = .ok (.aload_n 0, 1) := by decide +kernel
theorem dX8_learns_9 : decode cX8_learns 9 = .ok (.iload_n 2, 1) := by decide +kernel
theorem dX8_learns_10 : decode cX8_learns 10 = .ok (.invokevirtual 180, 3) := by decide +kernel
theorem dX8_learns_13 : decode cX8_learns 13 = .ok (.ifCond .eq 12, 3) := by decide +kernel
theorem dX8_learns_16 : decode cX8_learns 16 = .ok (.aload_n 0, 1) := by decide +kernel
theorem dX8_learns_17 : decode cX8_learns 17 = .ok (.iload_n 1, 1) := by decide +kernel
theorem dX8_learns_18 : decode cX8_learns 18 = .ok (.iload_n 2, 1) := by decide +kernel
theorem dX8_learns_19 : decode cX8_learns 19 = .ok (.invokevirtual 236, 3) := by decide +kernel
theorem dX8_learns_22 : decode cX8_learns 22 = .ok (.goto 4, 3) := by decide +kernel
theorem dX8_learns_25 : decode cX8_learns 25 = .ok (.iconst (-1), 1) := by decide +kernel
theorem dX8_learns_26 : decode cX8_learns 26 = .ok (.ireturn, 1) := by decide +kernel
theorem dX8_hush_0 : decode cX8_hush 0 = .ok (.aload_n 0, 1) := by decide +kernel
theorem dX8_hush_1 : decode cX8_hush 1 = .ok (.iload_n 1, 1) := by decide +kernel
theorem dX8_hush_2 : decode cX8_hush 2 = .ok (.iload_n 2, 1) := by decide +kernel
theorem dX8_hush_3 : decode cX8_hush 3 = .ok (.invokevirtual 225, 3) := by decide +kernel
theorem dX8_hush_6 : decode cX8_hush 6 = .ok (.ifCond .eq 13, 3) := by decide +kernel
theorem dX8_hush_9 : decode cX8_hush 9 = .ok (.iload_n 3, 1) := by decide +kernel
theorem dX8_hush_10 : decode cX8_hush 10 = .ok (.i2l, 1) := by decide +kernel
theorem dX8_hush_11 : decode cX8_hush 11 = .ok (.lconst 0, 1) := by decide +kernel
theorem dX8_hush_12 : decode cX8_hush 12 = .ok (.lconst 1, 1) := by decide +kernel
theorem dX8_hush_13 : decode cX8_hush 13 = .ok (.invokestatic 69, 3) := by decide +kernel
theorem dX8_hush_16 : decode cX8_hush 16 = .ok (.ifCond .ne 5, 3) := by decide +kernel
theorem dX8_hush_19 : decode cX8_hush 19 = .ok (.iconst (-1), 1) := by decide +kernel
theorem dX8_hush_20 : decode cX8_hush 20 = .ok (.ireturn, 1) := by decide +kernel
theorem dX8_hush_21 : decode cX8_hush 21 = .ok (.aload_n 0, 1) := by decide +kernel
theorem dX8_hush_22 : decode cX8_hush 22 = .ok (.iload_n 1, 1) := by decide +kernel
theorem dX8_hush_23 : decode cX8_hush 23 = .ok (.iload_n 2, 1) := by decide +kernel
theorem dX8_hush_24 : decode cX8_hush 24 = .ok (.invokevirtual 236, 3) := by decide +kernel
theorem dX8_hush_27 : decode cX8_hush 27 = .ok (.bipush (-4), 2) := by decide +kernel
theorem dX8_hush_29 : decode cX8_hush 29 = .ok (.if_icmp .ne 6, 3) := by decide +kernel
theorem dX8_hush_32 : decode cX8_hush 32 = .ok (.bipush (-2), 2) := by decide +kernel
theorem dX8_hush_34 : decode cX8_hush 34 = .ok (.ireturn, 1) := by decide +kernel
theorem dX8_hush_35 : decode cX8_hush 35 = .ok (.iconst 0, 1) := by decide +kernel
theorem dX8_hush_36 : decode cX8_hush 36 = .ok (.istore 4, 2) := by decide +kernel
theorem dX8_hush_38 : decode cX8_hush 38 = .ok (.iload 4, 2) := by decide +kernel
theorem dX8_hush_40 : decode cX8_hush 40 = .ok (.bipush 12, 2) := by decide +kernel
theorem dX8_hush_42 : decode cX8_hush 42 = .ok (.aload_n 0, 1) := by decide +kernel
theorem dX8_hush_43 : decode cX8_hush 43 = .ok (.getfield 169, 3) := by decide +kernel
theorem dX8_hush_46 : decode cX8_hush 46 = .ok (.imul, 1) := by decide +kernel
theorem dX8_hush_47 : decode cX8_hush 47 = .ok (.if_icmp .ge 93, 3) := by decide +kernel
theorem dX8_hush_50 : decode cX8_hush 50 = .ok (.iload 4, 2) := by decide +kernel
theorem dX8_hush_52 : decode cX8_hush 52 = .ok (.bipush 12, 2) := by decide +kernel
theorem dX8_hush_54 : decode cX8_hush 54 = .ok (.idiv, 1) := by decide +kernel
theorem dX8_hush_55 : decode cX8_hush 55 = .ok (.istore 5, 2) := by decide +kernel
theorem dX8_hush_57 : decode cX8_hush 57 = .ok (.aload_n 0, 1) := by decide +kernel
theorem dX8_hush_58 : decode cX8_hush 58 = .ok (.iload 5, 2) := by decide +kernel
theorem dX8_hush_60 : decode cX8_hush 60 = .ok (.invokevirtual 203, 3) := by decide +kernel
theorem dX8_hush_63 : decode cX8_hush 63 = .ok (.ifCond .ne 71, 3) := by decide +kernel
theorem dX8_hush_66 : decode cX8_hush 66 = .ok (.aload_n 0, 1) := by decide +kernel
theorem dX8_hush_67 : decode cX8_hush 67 = .ok (.getfield 7, 3) := by decide +kernel
theorem dX8_hush_70 : decode cX8_hush 70 = .ok (.iconst 4, 1) := by decide +kernel
theorem dX8_hush_71 : decode cX8_hush 71 = .ok (.iload 5, 2) := by decide +kernel
theorem dX8_hush_73 : decode cX8_hush 73 = .ok (.imul, 1) := by decide +kernel
theorem dX8_hush_74 : decode cX8_hush 74 = .ok (.iconst 3, 1) := by decide +kernel
theorem dX8_hush_75 : decode cX8_hush 75 = .ok (.iadd, 1) := by decide +kernel
theorem dX8_hush_76 : decode cX8_hush 76 = .ok (.iconst 1, 1) := by decide +kernel
theorem dX8_hush_77 : decode cX8_hush 77 = .ok (.iload 4, 2) := by decide +kernel
theorem dX8_hush_79 : decode cX8_hush 79 = .ok (.bipush 12, 2) := by decide +kernel
theorem dX8_hush_81 : decode cX8_hush 81 = .ok (.irem, 1) := by decide +kernel
theorem dX8_hush_82 : decode cX8_hush 82 = .ok (.iadd, 1) := by decide +kernel
theorem dX8_hush_83 : decode cX8_hush 83 = .ok (.iastore, 1) := by decide +kernel
theorem dX8_hush_84 : decode cX8_hush 84 = .ok (.aload_n 0, 1) := by decide +kernel
theorem dX8_hush_85 : decode cX8_hush 85 = .ok (.iload_n 1, 1) := by decide +kernel
theorem dX8_hush_86 : decode cX8_hush 86 = .ok (.iload_n 2, 1) := by decide +kernel
theorem dX8_hush_87 : decode cX8_hush 87 = .ok (.invokevirtual 236, 3) := by decide +kernel
theorem dX8_hush_90 : decode cX8_hush 90 = .ok (.bipush (-4), 2) := by decide +kernel
theorem dX8_hush_92 : decode cX8_hush 92 = .ok (.if_icmp .ne 7, 3) := by decide +kernel
theorem dX8_hush_95 : decode cX8_hush 95 = .ok (.iconst 1, 1) := by decide +kernel
theorem dX8_hush_96 : decode cX8_hush 96 = .ok (.goto 4, 3) := by decide +kernel
theorem dX8_hush_99 : decode cX8_hush 99 = .ok (.iconst 0, 1) := by decide +kernel
theorem dX8_hush_100 : decode cX8_hush 100 = .ok (.istore 6, 2) := by decide +kernel
theorem dX8_hush_102 : decode cX8_hush 102 = .ok (.aload_n 0, 1) := by decide +kernel
theorem dX8_hush_103 : decode cX8_hush 103 = .ok (.getfield 7, 3) := by decide +kernel
theorem dX8_hush_106 : decode cX8_hush 106 = .ok (.iconst 4, 1) := by decide +kernel
theorem dX8_hush_107 : decode cX8_hush 107 = .ok (.iload 5, 2) := by decide +kernel
theorem dX8_hush_109 : decode cX8_hush 109 = .ok (.imul, 1) := by decide +kernel
theorem dX8_hush_110 : decode cX8_hush 110 = .ok (.iconst 3, 1) := by decide +kernel
theorem dX8_hush_111 : decode cX8_hush 111 = .ok (.iadd, 1) := by decide +kernel
theorem dX8_hush_112 : decode cX8_hush 112 = .ok (.iconst 0, 1) := by decide +kernel
theorem dX8_hush_113 : decode cX8_hush 113 = .ok (.iastore, 1) := by decide +kernel
theorem dX8_hush_114 : decode cX8_hush 114 = .ok (.iload 6, 2) := by decide +kernel
theorem dX8_hush_116 : decode cX8_hush 116 = .ok (.ifCond .eq 18, 3) := by decide +kernel
theorem dX8_hush_119 : decode cX8_hush 119 = .ok (.iload_n 3, 1) := by decide +kernel
theorem dX8_hush_120 : decode cX8_hush 120 = .ok (.ifCond .ne 8, 3) := by decide +kernel
theorem dX8_hush_123 : decode cX8_hush 123 = .ok (.iload 5, 2) := by decide +kernel
theorem dX8_hush_125 : decode cX8_hush 125 = .ok (.goto 8, 3) := by decide +kernel
theorem dX8_hush_128 : decode cX8_hush 128 = .ok (.iload 4, 2) := by decide +kernel
theorem dX8_hush_130 : decode cX8_hush 130 = .ok (.bipush 12, 2) := by decide +kernel
theorem dX8_hush_132 : decode cX8_hush 132 = .ok (.irem, 1) := by decide +kernel
theorem dX8_hush_133 : decode cX8_hush 133 = .ok (.ireturn, 1) := by decide +kernel
theorem dX8_hush_134 : decode cX8_hush 134 = .ok (.iinc 4 1, 3) := by decide +kernel
theorem dX8_hush_137 : decode cX8_hush 137 = .ok (.goto (-99), 3) := by decide +kernel
theorem dX8_hush_140 : decode cX8_hush 140 = .ok (.bipush (-4), 2) := by decide +kernel
theorem dX8_hush_142 : decode cX8_hush 142 = .ok (.ireturn, 1) := by decide +kernel
theorem dX8_hear_0 : decode cX8_hear 0 = .ok (.aload_n 0, 1) := by decide +kernel
theorem dX8_hear_1 : decode cX8_hear 1 = .ok (.iload_n 1, 1) := by decide +kernel
theorem dX8_hear_2 : decode cX8_hear 2 = .ok (.invokevirtual 180, 3) := by decide +kernel
theorem dX8_hear_5 : decode cX8_hear 5 = .ok (.ifCond .ne 5, 3) := by decide +kernel
theorem dX8_hear_8 : decode cX8_hear 8 = .ok (.iconst (-1), 1) := by decide +kernel
theorem dX8_hear_9 : decode cX8_hear 9 = .ok (.ireturn, 1) := by decide +kernel
theorem dX8_hear_10 : decode cX8_hear 10 = .ok (.aload_n 0, 1) := by decide +kernel
theorem dX8_hear_11 : decode cX8_hear 11 = .ok (.getfield 172, 3) := by decide +kernel
theorem dX8_hear_14 : decode cX8_hear 14 = .ok (.bipush 6, 2) := by decide +kernel
theorem dX8_hear_16 : decode cX8_hear 16 = .ok (.if_icmp .ne 6, 3) := by decide +kernel
theorem dX8_hear_19 : decode cX8_hear 19 = .ok (.bipush (-3), 2) := by decide +kernel
theorem dX8_hear_21 : decode cX8_hear 21 = .ok (.ireturn, 1) := by decide +kernel
theorem dX8_hear_22 : decode cX8_hear 22 = .ok (.aload_n 0, 1) := by decide +kernel
theorem dX8_hear_23 : decode cX8_hear 23 = .ok (.getfield 37, 3) := by decide +kernel
theorem dX8_hear_26 : decode cX8_hear 26 = .ok (.iconst 2, 1) := by decide +kernel
theorem dX8_hear_27 : decode cX8_hear 27 = .ok (.aload_n 0, 1) := by decide +kernel
theorem dX8_hear_28 : decode cX8_hear 28 = .ok (.getfield 172, 3) := by decide +kernel
theorem dX8_hear_31 : decode cX8_hear 31 = .ok (.imul, 1) := by decide +kernel
theorem dX8_hear_32 : decode cX8_hear 32 = .ok (.iload_n 1, 1) := by decide +kernel
theorem dX8_hear_33 : decode cX8_hear 33 = .ok (.iastore, 1) := by decide +kernel
theorem dX8_hear_34 : decode cX8_hear 34 = .ok (.aload_n 0, 1) := by decide +kernel
theorem dX8_hear_35 : decode cX8_hear 35 = .ok (.getfield 37, 3) := by decide +kernel
theorem dX8_hear_38 : decode cX8_hear 38 = .ok (.iconst 2, 1) := by decide +kernel
theorem dX8_hear_39 : decode cX8_hear 39 = .ok (.aload_n 0, 1) := by decide +kernel
theorem dX8_hear_40 : decode cX8_hear 40 = .ok (.getfield 172, 3) := by decide +kernel
theorem dX8_hear_43 : decode cX8_hear 43 = .ok (.imul, 1) := by decide +kernel
theorem dX8_hear_44 : decode cX8_hear 44 = .ok (.iconst 1, 1) := by decide +kernel
theorem dX8_hear_45 : decode cX8_hear 45 = .ok (.iadd, 1) := by decide +kernel
theorem dX8_hear_46 : decode cX8_hear 46 = .ok (.iload_n 2, 1) := by decide +kernel
theorem dX8_hear_47 : decode cX8_hear 47 = .ok (.ifCond .eq 7, 3) := by decide +kernel
theorem dX8_hear_50 : decode cX8_hear 50 = .ok (.iconst 1, 1) := by decide +kernel
theorem dX8_hear_51 : decode cX8_hear 51 = .ok (.goto 4, 3) := by decide +kernel
theorem dX8_hear_54 : decode cX8_hear 54 = .ok (.iconst 0, 1) := by decide +kernel
theorem dX8_hear_55 : decode cX8_hear 55 = .ok (.iastore, 1) := by decide +kernel
theorem dX8_hear_56 : decode cX8_hear 56 = .ok (.aload_n 0, 1) := by decide +kernel
theorem dX8_hear_57 : decode cX8_hear 57 = .ok (.dup, 1) := by decide +kernel
theorem dX8_hear_58 : decode cX8_hear 58 = .ok (.getfield 172, 3) := by decide +kernel
theorem dX8_hear_61 : decode cX8_hear 61 = .ok (.iconst 1, 1) := by decide +kernel
theorem dX8_hear_62 : decode cX8_hear 62 = .ok (.iadd, 1) := by decide +kernel
theorem dX8_hear_63 : decode cX8_hear 63 = .ok (.putfield 172, 3) := by decide +kernel
theorem dX8_hear_66 : decode cX8_hear 66 = .ok (.aload_n 0, 1) := by decide +kernel
theorem dX8_hear_67 : decode cX8_hear 67 = .ok (.getfield 172, 3) := by decide +kernel
theorem dX8_hear_70 : decode cX8_hear 70 = .ok (.ireturn, 1) := by decide +kernel
theorem dX8_forget_0 : decode cX8_forget 0 = .ok (.iload_n 1, 1) := by decide +kernel
theorem dX8_forget_1 : decode cX8_forget 1 = .ok (.i2l, 1) := by decide +kernel
theorem dX8_forget_2 : decode cX8_forget 2 = .ok (.lconst 0, 1) := by decide +kernel
theorem dX8_forget_3 : decode cX8_forget 3 = .ok (.aload_n 0, 1) := by decide +kernel
theorem dX8_forget_4 : decode cX8_forget 4 = .ok (.getfield 172, 3) := by decide +kernel
theorem dX8_forget_7 : decode cX8_forget 7 = .ok (.i2l, 1) := by decide +kernel
theorem dX8_forget_8 : decode cX8_forget 8 = .ok (.invokestatic 69, 3) := by decide +kernel
theorem dX8_forget_11 : decode cX8_forget 11 = .ok (.ifCond .ne 5, 3) := by decide +kernel
theorem dX8_forget_14 : decode cX8_forget 14 = .ok (.iconst (-1), 1) := by decide +kernel
theorem dX8_forget_15 : decode cX8_forget 15 = .ok (.ireturn, 1) := by decide +kernel
theorem dX8_forget_16 : decode cX8_forget 16 = .ok (.aload_n 0, 1) := by decide +kernel
theorem dX8_forget_17 : decode cX8_forget 17 = .ok (.getfield 172, 3) := by decide +kernel
theorem dX8_forget_20 : decode cX8_forget 20 = .ok (.istore_n 2, 1) := by decide +kernel
theorem dX8_forget_21 : decode cX8_forget 21 = .ok (.aload_n 0, 1) := by decide +kernel
theorem dX8_forget_22 : decode cX8_forget 22 = .ok (.iload_n 1, 1) := by decide +kernel
theorem dX8_forget_23 : decode cX8_forget 23 = .ok (.putfield 172, 3) := by decide +kernel
theorem dX8_forget_26 : decode cX8_forget 26 = .ok (.iload_n 2, 1) := by decide +kernel
theorem dX8_forget_27 : decode cX8_forget 27 = .ok (.ireturn, 1) := by decide +kernel
theorem dX8_first_0 : decode cX8_first 0 = .ok (.iconst 0, 1) := by decide +kernel
theorem dX8_first_1 : decode cX8_first 1 = .ok (.istore_n 1, 1) := by decide +kernel
theorem dX8_first_2 : decode cX8_first 2 = .ok (.iconst 0, 1) := by decide +kernel
theorem dX8_first_3 : decode cX8_first 3 = .ok (.istore_n 2, 1) := by decide +kernel
theorem dX8_first_4 : decode cX8_first 4 = .ok (.iload_n 2, 1) := by decide +kernel
theorem dX8_first_5 : decode cX8_first 5 = .ok (.aload_n 0, 1) := by decide +kernel
theorem dX8_first_6 : decode cX8_first 6 = .ok (.getfield 166, 3) := by decide +kernel
theorem dX8_first_9 : decode cX8_first 9 = .ok (.if_icmp .ge 91, 3) := by decide +kernel
theorem dX8_first_12 : decode cX8_first 12 = .ok (.aload_n 0, 1) := by decide +kernel
theorem dX8_first_13 : decode cX8_first 13 = .ok (.iload_n 2, 1) := by decide +kernel
theorem dX8_first_14 : decode cX8_first 14 = .ok (.invokevirtual 233, 3) := by decide +kernel
theorem dX8_first_17 : decode cX8_first 17 = .ok (.iconst 1, 1) := by decide +kernel
theorem dX8_first_18 : decode cX8_first 18 = .ok (.istore_n 3, 1) := by decide +kernel
theorem dX8_first_19 : decode cX8_first 19 = .ok (.iconst 0, 1) := by decide +kernel
theorem dX8_first_20 : decode cX8_first 20 = .ok (.istore 4, 2) := by decide +kernel
theorem dX8_first_22 : decode cX8_first 22 = .ok (.iload 4, 2) := by decide +kernel
theorem dX8_first_24 : decode cX8_first 24 = .ok (.aload_n 0, 1) := by decide +kernel
theorem dX8_first_25 : decode cX8_first 25 = .ok (.getfield 172, 3) := by decide +kernel
theorem dX8_first_28 : decode cX8_first 28 = .ok (.if_icmp .ge 52, 3) := by decide +kernel
theorem dX8_first_31 : decode cX8_first 31 = .ok (.iload_n 3, 1) := by decide +kernel
theorem dX8_first_32 : decode cX8_first 32 = .ok (.ifCond .eq 40, 3) := by decide +kernel
theorem dX8_first_35 : decode cX8_first 35 = .ok (.aload_n 0, 1) := by decide +kernel
theorem dX8_first_36 : decode cX8_first 36 = .ok (.getfield 34, 3) := by decide +kernel
theorem dX8_first_39 : decode cX8_first 39 = .ok (.bipush 11, 2) := by decide +kernel
theorem dX8_first_41 : decode cX8_first 41 = .ok (.iaload, 1) := by decide +kernel
theorem dX8_first_42 : decode cX8_first 42 = .ok (.aload_n 0, 1) := by decide +kernel
theorem dX8_first_43 : decode cX8_first 43 = .ok (.getfield 37, 3) := by decide +kernel
theorem dX8_first_46 : decode cX8_first 46 = .ok (.iconst 2, 1) := by decide +kernel
theorem dX8_first_47 : decode cX8_first 47 = .ok (.iload 4, 2) := by decide +kernel
theorem dX8_first_49 : decode cX8_first 49 = .ok (.imul, 1) := by decide +kernel
theorem dX8_first_50 : decode cX8_first 50 = .ok (.iaload, 1) := by decide +kernel
theorem dX8_first_51 : decode cX8_first 51 = .ok (.ishr, 1) := by decide +kernel
theorem dX8_first_52 : decode cX8_first 52 = .ok (.iconst 1, 1) := by decide +kernel
theorem dX8_first_53 : decode cX8_first 53 = .ok (.iand, 1) := by decide +kernel
theorem dX8_first_54 : decode cX8_first 54 = .ok (.aload_n 0, 1) := by decide +kernel
theorem dX8_first_55 : decode cX8_first 55 = .ok (.getfield 37, 3) := by decide +kernel
theorem dX8_first_58 : decode cX8_first 58 = .ok (.iconst 2, 1) := by decide +kernel
theorem dX8_first_59 : decode cX8_first 59 = .ok (.iload 4, 2) := by decide +kernel
theorem dX8_first_61 : decode cX8_first 61 = .ok (.imul, 1) := by decide +kernel
theorem dX8_first_62 : decode cX8_first 62 = .ok (.iconst 1, 1) := by decide +kernel
theorem dX8_first_63 : decode cX8_first 63 = .ok (.iadd, 1) := by decide +kernel
theorem dX8_first_64 : decode cX8_first 64 = .ok (.iaload, 1) := by decide +kernel
theorem dX8_first_65 : decode cX8_first 65 = .ok (.if_icmp .ne 7, 3) := by decide +kernel
theorem dX8_first_68 : decode cX8_first 68 = .ok (.iconst 1, 1) := by decide +kernel
theorem dX8_first_69 : decode cX8_first 69 = .ok (.goto 4, 3) := by decide +kernel
theorem dX8_first_72 : decode cX8_first 72 = .ok (.iconst 0, 1) := by decide +kernel
theorem dX8_first_73 : decode cX8_first 73 = .ok (.istore_n 3, 1) := by decide +kernel
theorem dX8_first_74 : decode cX8_first 74 = .ok (.iinc 4 1, 3) := by decide +kernel
theorem dX8_first_77 : decode cX8_first 77 = .ok (.goto (-55), 3) := by decide +kernel
theorem dX8_first_80 : decode cX8_first 80 = .ok (.iload_n 1, 1) := by decide +kernel
theorem dX8_first_81 : decode cX8_first 81 = .ok (.iload_n 3, 1) := by decide +kernel
theorem dX8_first_82 : decode cX8_first 82 = .ok (.ifCond .eq 9, 3) := by decide +kernel
theorem dX8_first_85 : decode cX8_first 85 = .ok (.iconst 1, 1) := by decide +kernel
theorem dX8_first_86 : decode cX8_first 86 = .ok (.iload_n 2, 1) := by decide +kernel
theorem dX8_first_87 : decode cX8_first 87 = .ok (.ishl, 1) := by decide +kernel
theorem dX8_first_88 : decode cX8_first 88 = .ok (.goto 4, 3) := by decide +kernel
theorem dX8_first_91 : decode cX8_first 91 = .ok (.iconst 0, 1) := by decide +kernel
theorem dX8_first_92 : decode cX8_first 92 = .ok (.ior, 1) := by decide +kernel
theorem dX8_first_93 : decode cX8_first 93 = .ok (.istore_n 1, 1) := by decide +kernel
theorem dX8_first_94 : decode cX8_first 94 = .ok (.iinc 2 1, 3) := by decide +kernel
theorem dX8_first_97 : decode cX8_first 97 = .ok (.goto (-93), 3) := by decide +kernel
theorem dX8_first_100 : decode cX8_first 100 = .ok (.iload_n 1, 1) := by decide +kernel
theorem dX8_first_101 : decode cX8_first 101 = .ok (.ireturn, 1) := by decide +kernel
theorem dX8_funeralCost_0 : decode cX8_funeralCost 0 = .ok (.iload_n 1, 1) := by decide +kernel
theorem dX8_funeralCost_1 : decode cX8_funeralCost 1 = .ok (.istore 4, 2) := by decide +kernel
theorem dX8_funeralCost_3 : decode cX8_funeralCost 3 = .ok (.iconst 0, 1) := by decide +kernel
theorem dX8_funeralCost_4 : decode cX8_funeralCost 4 = .ok (.istore 5, 2) := by decide +kernel
theorem dX8_funeralCost_6 : decode cX8_funeralCost 6 = .ok (.aload_n 0, 1) := by decide +kernel
theorem dX8_funeralCost_7 : decode cX8_funeralCost 7 = .ok (.getfield 169, 3) := by decide +kernel
theorem dX8_funeralCost_10 : decode cX8_funeralCost 10 = .ok (.iconst 1, 1) := by decide +kernel
theorem dX8_funeralCost_11 : decode cX8_funeralCost 11 = .ok (.isub, 1) := by decide +kernel
theorem dX8_funeralCost_12 : decode cX8_funeralCost 12 = .ok (.istore 6, 2) := by decide +kernel
theorem dX8_funeralCost_14 : decode cX8_funeralCost 14 = .ok (.iload 6, 2) := by decide +kernel
theorem dX8_funeralCost_16 : decode cX8_funeralCost 16 = .ok (.ifCond .lt 107, 3) := by decide +kernel
theorem dX8_funeralCost_19 : decode cX8_funeralCost 19 = .ok (.aload_n 0, 1) := by decide +kernel
theorem dX8_funeralCost_20 : decode cX8_funeralCost 20 = .ok (.getfield 40, 3) := by decide +kernel
theorem dX8_funeralCost_23 : decode cX8_funeralCost 23 = .ok (.iload 6, 2) := by decide +kernel
theorem dX8_funeralCost_25 : decode cX8_funeralCost 25 = .ok (.iload 4, 2) := by decide +kernel
theorem dX8_funeralCost_27 : decode cX8_funeralCost 27 = .ok (.bipush 7, 2) := by decide +kernel
theorem dX8_funeralCost_29 : decode cX8_funeralCost 29 = .ok (.irem, 1) := by decide +kernel
theorem dX8_funeralCost_30 : decode cX8_funeralCost 30 = .ok (.iastore, 1) := by decide +kernel
theorem dX8_funeralCost_31 : decode cX8_funeralCost 31 = .ok (.iload 4, 2) := by decide +kernel
theorem dX8_funeralCost_33 : decode cX8_funeralCost 33 = .ok (.bipush 7, 2) := by decide +kernel
theorem dX8_funeralCost_35 : decode cX8_funeralCost 35 = .ok (.idiv, 1) := by decide +kernel
theorem dX8_funeralCost_36 : decode cX8_funeralCost 36 = .ok (.istore 4, 2) := by decide +kernel
theorem dX8_funeralCost_38 : decode cX8_funeralCost 38 = .ok (.aload_n 0, 1) := by decide +kernel
theorem dX8_funeralCost_39 : decode cX8_funeralCost 39 = .ok (.getfield 40, 3) := by decide +kernel
theorem dX8_funeralCost_42 : decode cX8_funeralCost 42 = .ok (.iload 6, 2) := by decide +kernel
theorem dX8_funeralCost_44 : decode cX8_funeralCost 44 = .ok (.iaload, 1) := by decide +kernel
theorem dX8_funeralCost_45 : decode cX8_funeralCost 45 = .ok (.ifCond .le 72, 3) := by decide +kernel
theorem dX8_funeralCost_48 : decode cX8_funeralCost 48 = .ok (.aload_n 0, 1) := by decide +kernel
theorem dX8_funeralCost_49 : decode cX8_funeralCost 49 = .ok (.iload 6, 2) := by decide +kernel
theorem dX8_funeralCost_51 : decode cX8_funeralCost 51 = .ok (.invokevirtual 203, 3) := by decide +kernel
theorem dX8_funeralCost_54 : decode cX8_funeralCost 54 = .ok (.ifCond .ne 19, 3) := by decide +kernel
theorem dX8_funeralCost_57 : decode cX8_funeralCost 57 = .ok (.iload_n 2, 1) := by decide +kernel
theorem dX8_funeralCost_58 : decode cX8_funeralCost 58 = .ok (.aload_n 0, 1) := by decide +kernel
theorem dX8_funeralCost_59 : decode cX8_funeralCost 59 = .ok (.getfield 40, 3) := by decide +kernel
theorem dX8_funeralCost_62 : decode cX8_funeralCost 62 = .ok (.iload 6, 2) := by decide +kernel
theorem dX8_funeralCost_64 : decode cX8_funeralCost 64 = .ok (.iaload, 1) := by decide +kernel
theorem dX8_funeralCost_65 : decode cX8_funeralCost 65 = .ok (.iconst 1, 1) := by decide +kernel
theorem dX8_funeralCost_66 : decode cX8_funeralCost 66 = .ok (.isub, 1) := by decide +kernel
theorem dX8_funeralCost_67 : decode cX8_funeralCost 67 = .ok (.ishr, 1) := by decide +kernel
theorem dX8_funeralCost_68 : decode cX8_funeralCost 68 = .ok (.iconst 1, 1) := by decide +kernel
theorem dX8_funeralCost_69 : decode cX8_funeralCost 69 = .ok (.iand, 1) := by decide +kernel
theorem dX8_funeralCost_70 : decode cX8_funeralCost 70 = .ok (.ifCond .ne 6, 3) := by decide +kernel
theorem dX8_funeralCost_73 : decode cX8_funeralCost 73 = .ok (.bipush (-4), 2) := by decide +kernel
theorem dX8_funeralCost_75 : decode cX8_funeralCost 75 = .ok (.ireturn, 1) := by decide +kernel
theorem dX8_funeralCost_76 : decode cX8_funeralCost 76 = .ok (.iload 5, 2) := by decide +kernel
theorem dX8_funeralCost_78 : decode cX8_funeralCost 78 = .ok (.aload_n 0, 1) := by decide +kernel
theorem dX8_funeralCost_79 : decode cX8_funeralCost 79 = .ok (.getfield 7, 3) := by decide +kernel
theorem dX8_funeralCost_82 : decode cX8_funeralCost 82 = .ok (.iconst 4, 1) := by decide +kernel
theorem dX8_funeralCost_83 : decode cX8_funeralCost 83 = .ok (.iload 6, 2) := by decide +kernel
theorem dX8_funeralCost_85 : decode cX8_funeralCost 85 = .ok (.imul, 1) := by decide +kernel
theorem dX8_funeralCost_86 : decode cX8_funeralCost 86 = .ok (.iaload, 1) := by decide +kernel
theorem dX8_funeralCost_87 : decode cX8_funeralCost 87 = .ok (.aload_n 0, 1) := by decide +kernel
theorem dX8_funeralCost_88 : decode cX8_funeralCost 88 = .ok (.iload 6, 2) := by decide +kernel
theorem dX8_funeralCost_90 : decode cX8_funeralCost 90 = .ok (.invokevirtual 196, 3) := by decide +kernel
theorem dX8_funeralCost_93 : decode cX8_funeralCost 93 = .ok (.aload_n 0, 1) := by decide +kernel
theorem dX8_funeralCost_94 : decode cX8_funeralCost 94 = .ok (.getfield 40, 3) := by decide +kernel
theorem dX8_funeralCost_97 : decode cX8_funeralCost 97 = .ok (.iload 6, 2) := by decide +kernel
theorem dX8_funeralCost_99 : decode cX8_funeralCost 99 = .ok (.iaload, 1) := by decide +kernel
theorem dX8_funeralCost_100 : decode cX8_funeralCost 100 = .ok (.iconst 1, 1) := by decide +kernel
theorem dX8_funeralCost_101 : decode cX8_funeralCost 101 = .ok (.isub, 1) := by decide +kernel
theorem dX8_funeralCost_102 : decode cX8_funeralCost 102 = .ok (.if_icmp .ne 7, 3) := by decide +kernel
theorem dX8_funeralCost_105 : decode cX8_funeralCost 105 = .ok (.iconst 0, 1) := by decide +kernel
theorem dX8_funeralCost_106 : decode cX8_funeralCost 106 = .ok (.goto 7, 3) := by decide +kernel
theorem dX8_funeralCost_109 : decode cX8_funeralCost 109 = .ok (.aload_n 0, 1) := by decide +kernel
theorem dX8_funeralCost_110 : decode cX8_funeralCost 110 = .ok (.invokevirtual 183, 3) := by decide +kernel
theorem dX8_funeralCost_113 : decode cX8_funeralCost 113 = .ok (.iadd, 1) := by decide +kernel
theorem dX8_funeralCost_114 : decode cX8_funeralCost 114 = .ok (.iadd, 1) := by decide +kernel
theorem dX8_funeralCost_115 : decode cX8_funeralCost 115 = .ok (.istore 5, 2) := by decide +kernel
theorem dX8_funeralCost_117 : decode cX8_funeralCost 117 = .ok (.iinc 6 (-1), 3) := by decide +kernel
theorem dX8_funeralCost_120 : decode cX8_funeralCost 120 = .ok (.goto (-106), 3) := by decide +kernel
theorem dX8_funeralCost_123 : decode cX8_funeralCost 123 = .ok (.iconst 0, 1) := by decide +kernel
theorem dX8_funeralCost_124 : decode cX8_funeralCost 124 = .ok (.istore 6, 2) := by decide +kernel
theorem dX8_funeralCost_126 : decode cX8_funeralCost 126 = .ok (.iload 6, 2) := by decide +kernel
theorem dX8_funeralCost_128 : decode cX8_funeralCost 128 = .ok (.aload_n 0, 1) := by decide +kernel
theorem dX8_funeralCost_129 : decode cX8_funeralCost 129 = .ok (.getfield 166, 3) := by decide +kernel
theorem dX8_funeralCost_132 : decode cX8_funeralCost 132 = .ok (.if_icmp .ge 80, 3) := by decide +kernel
theorem dX8_funeralCost_135 : decode cX8_funeralCost 135 = .ok (.iconst 0, 1) := by decide +kernel
theorem dX8_funeralCost_136 : decode cX8_funeralCost 136 = .ok (.istore 7, 2) := by decide +kernel
theorem dX8_funeralCost_138 : decode cX8_funeralCost 138 = .ok (.iconst 0, 1) := by decide +kernel
theorem dX8_funeralCost_139 : decode cX8_funeralCost 139 = .ok (.istore 8, 2) := by decide +kernel
theorem dX8_funeralCost_141 : decode cX8_funeralCost 141 = .ok (.iload 8, 2) := by decide +kernel
theorem dX8_funeralCost_143 : decode cX8_funeralCost 143 = .ok (.aload_n 0, 1) := by decide +kernel
theorem dX8_funeralCost_144 : decode cX8_funeralCost 144 = .ok (.getfield 169, 3) := by decide +kernel
theorem dX8_funeralCost_147 : decode cX8_funeralCost 147 = .ok (.if_icmp .ge 40, 3) := by decide +kernel
theorem dX8_funeralCost_150 : decode cX8_funeralCost 150 = .ok (.iload 7, 2) := by decide +kernel
theorem dX8_funeralCost_152 : decode cX8_funeralCost 152 = .ok (.aload_n 0, 1) := by decide +kernel
theorem dX8_funeralCost_153 : decode cX8_funeralCost 153 = .ok (.getfield 40, 3) := by decide +kernel
theorem dX8_funeralCost_156 : decode cX8_funeralCost 156 = .ok (.iload 8, 2) := by decide +kernel
theorem dX8_funeralCost_158 : decode cX8_funeralCost 158 = .ok (.iaload, 1) := by decide +kernel
theorem dX8_funeralCost_159 : decode cX8_funeralCost 159 = .ok (.iload 6, 2) := by decide +kernel
theorem dX8_funeralCost_161 : decode cX8_funeralCost 161 = .ok (.iconst 1, 1) := by decide +kernel
theorem dX8_funeralCost_162 : decode cX8_funeralCost 162 = .ok (.iadd, 1) := by decide +kernel
theorem dX8_funeralCost_163 : decode cX8_funeralCost 163 = .ok (.if_icmp .ne 14, 3) := by decide +kernel
theorem dX8_funeralCost_166 : decode cX8_funeralCost 166 = .ok (.aload_n 0, 1) := by decide +kernel
theorem dX8_funeralCost_167 : decode cX8_funeralCost 167 = .ok (.iload 8, 2) := by decide +kernel
theorem dX8_funeralCost_169 : decode cX8_funeralCost 169 = .ok (.iload 6, 2) := by decide +kernel
theorem dX8_funeralCost_171 : decode cX8_funeralCost 171 = .ok (.invokevirtual 199, 3) := by decide +kernel
theorem dX8_funeralCost_174 : decode cX8_funeralCost 174 = .ok (.goto 4, 3) := by decide +kernel
theorem dX8_funeralCost_177 : decode cX8_funeralCost 177 = .ok (.iconst 0, 1) := by decide +kernel
theorem dX8_funeralCost_178 : decode cX8_funeralCost 178 = .ok (.iadd, 1) := by decide +kernel
theorem dX8_funeralCost_179 : decode cX8_funeralCost 179 = .ok (.istore 7, 2) := by decide +kernel
theorem dX8_funeralCost_181 : decode cX8_funeralCost 181 = .ok (.iinc 8 1, 3) := by decide +kernel
theorem dX8_funeralCost_184 : decode cX8_funeralCost 184 = .ok (.goto (-43), 3) := by decide +kernel
theorem dX8_funeralCost_187 : decode cX8_funeralCost 187 = .ok (.iload_n 2, 1) := by decide +kernel
theorem dX8_funeralCost_188 : decode cX8_funeralCost 188 = .ok (.iload 6, 2) := by decide +kernel
theorem dX8_funeralCost_190 : decode cX8_funeralCost 190 = .ok (.ishr, 1) := by decide +kernel
theorem dX8_funeralCost_191 : decode cX8_funeralCost 191 = .ok (.iconst 1, 1) := by decide +kernel
theorem dX8_funeralCost_192 : decode cX8_funeralCost 192 = .ok (.iand, 1) := by decide +kernel
theorem dX8_funeralCost_193 : decode cX8_funeralCost 193 = .ok (.iconst 1, 1) := by decide +kernel
theorem dX8_funeralCost_194 : decode cX8_funeralCost 194 = .ok (.if_icmp .ne 12, 3) := by decide +kernel
theorem dX8_funeralCost_197 : decode cX8_funeralCost 197 = .ok (.iload 7, 2) := by decide +kernel
theorem dX8_funeralCost_199 : decode cX8_funeralCost 199 = .ok (.iload_n 3, 1) := by decide +kernel
theorem dX8_funeralCost_200 : decode cX8_funeralCost 200 = .ok (.if_icmp .ge 6, 3) := by decide +kernel
theorem dX8_funeralCost_203 : decode cX8_funeralCost 203 = .ok (.bipush (-4), 2) := by decide +kernel
theorem dX8_funeralCost_205 : decode cX8_funeralCost 205 = .ok (.ireturn, 1) := by decide +kernel
theorem dX8_funeralCost_206 : decode cX8_funeralCost 206 = .ok (.iinc 6 1, 3) := by decide +kernel
theorem dX8_funeralCost_209 : decode cX8_funeralCost 209 = .ok (.goto (-83), 3) := by decide +kernel
theorem dX8_funeralCost_212 : decode cX8_funeralCost 212 = .ok (.iload 5, 2) := by decide +kernel
theorem dX8_funeralCost_214 : decode cX8_funeralCost 214 = .ok (.ireturn, 1) := by decide +kernel
theorem dX8_funeral_0 : decode cX8_funeral 0 = .ok (.iload_n 1, 1) := by decide +kernel
theorem dX8_funeral_1 : decode cX8_funeral 1 = .ok (.i2l, 1) := by decide +kernel
theorem dX8_funeral_2 : decode cX8_funeral 2 = .ok (.lconst 0, 1) := by decide +kernel
theorem dX8_funeral_3 : decode cX8_funeral 3 = .ok (.iconst 1, 1) := by decide +kernel
theorem dX8_funeral_4 : decode cX8_funeral 4 = .ok (.aload_n 0, 1) := by decide +kernel
theorem dX8_funeral_5 : decode cX8_funeral 5 = .ok (.getfield 166, 3) := by decide +kernel
theorem dX8_funeral_8 : decode cX8_funeral 8 = .ok (.ishl, 1) := by decide +kernel
theorem dX8_funeral_9 : decode cX8_funeral 9 = .ok (.iconst 1, 1) := by decide +kernel
theorem dX8_funeral_10 : decode cX8_funeral 10 = .ok (.isub, 1) := by decide +kernel
theorem dX8_funeral_11 : decode cX8_funeral 11 = .ok (.i2l, 1) := by decide +kernel
theorem dX8_funeral_12 : decode cX8_funeral 12 = .ok (.invokestatic 69, 3) := by decide +kernel
theorem dX8_funeral_15 : decode cX8_funeral 15 = .ok (.ifCond .eq 38, 3) := by decide +kernel
theorem dX8_funeral_18 : decode cX8_funeral 18 = .ok (.iload_n 2, 1) := by decide +kernel
theorem dX8_funeral_19 : decode cX8_funeral 19 = .ok (.i2l, 1) := by decide +kernel
theorem dX8_funeral_20 : decode cX8_funeral 20 = .ok (.lconst 1, 1) := by decide +kernel
theorem dX8_funeral_21 : decode cX8_funeral 21 = .ok (.ldc2_w 239, 3) := by decide +kernel
theorem dX8_funeral_24 : decode cX8_funeral 24 = .ok (.invokestatic 69, 3) := by decide +kernel
theorem dX8_funeral_27 : decode cX8_funeral 27 = .ok (.ifCond .eq 26, 3) := by decide +kernel
theorem dX8_funeral_30 : decode cX8_funeral 30 = .ok (.iload_n 3, 1) := by decide +kernel
theorem dX8_funeral_31 : decode cX8_funeral 31 = .ok (.ifCond .eq 24, 3) := by decide +kernel
theorem dX8_funeral_34 : decode cX8_funeral 34 = .ok (.iload_n 3, 1) := by decide +kernel
theorem dX8_funeral_35 : decode cX8_funeral 35 = .ok (.i2l, 1) := by decide +kernel
theorem dX8_funeral_36 : decode cX8_funeral 36 = .ok (.ldc2_w 241, 3) := by decide +kernel
theorem dX8_funeral_39 : decode cX8_funeral 39 = .ok (.bipush 9, 2) := by decide +kernel
theorem dX8_funeral_41 : decode cX8_funeral 41 = .ok (.aload_n 0, 1) := by decide +kernel
theorem dX8_funeral_42 : decode cX8_funeral 42 = .ok (.getfield 169, 3) := by decide +kernel
theorem dX8_funeral_45 : decode cX8_funeral 45 = .ok (.iadd, 1) := by decide +kernel
theorem dX8_funeral_46 : decode cX8_funeral 46 = .ok (.i2l, 1) := by decide +kernel
theorem dX8_funeral_47 : decode cX8_funeral 47 = .ok (.invokestatic 69, 3) := by decide +kernel
theorem dX8_funeral_50 : decode cX8_funeral 50 = .ok (.ifCond .ne 5, 3) := by decide +kernel
theorem dX8_funeral_53 : decode cX8_funeral 53 = .ok (.iconst (-1), 1) := by decide +kernel
theorem dX8_funeral_54 : decode cX8_funeral 54 = .ok (.ireturn, 1) := by decide +kernel
theorem dX8_funeral_55 : decode cX8_funeral 55 = .ok (.iconst 1, 1) := by decide +kernel
theorem dX8_funeral_56 : decode cX8_funeral 56 = .ok (.istore 4, 2) := by decide +kernel
theorem dX8_funeral_58 : decode cX8_funeral 58 = .ok (.bipush (-4), 2) := by decide +kernel
theorem dX8_funeral_60 : decode cX8_funeral 60 = .ok (.istore 5, 2) := by decide +kernel
theorem dX8_funeral_62 : decode cX8_funeral 62 = .ok (.iconst 0, 1) := by decide +kernel
theorem dX8_funeral_63 : decode cX8_funeral 63 = .ok (.istore 6, 2) := by decide +kernel
theorem dX8_funeral_65 : decode cX8_funeral 65 = .ok (.iload 6, 2) := by decide +kernel
theorem dX8_funeral_67 : decode cX8_funeral 67 = .ok (.aload_n 0, 1) := by decide +kernel
theorem dX8_funeral_68 : decode cX8_funeral 68 = .ok (.getfield 169, 3) := by decide +kernel
theorem dX8_funeral_71 : decode cX8_funeral 71 = .ok (.if_icmp .ge 16, 3) := by decide +kernel
theorem dX8_funeral_74 : decode cX8_funeral 74 = .ok (.iload 4, 2) := by decide +kernel
theorem dX8_funeral_76 : decode cX8_funeral 76 = .ok (.bipush 7, 2) := by decide +kernel
theorem dX8_funeral_78 : decode cX8_funeral 78 = .ok (.imul, 1) := by decide +kernel
theorem dX8_funeral_79 : decode cX8_funeral 79 = .ok (.istore 4, 2) := by decide +kernel
theorem dX8_funeral_81 : decode cX8_funeral 81 = .ok (.iinc 6 1, 3) := by decide +kernel
theorem dX8_funeral_84 : decode cX8_funeral 84 = .ok (.goto (-19), 3) := by decide +kernel
theorem dX8_funeral_87 : decode cX8_funeral 87 = .ok (.iconst 0, 1) := by decide +kernel
theorem dX8_funeral_88 : decode cX8_funeral 88 = .ok (.istore 6, 2) := by decide +kernel
theorem dX8_funeral_90 : decode cX8_funeral 90 = .ok (.iload 6, 2) := by decide +kernel
theorem dX8_funeral_92 : decode cX8_funeral 92 = .ok (.iload 4, 2) := by decide +kernel
theorem dX8_funeral_94 : decode cX8_funeral 94 = .ok (.if_icmp .ge 74, 3) := by decide +kernel
theorem dX8_funeral_97 : decode cX8_funeral 97 = .ok (.aload_n 0, 1) := by decide +kernel
theorem dX8_funeral_98 : decode cX8_funeral 98 = .ok (.iload 6, 2) := by decide +kernel
theorem dX8_funeral_100 : decode cX8_funeral 100 = .ok (.iload_n 1, 1) := by decide +kernel
theorem dX8_funeral_101 : decode cX8_funeral 101 = .ok (.iload_n 2, 1) := by decide +kernel
theorem dX8_funeral_102 : decode cX8_funeral 102 = .ok (.invokevirtual 243, 3) := by decide +kernel
theorem dX8_funeral_105 : decode cX8_funeral 105 = .ok (.istore 7, 2) := by decide +kernel
theorem dX8_funeral_107 : decode cX8_funeral 107 = .ok (.iload 7, 2) := by decide +kernel
theorem dX8_funeral_109 : decode cX8_funeral 109 = .ok (.bipush (-4), 2) := by decide +kernel
theorem dX8_funeral_111 : decode cX8_funeral 111 = .ok (.if_icmp .eq 51, 3) := by decide +kernel
theorem dX8_funeral_114 : decode cX8_funeral 114 = .ok (.iload 5, 2) := by decide +kernel
theorem dX8_funeral_116 : decode cX8_funeral 116 = .ok (.bipush (-4), 2) := by decide +kernel
theorem dX8_funeral_118 : decode cX8_funeral 118 = .ok (.if_icmp .eq 10, 3) := by decide +kernel
theorem dX8_funeral_121 : decode cX8_funeral 121 = .ok (.iload 7, 2) := by decide +kernel
theorem dX8_funeral_123 : decode cX8_funeral 123 = .ok (.iload 5, 2) := by decide +kernel
theorem dX8_funeral_125 : decode cX8_funeral 125 = .ok (.if_icmp .ge 37, 3) := by decide +kernel
theorem dX8_funeral_128 : decode cX8_funeral 128 = .ok (.iload 7, 2) := by decide +kernel
theorem dX8_funeral_130 : decode cX8_funeral 130 = .ok (.istore 5, 2) := by decide +kernel
theorem dX8_funeral_132 : decode cX8_funeral 132 = .ok (.iconst 0, 1) := by decide +kernel
theorem dX8_funeral_133 : decode cX8_funeral 133 = .ok (.istore 8, 2) := by decide +kernel
theorem dX8_funeral_135 : decode cX8_funeral 135 = .ok (.iload 8, 2) := by decide +kernel
theorem dX8_funeral_137 : decode cX8_funeral 137 = .ok (.bipush 6, 2) := by decide +kernel
theorem dX8_funeral_139 : decode cX8_funeral 139 = .ok (.if_icmp .ge 23, 3) := by decide +kernel
theorem dX8_funeral_142 : decode cX8_funeral 142 = .ok (.aload_n 0, 1) := by decide +kernel
theorem dX8_funeral_143 : decode cX8_funeral 143 = .ok (.getfield 43, 3) := by decide +kernel
theorem dX8_funeral_146 : decode cX8_funeral 146 = .ok (.iload 8, 2) := by decide +kernel
theorem dX8_funeral_148 : decode cX8_funeral 148 = .ok (.aload_n 0, 1) := by decide +kernel
theorem dX8_funeral_149 : decode cX8_funeral 149 = .ok (.getfield 40, 3) := by decide +kernel
theorem dX8_funeral_152 : decode cX8_funeral 152 = .ok (.iload 8, 2) := by decide +kernel
theorem dX8_funeral_154 : decode cX8_funeral 154 = .ok (.iaload, 1) := by decide +kernel
theorem dX8_funeral_155 : decode cX8_funeral 155 = .ok (.iastore, 1) := by decide +kernel
theorem dX8_funeral_156 : decode cX8_funeral 156 = .ok (.iinc 8 1, 3) := by decide +kernel
theorem dX8_funeral_159 : decode cX8_funeral 159 = .ok (.goto (-24), 3) := by decide +kernel
theorem dX8_funeral_162 : decode cX8_funeral 162 = .ok (.iinc 6 1, 3) := by decide +kernel
theorem dX8_funeral_165 : decode cX8_funeral 165 = .ok (.goto (-75), 3) := by decide +kernel
theorem dX8_funeral_168 : decode cX8_funeral 168 = .ok (.iload 5, 2) := by decide +kernel
theorem dX8_funeral_170 : decode cX8_funeral 170 = .ok (.bipush (-4), 2) := by decide +kernel
theorem dX8_funeral_172 : decode cX8_funeral 172 = .ok (.if_icmp .eq 7, 3) := by decide +kernel
theorem dX8_funeral_175 : decode cX8_funeral 175 = .ok (.iload_n 3, 1) := by decide +kernel
theorem dX8_funeral_176 : decode cX8_funeral 176 = .ok (.ifCond .ne 8, 3) := by decide +kernel
theorem dX8_funeral_179 : decode cX8_funeral 179 = .ok (.iload 5, 2) := by decide +kernel
theorem dX8_funeral_181 : decode cX8_funeral 181 = .ok (.goto 31, 3) := by decide +kernel
theorem dX8_funeral_184 : decode cX8_funeral 184 = .ok (.aload_n 0, 1) := by decide +kernel
theorem dX8_funeral_185 : decode cX8_funeral 185 = .ok (.getfield 43, 3) := by decide +kernel
theorem dX8_funeral_188 : decode cX8_funeral 188 = .ok (.iload_n 3, 1) := by decide +kernel
theorem dX8_funeral_189 : decode cX8_funeral 189 = .ok (.bipush 10, 2) := by decide +kernel
theorem dX8_funeral_191 : decode cX8_funeral 191 = .ok (.isub, 1) := by decide +kernel
theorem dX8_funeral_192 : decode cX8_funeral 192 = .ok (.iaload, 1) := by decide +kernel
theorem dX8_funeral_193 : decode cX8_funeral 193 = .ok (.ifCond .ne 8, 3) := by decide +kernel
theorem dX8_funeral_196 : decode cX8_funeral 196 = .ok (.bipush (-4), 2) := by decide +kernel
theorem dX8_funeral_198 : decode cX8_funeral 198 = .ok (.goto 14, 3) := by decide +kernel
theorem dX8_funeral_201 : decode cX8_funeral 201 = .ok (.aload_n 0, 1) := by decide +kernel
theorem dX8_funeral_202 : decode cX8_funeral 202 = .ok (.getfield 43, 3) := by decide +kernel
theorem dX8_funeral_205 : decode cX8_funeral 205 = .ok (.iload_n 3, 1) := by decide +kernel
theorem dX8_funeral_206 : decode cX8_funeral 206 = .ok (.bipush 10, 2) := by decide +kernel
theorem dX8_funeral_208 : decode cX8_funeral 208 = .ok (.isub, 1) := by decide +kernel
theorem dX8_funeral_209 : decode cX8_funeral 209 = .ok (.iaload, 1) := by decide +kernel
theorem dX8_funeral_210 : decode cX8_funeral 210 = .ok (.iconst 1, 1) := by decide +kernel
theorem dX8_funeral_211 : decode cX8_funeral 211 = .ok (.isub, 1) := by decide +kernel
theorem dX8_funeral_212 : decode cX8_funeral 212 = .ok (.ireturn, 1) := by decide +kernel
theorem dX8_raided_0 : decode cX8_raided 0 = .ok (.iconst 0, 1) := by decide +kernel
theorem dX8_raided_1 : decode cX8_raided 1 = .ok (.istore_n 2, 1) := by decide +kernel
theorem dX8_raided_2 : decode cX8_raided 2 = .ok (.iconst 0, 1) := by decide +kernel
theorem dX8_raided_3 : decode cX8_raided 3 = .ok (.istore_n 3, 1) := by decide +kernel
theorem dX8_raided_4 : decode cX8_raided 4 = .ok (.iload_n 3, 1) := by decide +kernel
theorem dX8_raided_5 : decode cX8_raided 5 = .ok (.aload_n 0, 1) := by decide +kernel
theorem dX8_raided_6 : decode cX8_raided 6 = .ok (.getfield 166, 3) := by decide +kernel
theorem dX8_raided_9 : decode cX8_raided 9 = .ok (.if_icmp .ge 106, 3) := by decide +kernel
theorem dX8_raided_12 : decode cX8_raided 12 = .ok (.iconst 0, 1) := by decide +kernel
theorem dX8_raided_13 : decode cX8_raided 13 = .ok (.istore 4, 2) := by decide +kernel
theorem dX8_raided_15 : decode cX8_raided 15 = .ok (.iconst 0, 1) := by decide +kernel
theorem dX8_raided_16 : decode cX8_raided 16 = .ok (.istore 5, 2) := by decide +kernel
theorem dX8_raided_18 : decode cX8_raided 18 = .ok (.iload 5, 2) := by decide +kernel
theorem dX8_raided_20 : decode cX8_raided 20 = .ok (.aload_n 0, 1) := by decide +kernel
theorem dX8_raided_21 : decode cX8_raided 21 = .ok (.getfield 169, 3) := by decide +kernel
theorem dX8_raided_24 : decode cX8_raided 24 = .ok (.if_icmp .ge 58, 3) := by decide +kernel
theorem dX8_raided_27 : decode cX8_raided 27 = .ok (.aload_n 0, 1) := by decide +kernel
theorem dX8_raided_28 : decode cX8_raided 28 = .ok (.iload 5, 2) := by decide +kernel
theorem dX8_raided_30 : decode cX8_raided 30 = .ok (.invokevirtual 196, 3) := by decide +kernel
theorem dX8_raided_33 : decode cX8_raided 33 = .ok (.iload_n 3, 1) := by decide +kernel
theorem dX8_raided_34 : decode cX8_raided 34 = .ok (.if_icmp .ne 38, 3) := by decide +kernel
theorem dX8_raided_37 : decode cX8_raided 37 = .ok (.aload_n 0, 1) := by decide +kernel
theorem dX8_raided_38 : decode cX8_raided 38 = .ok (.iload 5, 2) := by decide +kernel
theorem dX8_raided_40 : decode cX8_raided 40 = .ok (.invokevirtual 203, 3) := by decide +kernel
theorem dX8_raided_43 : decode cX8_raided 43 = .ok (.ifCond .ne 29, 3) := by decide +kernel
theorem dX8_raided_46 : decode cX8_raided 46 = .ok (.aload_n 0, 1) := by decide +kernel
theorem dX8_raided_47 : decode cX8_raided 47 = .ok (.getfield 7, 3) := by decide +kernel
theorem dX8_raided_50 : decode cX8_raided 50 = .ok (.iconst 4, 1) := by decide +kernel
theorem dX8_raided_51 : decode cX8_raided 51 = .ok (.iload 5, 2) := by decide +kernel
theorem dX8_raided_53 : decode cX8_raided 53 = .ok (.imul, 1) := by decide +kernel
theorem dX8_raided_54 : decode cX8_raided 54 = .ok (.iaload, 1) := by decide +kernel
theorem dX8_raided_55 : decode cX8_raided 55 = .ok (.iload 4, 2) := by decide +kernel
theorem dX8_raided_57 : decode cX8_raided 57 = .ok (.if_icmp .le 15, 3) := by decide +kernel
theorem dX8_raided_60 : decode cX8_raided 60 = .ok (.aload_n 0, 1) := by decide +kernel
theorem dX8_raided_61 : decode cX8_raided 61 = .ok (.getfield 7, 3) := by decide +kernel
theorem dX8_raided_64 : decode cX8_raided 64 = .ok (.iconst 4, 1) := by decide +kernel
theorem dX8_raided_65 : decode cX8_raided 65 = .ok (.iload 5, 2) := by decide +kernel
theorem dX8_raided_67 : decode cX8_raided 67 = .ok (.imul, 1) := by decide +kernel
theorem dX8_raided_68 : decode cX8_raided 68 = .ok (.iaload, 1) := by decide +kernel
theorem dX8_raided_69 : decode cX8_raided 69 = .ok (.goto 5, 3) := by decide +kernel
theorem dX8_raided_72 : decode cX8_raided 72 = .ok (.iload 4, 2) := by decide +kernel
theorem dX8_raided_74 : decode cX8_raided 74 = .ok (.istore 4, 2) := by decide +kernel
theorem dX8_raided_76 : decode cX8_raided 76 = .ok (.iinc 5 1, 3) := by decide +kernel
theorem dX8_raided_79 : decode cX8_raided 79 = .ok (.goto (-61), 3) := by decide +kernel
theorem dX8_raided_82 : decode cX8_raided 82 = .ok (.iload_n 2, 1) := by decide +kernel
theorem dX8_raided_83 : decode cX8_raided 83 = .ok (.aload_n 0, 1) := by decide +kernel
theorem dX8_raided_84 : decode cX8_raided 84 = .ok (.iload_n 3, 1) := by decide +kernel
theorem dX8_raided_85 : decode cX8_raided 85 = .ok (.invokevirtual 188, 3) := by decide +kernel
theorem dX8_raided_88 : decode cX8_raided 88 = .ok (.iconst 4, 1) := by decide +kernel
theorem dX8_raided_89 : decode cX8_raided 89 = .ok (.if_icmp .eq 12, 3) := by decide +kernel
theorem dX8_raided_92 : decode cX8_raided 92 = .ok (.aload_n 0, 1) := by decide +kernel
theorem dX8_raided_93 : decode cX8_raided 93 = .ok (.iload_n 3, 1) := by decide +kernel
theorem dX8_raided_94 : decode cX8_raided 94 = .ok (.iload_n 1, 1) := by decide +kernel
theorem dX8_raided_95 : decode cX8_raided 95 = .ok (.invokevirtual 209, 3) := by decide +kernel
theorem dX8_raided_98 : decode cX8_raided 98 = .ok (.ifCond .eq 7, 3) := by decide +kernel
theorem dX8_raided_101 : decode cX8_raided 101 = .ok (.iconst 0, 1) := by decide +kernel
theorem dX8_raided_102 : decode cX8_raided 102 = .ok (.goto 5, 3) := by decide +kernel
theorem dX8_raided_105 : decode cX8_raided 105 = .ok (.iload 4, 2) := by decide +kernel
theorem dX8_raided_107 : decode cX8_raided 107 = .ok (.iadd, 1) := by decide +kernel
theorem dX8_raided_108 : decode cX8_raided 108 = .ok (.istore_n 2, 1) := by decide +kernel
theorem dX8_raided_109 : decode cX8_raided 109 = .ok (.iinc 3 1, 3) := by decide +kernel
theorem dX8_raided_112 : decode cX8_raided 112 = .ok (.goto (-108), 3) := by decide +kernel
theorem dX8_raided_115 : decode cX8_raided 115 = .ok (.iload_n 2, 1) := by decide +kernel
theorem dX8_raided_116 : decode cX8_raided 116 = .ok (.ireturn, 1) := by decide +kernel
theorem dX8_raid_0 : decode cX8_raid 0 = .ok (.iload_n 1, 1) := by decide +kernel
theorem dX8_raid_1 : decode cX8_raid 1 = .ok (.i2l, 1) := by decide +kernel
theorem dX8_raid_2 : decode cX8_raid 2 = .ok (.lconst 0, 1) := by decide +kernel
theorem dX8_raid_3 : decode cX8_raid 3 = .ok (.lconst 1, 1) := by decide +kernel
theorem dX8_raid_4 : decode cX8_raid 4 = .ok (.invokestatic 69, 3) := by decide +kernel
theorem dX8_raid_7 : decode cX8_raid 7 = .ok (.ifCond .ne 19, 3) := by decide +kernel
theorem dX8_raid_10 : decode cX8_raid 10 = .ok (.iload_n 1, 1) := by decide +kernel
theorem dX8_raid_11 : decode cX8_raid 11 = .ok (.i2l, 1) := by decide +kernel
theorem dX8_raid_12 : decode cX8_raid 12 = .ok (.ldc2_w 241, 3) := by decide +kernel
theorem dX8_raid_15 : decode cX8_raid 15 = .ok (.ldc2_w 246, 3) := by decide +kernel
theorem dX8_raid_18 : decode cX8_raid 18 = .ok (.invokestatic 69, 3) := by decide +kernel
theorem dX8_raid_21 : decode cX8_raid 21 = .ok (.ifCond .ne 5, 3) := by decide +kernel
theorem dX8_raid_24 : decode cX8_raid 24 = .ok (.iconst (-1), 1) := by decide +kernel
theorem dX8_raid_25 : decode cX8_raid 25 = .ok (.ireturn, 1) := by decide +kernel
theorem dX8_raid_26 : decode cX8_raid 26 = .ok (.iload_n 1, 1) := by decide +kernel
theorem dX8_raid_27 : decode cX8_raid 27 = .ok (.iconst 1, 1) := by decide +kernel
theorem dX8_raid_28 : decode cX8_raid 28 = .ok (.if_icmp .le 12, 3) := by decide +kernel
theorem dX8_raid_31 : decode cX8_raid 31 = .ok (.aload_n 0, 1) := by decide +kernel
theorem dX8_raid_32 : decode cX8_raid 32 = .ok (.iload_n 1, 1) := by decide +kernel
theorem dX8_raid_33 : decode cX8_raid 33 = .ok (.bipush 10, 2) := by decide +kernel
theorem dX8_raid_35 : decode cX8_raid 35 = .ok (.isub, 1) := by decide +kernel
theorem dX8_raid_36 : decode cX8_raid 36 = .ok (.invokevirtual 248, 3) := by decide +kernel
theorem dX8_raid_39 : decode cX8_raid 39 = .ok (.ireturn, 1) := by decide +kernel
theorem dX8_raid_40 : decode cX8_raid 40 = .ok (.bipush (-4), 2) := by decide +kernel
theorem dX8_raid_42 : decode cX8_raid 42 = .ok (.istore_n 2, 1) := by decide +kernel
theorem dX8_raid_43 : decode cX8_raid 43 = .ok (.iconst 0, 1) := by decide +kernel
theorem dX8_raid_44 : decode cX8_raid 44 = .ok (.istore_n 3, 1) := by decide +kernel
theorem dX8_raid_45 : decode cX8_raid 45 = .ok (.iconst 0, 1) := by decide +kernel
theorem dX8_raid_46 : decode cX8_raid 46 = .ok (.istore 4, 2) := by decide +kernel
theorem dX8_raid_48 : decode cX8_raid 48 = .ok (.iload 4, 2) := by decide +kernel
theorem dX8_raid_50 : decode cX8_raid 50 = .ok (.bipush 12, 2) := by decide +kernel
theorem dX8_raid_52 : decode cX8_raid 52 = .ok (.if_icmp .ge 43, 3) := by decide +kernel
theorem dX8_raid_55 : decode cX8_raid 55 = .ok (.aload_n 0, 1) := by decide +kernel
theorem dX8_raid_56 : decode cX8_raid 56 = .ok (.iload 4, 2) := by decide +kernel
theorem dX8_raid_58 : decode cX8_raid 58 = .ok (.invokevirtual 248, 3) := by decide +kernel
theorem dX8_raid_61 : decode cX8_raid 61 = .ok (.istore 5, 2) := by decide +kernel
theorem dX8_raid_63 : decode cX8_raid 63 = .ok (.iload 5, 2) := by decide +kernel
theorem dX8_raid_65 : decode cX8_raid 65 = .ok (.iload_n 2, 1) := by decide +kernel
theorem dX8_raid_66 : decode cX8_raid 66 = .ok (.if_icmp .le 8, 3) := by decide +kernel
theorem dX8_raid_69 : decode cX8_raid 69 = .ok (.iload 4, 2) := by decide +kernel
theorem dX8_raid_71 : decode cX8_raid 71 = .ok (.goto 4, 3) := by decide +kernel
theorem dX8_raid_74 : decode cX8_raid 74 = .ok (.iload_n 3, 1) := by decide +kernel
theorem dX8_raid_75 : decode cX8_raid 75 = .ok (.istore_n 3, 1) := by decide +kernel
theorem dX8_raid_76 : decode cX8_raid 76 = .ok (.iload 5, 2) := by decide +kernel
theorem dX8_raid_78 : decode cX8_raid 78 = .ok (.iload_n 2, 1) := by decide +kernel
theorem dX8_raid_79 : decode cX8_raid 79 = .ok (.if_icmp .le 8, 3) := by decide +kernel
theorem dX8_raid_82 : decode cX8_raid 82 = .ok (.iload 5, 2) := by decide +kernel
theorem dX8_raid_84 : decode cX8_raid 84 = .ok (.goto 4, 3) := by decide +kernel
theorem dX8_raid_87 : decode cX8_raid 87 = .ok (.iload_n 2, 1) := by decide +kernel
theorem dX8_raid_88 : decode cX8_raid 88 = .ok (.istore_n 2, 1) := by decide +kernel
theorem dX8_raid_89 : decode cX8_raid 89 = .ok (.iinc 4 1, 3) := by decide +kernel
theorem dX8_raid_92 : decode cX8_raid 92 = .ok (.goto (-44), 3) := by decide +kernel
theorem dX8_raid_95 : decode cX8_raid 95 = .ok (.iload_n 1, 1) := by decide +kernel
theorem dX8_raid_96 : decode cX8_raid 96 = .ok (.ifCond .ne 7, 3) := by decide +kernel
theorem dX8_raid_99 : decode cX8_raid 99 = .ok (.iload_n 2, 1) := by decide +kernel
theorem dX8_raid_100 : decode cX8_raid 100 = .ok (.goto 4, 3) := by decide +kernel
theorem dX8_raid_103 : decode cX8_raid 103 = .ok (.iload_n 3, 1) := by decide +kernel
theorem dX8_raid_104 : decode cX8_raid 104 = .ok (.ireturn, 1) := by decide +kernel
theorem dX8_unspent_0 : decode cX8_unspent 0 = .ok (.iconst 0, 1) := by decide +kernel
theorem dX8_unspent_1 : decode cX8_unspent 1 = .ok (.istore_n 1, 1) := by decide +kernel
theorem dX8_unspent_2 : decode cX8_unspent 2 = .ok (.iconst 0, 1) := by decide +kernel
theorem dX8_unspent_3 : decode cX8_unspent 3 = .ok (.istore_n 2, 1) := by decide +kernel
theorem dX8_unspent_4 : decode cX8_unspent 4 = .ok (.iload_n 2, 1) := by decide +kernel
theorem dX8_unspent_5 : decode cX8_unspent 5 = .ok (.aload_n 0, 1) := by decide +kernel
theorem dX8_unspent_6 : decode cX8_unspent 6 = .ok (.getfield 169, 3) := by decide +kernel
theorem dX8_unspent_9 : decode cX8_unspent 9 = .ok (.if_icmp .ge 32, 3) := by decide +kernel
theorem dX8_unspent_12 : decode cX8_unspent 12 = .ok (.iload_n 1, 1) := by decide +kernel
theorem dX8_unspent_13 : decode cX8_unspent 13 = .ok (.aload_n 0, 1) := by decide +kernel
theorem dX8_unspent_14 : decode cX8_unspent 14 = .ok (.iload_n 2, 1) := by decide +kernel
theorem dX8_unspent_15 : decode cX8_unspent 15 = .ok (.invokevirtual 203, 3) := by decide +kernel
theorem dX8_unspent_18 : decode cX8_unspent 18 = .ok (.ifCond .eq 7, 3) := by decide +kernel
theorem dX8_unspent_21 : decode cX8_unspent 21 = .ok (.iconst 0, 1) := by decide +kernel
theorem dX8_unspent_22 : decode cX8_unspent 22 = .ok (.goto 11, 3) := by decide +kernel
theorem dX8_unspent_25 : decode cX8_unspent 25 = .ok (.aload_n 0, 1) := by decide +kernel
theorem dX8_unspent_26 : decode cX8_unspent 26 = .ok (.getfield 7, 3) := by decide +kernel
theorem dX8_unspent_29 : decode cX8_unspent 29 = .ok (.iconst 4, 1) := by decide +kernel
theorem dX8_unspent_30 : decode cX8_unspent 30 = .ok (.iload_n 2, 1) := by decide +kernel
theorem dX8_unspent_31 : decode cX8_unspent 31 = .ok (.imul, 1) := by decide +kernel
theorem dX8_unspent_32 : decode cX8_unspent 32 = .ok (.iaload, 1) := by decide +kernel
theorem dX8_unspent_33 : decode cX8_unspent 33 = .ok (.iadd, 1) := by decide +kernel
theorem dX8_unspent_34 : decode cX8_unspent 34 = .ok (.istore_n 1, 1) := by decide +kernel
theorem dX8_unspent_35 : decode cX8_unspent 35 = .ok (.iinc 2 1, 3) := by decide +kernel
theorem dX8_unspent_38 : decode cX8_unspent 38 = .ok (.goto (-34), 3) := by decide +kernel
theorem dX8_unspent_41 : decode cX8_unspent 41 = .ok (.iload_n 1, 1) := by decide +kernel
theorem dX8_unspent_42 : decode cX8_unspent 42 = .ok (.ireturn, 1) := by decide +kernel
theorem dX8_pricedThen_0 : decode cX8_pricedThen 0 = .ok (.iconst 0, 1) := by decide +kernel
theorem dX8_pricedThen_1 : decode cX8_pricedThen 1 = .ok (.istore_n 2, 1) := by decide +kernel
theorem dX8_pricedThen_2 : decode cX8_pricedThen 2 = .ok (.iconst 0, 1) := by decide +kernel
theorem dX8_pricedThen_3 : decode cX8_pricedThen 3 = .ok (.istore_n 3, 1) := by decide +kernel
theorem dX8_pricedThen_4 : decode cX8_pricedThen 4 = .ok (.iload_n 3, 1) := by decide +kernel
theorem dX8_pricedThen_5 : decode cX8_pricedThen 5 = .ok (.aload_n 0, 1) := by decide +kernel
theorem dX8_pricedThen_6 : decode cX8_pricedThen 6 = .ok (.getfield 166, 3) := by decide +kernel
theorem dX8_pricedThen_9 : decode cX8_pricedThen 9 = .ok (.if_icmp .ge 56, 3) := by decide +kernel
theorem dX8_pricedThen_12 : decode cX8_pricedThen 12 = .ok (.aload_n 0, 1) := by decide +kernel
theorem dX8_pricedThen_13 : decode cX8_pricedThen 13 = .ok (.getfield 13, 3) := by decide +kernel
theorem dX8_pricedThen_16 : decode cX8_pricedThen 16 = .ok (.iconst 3, 1) := by decide +kernel
theorem dX8_pricedThen_17 : decode cX8_pricedThen 17 = .ok (.iload_n 3, 1) := by decide +kernel
theorem dX8_pricedThen_18 : decode cX8_pricedThen 18 = .ok (.imul, 1) := by decide +kernel
theorem dX8_pricedThen_19 : decode cX8_pricedThen 19 = .ok (.iconst 2, 1) := by decide +kernel
theorem dX8_pricedThen_20 : decode cX8_pricedThen 20 = .ok (.iadd, 1) := by decide +kernel
theorem dX8_pricedThen_21 : decode cX8_pricedThen 21 = .ok (.iaload, 1) := by decide +kernel
theorem dX8_pricedThen_22 : decode cX8_pricedThen 22 = .ok (.iload_n 1, 1) := by decide +kernel
theorem dX8_pricedThen_23 : decode cX8_pricedThen 23 = .ok (.idiv, 1) := by decide +kernel
theorem dX8_pricedThen_24 : decode cX8_pricedThen 24 = .ok (.istore 4, 2) := by decide +kernel
theorem dX8_pricedThen_26 : decode cX8_pricedThen 26 = .ok (.iload_n 2, 1) := by decide +kernel
theorem dX8_pricedThen_27 : decode cX8_pricedThen 27 = .ok (.iload 4, 2) := by decide +kernel
theorem dX8_pricedThen_29 : decode cX8_pricedThen 29 = .ok (.aload_n 0, 1) := by decide +kernel
theorem dX8_pricedThen_30 : decode cX8_pricedThen 30 = .ok (.getfield 13, 3) := by decide +kernel
theorem dX8_pricedThen_33 : decode cX8_pricedThen 33 = .ok (.iconst 3, 1) := by decide +kernel
theorem dX8_pricedThen_34 : decode cX8_pricedThen 34 = .ok (.iload_n 3, 1) := by decide +kernel
theorem dX8_pricedThen_35 : decode cX8_pricedThen 35 = .ok (.imul, 1) := by decide +kernel
theorem dX8_pricedThen_36 : decode cX8_pricedThen 36 = .ok (.iconst 1, 1) := by decide +kernel
theorem dX8_pricedThen_37 : decode cX8_pricedThen 37 = .ok (.iadd, 1) := by decide +kernel
theorem dX8_pricedThen_38 : decode cX8_pricedThen 38 = .ok (.iaload, 1) := by decide +kernel
theorem dX8_pricedThen_39 : decode cX8_pricedThen 39 = .ok (.if_icmp .ge 8, 3) := by decide +kernel
theorem dX8_pricedThen_42 : decode cX8_pricedThen 42 = .ok (.iload 4, 2) := by decide +kernel
theorem dX8_pricedThen_44 : decode cX8_pricedThen 44 = .ok (.goto 13, 3) := by decide +kernel
theorem dX8_pricedThen_47 : decode cX8_pricedThen 47 = .ok (.aload_n 0, 1) := by decide +kernel
theorem dX8_pricedThen_48 : decode cX8_pricedThen 48 = .ok (.getfield 13, 3) := by decide +kernel
theorem dX8_pricedThen_51 : decode cX8_pricedThen 51 = .ok (.iconst 3, 1) := by decide +kernel
theorem dX8_pricedThen_52 : decode cX8_pricedThen 52 = .ok (.iload_n 3, 1) := by decide +kernel
theorem dX8_pricedThen_53 : decode cX8_pricedThen 53 = .ok (.imul, 1) := by decide +kernel
theorem dX8_pricedThen_54 : decode cX8_pricedThen 54 = .ok (.iconst 1, 1) := by decide +kernel
theorem dX8_pricedThen_55 : decode cX8_pricedThen 55 = .ok (.iadd, 1) := by decide +kernel
theorem dX8_pricedThen_56 : decode cX8_pricedThen 56 = .ok (.iaload, 1) := by decide +kernel
theorem dX8_pricedThen_57 : decode cX8_pricedThen 57 = .ok (.iadd, 1) := by decide +kernel
theorem dX8_pricedThen_58 : decode cX8_pricedThen 58 = .ok (.istore_n 2, 1) := by decide +kernel
theorem dX8_pricedThen_59 : decode cX8_pricedThen 59 = .ok (.iinc 3 1, 3) := by decide +kernel
theorem dX8_pricedThen_62 : decode cX8_pricedThen 62 = .ok (.goto (-58), 3) := by decide +kernel
theorem dX8_pricedThen_65 : decode cX8_pricedThen 65 = .ok (.aload_n 0, 1) := by decide +kernel
theorem dX8_pricedThen_66 : decode cX8_pricedThen 66 = .ok (.invokevirtual 251, 3) := by decide +kernel
theorem dX8_pricedThen_69 : decode cX8_pricedThen 69 = .ok (.istore_n 3, 1) := by decide +kernel
theorem dX8_pricedThen_70 : decode cX8_pricedThen 70 = .ok (.iload_n 2, 1) := by decide +kernel
theorem dX8_pricedThen_71 : decode cX8_pricedThen 71 = .ok (.iload_n 3, 1) := by decide +kernel
theorem dX8_pricedThen_72 : decode cX8_pricedThen 72 = .ok (.if_icmp .le 20, 3) := by decide +kernel
theorem dX8_pricedThen_75 : decode cX8_pricedThen 75 = .ok (.iload_n 1, 1) := by decide +kernel
theorem dX8_pricedThen_76 : decode cX8_pricedThen 76 = .ok (.bipush 99, 2) := by decide +kernel
theorem dX8_pricedThen_78 : decode cX8_pricedThen 78 = .ok (.if_icmp .ge 9, 3) := by decide +kernel
theorem dX8_pricedThen_81 : decode cX8_pricedThen 81 = .ok (.iload_n 1, 1) := by decide +kernel
theorem dX8_pricedThen_82 : decode cX8_pricedThen 82 = .ok (.iconst 1, 1) := by decide +kernel
theorem dX8_pricedThen_83 : decode cX8_pricedThen 83 = .ok (.iadd, 1) := by decide +kernel
theorem dX8_pricedThen_84 : decode cX8_pricedThen 84 = .ok (.goto 29, 3) := by decide +kernel
theorem dX8_pricedThen_87 : decode cX8_pricedThen 87 = .ok (.bipush 99, 2) := by decide +kernel
theorem dX8_pricedThen_89 : decode cX8_pricedThen 89 = .ok (.goto 24, 3) := by decide +kernel
theorem dX8_pricedThen_92 : decode cX8_pricedThen 92 = .ok (.iload_n 2, 1) := by decide +kernel
theorem dX8_pricedThen_93 : decode cX8_pricedThen 93 = .ok (.iload_n 3, 1) := by decide +kernel
theorem dX8_pricedThen_94 : decode cX8_pricedThen 94 = .ok (.if_icmp .ge 18, 3) := by decide +kernel
theorem dX8_pricedThen_97 : decode cX8_pricedThen 97 = .ok (.iload_n 1, 1) := by decide +kernel
theorem dX8_pricedThen_98 : decode cX8_pricedThen 98 = .ok (.iconst 1, 1) := by decide +kernel
theorem dX8_pricedThen_99 : decode cX8_pricedThen 99 = .ok (.if_icmp .le 9, 3) := by decide +kernel
theorem dX8_pricedThen_102 : decode cX8_pricedThen 102 = .ok (.iload_n 1, 1) := by decide +kernel
theorem dX8_pricedThen_103 : decode cX8_pricedThen 103 = .ok (.iconst 1, 1) := by decide +kernel
theorem dX8_pricedThen_104 : decode cX8_pricedThen 104 = .ok (.isub, 1) := by decide +kernel
theorem dX8_pricedThen_105 : decode cX8_pricedThen 105 = .ok (.goto 8, 3) := by decide +kernel
theorem dX8_pricedThen_108 : decode cX8_pricedThen 108 = .ok (.iconst 1, 1) := by decide +kernel
theorem dX8_pricedThen_109 : decode cX8_pricedThen 109 = .ok (.goto 4, 3) := by decide +kernel
theorem dX8_pricedThen_112 : decode cX8_pricedThen 112 = .ok (.iload_n 1, 1) := by decide +kernel
theorem dX8_pricedThen_113 : decode cX8_pricedThen 113 = .ok (.ireturn, 1) := by decide +kernel
theorem dX8_settle_0 : decode cX8_settle 0 = .ok (.iload_n 1, 1) := by decide +kernel
theorem dX8_settle_1 : decode cX8_settle 1 = .ok (.i2l, 1) := by decide +kernel
theorem dX8_settle_2 : decode cX8_settle 2 = .ok (.lconst 1, 1) := by decide +kernel
theorem dX8_settle_3 : decode cX8_settle 3 = .ok (.ldc2_w 254, 3) := by decide +kernel
theorem dX8_settle_6 : decode cX8_settle 6 = .ok (.invokestatic 69, 3) := by decide +kernel
theorem dX8_settle_9 : decode cX8_settle 9 = .ok (.ifCond .eq 13, 3) := by decide +kernel
theorem dX8_settle_12 : decode cX8_settle 12 = .ok (.iload_n 2, 1) := by decide +kernel
theorem dX8_settle_13 : decode cX8_settle 13 = .ok (.i2l, 1) := by decide +kernel
theorem dX8_settle_14 : decode cX8_settle 14 = .ok (.lconst 0, 1) := by decide +kernel
theorem dX8_settle_15 : decode cX8_settle 15 = .ok (.lconst 1, 1) := by decide +kernel
theorem dX8_settle_16 : decode cX8_settle 16 = .ok (.invokestatic 69, 3) := by decide +kernel
theorem dX8_settle_19 : decode cX8_settle 19 = .ok (.ifCond .ne 5, 3) := by decide +kernel
theorem dX8_settle_22 : decode cX8_settle 22 = .ok (.iconst (-1), 1) := by decide +kernel
theorem dX8_settle_23 : decode cX8_settle 23 = .ok (.ireturn, 1) := by decide +kernel
theorem dX8_settle_24 : decode cX8_settle 24 = .ok (.iconst 0, 1) := by decide +kernel
theorem dX8_settle_25 : decode cX8_settle 25 = .ok (.istore_n 3, 1) := by decide +kernel
theorem dX8_settle_26 : decode cX8_settle 26 = .ok (.iload_n 3, 1) := by decide +kernel
theorem dX8_settle_27 : decode cX8_settle 27 = .ok (.bipush 100, 2) := by decide +kernel
theorem dX8_settle_29 : decode cX8_settle 29 = .ok (.if_icmp .ge 16, 3) := by decide +kernel
theorem dX8_settle_32 : decode cX8_settle 32 = .ok (.aload_n 0, 1) := by decide +kernel
theorem dX8_settle_33 : decode cX8_settle 33 = .ok (.getfield 46, 3) := by decide +kernel
theorem dX8_settle_36 : decode cX8_settle 36 = .ok (.iload_n 3, 1) := by decide +kernel
theorem dX8_settle_37 : decode cX8_settle 37 = .ok (.iconst 0, 1) := by decide +kernel
theorem dX8_settle_38 : decode cX8_settle 38 = .ok (.iastore, 1) := by decide +kernel
theorem dX8_settle_39 : decode cX8_settle 39 = .ok (.iinc 3 1, 3) := by decide +kernel
theorem dX8_settle_42 : decode cX8_settle 42 = .ok (.goto (-16), 3) := by decide +kernel
theorem dX8_settle_45 : decode cX8_settle 45 = .ok (.iload_n 1, 1) := by decide +kernel
theorem dX8_settle_46 : decode cX8_settle 46 = .ok (.istore_n 3, 1) := by decide +kernel
theorem dX8_settle_47 : decode cX8_settle 47 = .ok (.iconst 1, 1) := by decide +kernel
theorem dX8_settle_48 : decode cX8_settle 48 = .ok (.istore 4, 2) := by decide +kernel
theorem dX8_settle_50 : decode cX8_settle 50 = .ok (.aload_n 0, 1) := by decide +kernel
theorem dX8_settle_51 : decode cX8_settle 51 = .ok (.getfield 46, 3) := by decide +kernel
theorem dX8_settle_54 : decode cX8_settle 54 = .ok (.iload_n 1, 1) := by decide +kernel
theorem dX8_settle_55 : decode cX8_settle 55 = .ok (.iconst 1, 1) := by decide +kernel
theorem dX8_settle_56 : decode cX8_settle 56 = .ok (.iastore, 1) := by decide +kernel
theorem dX8_settle_57 : decode cX8_settle 57 = .ok (.aload_n 0, 1) := by decide +kernel
theorem dX8_settle_58 : decode cX8_settle 58 = .ok (.iload_n 3, 1) := by decide +kernel
theorem dX8_settle_59 : decode cX8_settle 59 = .ok (.invokevirtual 256, 3) := by decide +kernel
theorem dX8_settle_62 : decode cX8_settle 62 = .ok (.iload_n 3, 1) := by decide +kernel
theorem dX8_settle_63 : decode cX8_settle 63 = .ok (.if_icmp .eq 35, 3) := by decide +kernel
theorem dX8_settle_66 : decode cX8_settle 66 = .ok (.aload_n 0, 1) := by decide +kernel
theorem dX8_settle_67 : decode cX8_settle 67 = .ok (.iload_n 3, 1) := by decide +kernel
theorem dX8_settle_68 : decode cX8_settle 68 = .ok (.invokevirtual 256, 3) := by decide +kernel
theorem dX8_settle_71 : decode cX8_settle 71 = .ok (.istore_n 3, 1) := by decide +kernel
theorem dX8_settle_72 : decode cX8_settle 72 = .ok (.aload_n 0, 1) := by decide +kernel
theorem dX8_settle_73 : decode cX8_settle 73 = .ok (.getfield 46, 3) := by decide +kernel
theorem dX8_settle_76 : decode cX8_settle 76 = .ok (.iload_n 3, 1) := by decide +kernel
theorem dX8_settle_77 : decode cX8_settle 77 = .ok (.iaload, 1) := by decide +kernel
theorem dX8_settle_78 : decode cX8_settle 78 = .ok (.iconst 1, 1) := by decide +kernel
theorem dX8_settle_79 : decode cX8_settle 79 = .ok (.if_icmp .ne 6, 3) := by decide +kernel
theorem dX8_settle_82 : decode cX8_settle 82 = .ok (.bipush (-4), 2) := by decide +kernel
theorem dX8_settle_84 : decode cX8_settle 84 = .ok (.ireturn, 1) := by decide +kernel
theorem dX8_settle_85 : decode cX8_settle 85 = .ok (.aload_n 0, 1) := by decide +kernel
theorem dX8_settle_86 : decode cX8_settle 86 = .ok (.getfield 46, 3) := by decide +kernel
theorem dX8_settle_89 : decode cX8_settle 89 = .ok (.iload_n 3, 1) := by decide +kernel
theorem dX8_settle_90 : decode cX8_settle 90 = .ok (.iconst 1, 1) := by decide +kernel
theorem dX8_settle_91 : decode cX8_settle 91 = .ok (.iastore, 1) := by decide +kernel
theorem dX8_settle_92 : decode cX8_settle 92 = .ok (.iinc 4 1, 3) := by decide +kernel
theorem dX8_settle_95 : decode cX8_settle 95 = .ok (.goto (-38), 3) := by decide +kernel
theorem dX8_settle_98 : decode cX8_settle 98 = .ok (.iload_n 2, 1) := by decide +kernel
theorem dX8_settle_99 : decode cX8_settle 99 = .ok (.ifCond .ne 7, 3) := by decide +kernel
theorem dX8_settle_102 : decode cX8_settle 102 = .ok (.iload_n 3, 1) := by decide +kernel
theorem dX8_settle_103 : decode cX8_settle 103 = .ok (.goto 5, 3) := by decide +kernel
theorem dX8_settle_106 : decode cX8_settle 106 = .ok (.iload 4, 2) := by decide +kernel
theorem dX8_settle_108 : decode cX8_settle 108 = .ok (.ireturn, 1) := by decide +kernel
theorem dX8_test_0 : decode cX8_test 0 = .ok (.iload_n 1, 1) := by decide +kernel
theorem dX8_test_1 : decode cX8_test 1 = .ok (.i2l, 1) := by decide +kernel
theorem dX8_test_2 : decode cX8_test 2 = .ok (.lconst 1, 1) := by decide +kernel
theorem dX8_test_3 : decode cX8_test 3 = .ok (.iconst 1, 1) := by decide +kernel
theorem dX8_test_4 : decode cX8_test 4 = .ok (.aload_n 0, 1) := by decide +kernel
theorem dX8_test_5 : decode cX8_test 5 = .ok (.getfield 169, 3) := by decide +kernel
theorem dX8_test_8 : decode cX8_test 8 = .ok (.ishl, 1) := by decide +kernel
theorem dX8_test_9 : decode cX8_test 9 = .ok (.iconst 1, 1) := by decide +kernel
theorem dX8_test_10 : decode cX8_test 10 = .ok (.isub, 1) := by decide +kernel
theorem dX8_test_11 : decode cX8_test 11 = .ok (.i2l, 1) := by decide +kernel
theorem dX8_test_12 : decode cX8_test 12 = .ok (.invokestatic 69, 3) := by decide +kernel
theorem dX8_test_15 : decode cX8_test 15 = .ok (.ifCond .ne 5, 3) := by decide +kernel
theorem dX8_test_18 : decode cX8_test 18 = .ok (.iconst (-1), 1) := by decide +kernel
theorem dX8_test_19 : decode cX8_test 19 = .ok (.ireturn, 1) := by decide +kernel
theorem dX8_test_20 : decode cX8_test 20 = .ok (.aload_n 0, 1) := by decide +kernel
theorem dX8_test_21 : decode cX8_test 21 = .ok (.getfield 175, 3) := by decide +kernel
theorem dX8_test_24 : decode cX8_test 24 = .ok (.bipush 8, 2) := by decide +kernel
theorem dX8_test_26 : decode cX8_test 26 = .ok (.if_icmp .ne 6, 3) := by decide +kernel
theorem dX8_test_29 : decode cX8_test 29 = .ok (.bipush (-3), 2) := by decide +kernel
theorem dX8_test_31 : decode cX8_test 31 = .ok (.ireturn, 1) := by decide +kernel
theorem dX8_test_32 : decode cX8_test 32 = .ok (.aload_n 0, 1) := by decide +kernel
theorem dX8_test_33 : decode cX8_test 33 = .ok (.getfield 49, 3) := by decide +kernel
theorem dX8_test_36 : decode cX8_test 36 = .ok (.iconst 2, 1) := by decide +kernel
theorem dX8_test_37 : decode cX8_test 37 = .ok (.aload_n 0, 1) := by decide +kernel
theorem dX8_test_38 : decode cX8_test 38 = .ok (.getfield 175, 3) := by decide +kernel
theorem dX8_test_41 : decode cX8_test 41 = .ok (.imul, 1) := by decide +kernel
theorem dX8_test_42 : decode cX8_test 42 = .ok (.iload_n 1, 1) := by decide +kernel
theorem dX8_test_43 : decode cX8_test 43 = .ok (.iastore, 1) := by decide +kernel
theorem dX8_test_44 : decode cX8_test 44 = .ok (.aload_n 0, 1) := by decide +kernel
theorem dX8_test_45 : decode cX8_test 45 = .ok (.getfield 49, 3) := by decide +kernel
theorem dX8_test_48 : decode cX8_test 48 = .ok (.iconst 2, 1) := by decide +kernel
theorem dX8_test_49 : decode cX8_test 49 = .ok (.aload_n 0, 1) := by decide +kernel
theorem dX8_test_50 : decode cX8_test 50 = .ok (.getfield 175, 3) := by decide +kernel
theorem dX8_test_53 : decode cX8_test 53 = .ok (.imul, 1) := by decide +kernel
theorem dX8_test_54 : decode cX8_test 54 = .ok (.iconst 1, 1) := by decide +kernel
theorem dX8_test_55 : decode cX8_test 55 = .ok (.iadd, 1) := by decide +kernel
theorem dX8_test_56 : decode cX8_test 56 = .ok (.iload_n 2, 1) := by decide +kernel
theorem dX8_test_57 : decode cX8_test 57 = .ok (.ifCond .eq 7, 3) := by decide +kernel
theorem dX8_test_60 : decode cX8_test 60 = .ok (.iconst 1, 1) := by decide +kernel
theorem dX8_test_61 : decode cX8_test 61 = .ok (.goto 4, 3) := by decide +kernel
theorem dX8_test_64 : decode cX8_test 64 = .ok (.iconst 0, 1) := by decide +kernel
theorem dX8_test_65 : decode cX8_test 65 = .ok (.iastore, 1) := by decide +kernel
theorem dX8_test_66 : decode cX8_test 66 = .ok (.aload_n 0, 1) := by decide +kernel
theorem dX8_test_67 : decode cX8_test 67 = .ok (.dup, 1) := by decide +kernel
theorem dX8_test_68 : decode cX8_test 68 = .ok (.getfield 175, 3) := by decide +kernel
theorem dX8_test_71 : decode cX8_test 71 = .ok (.iconst 1, 1) := by decide +kernel
theorem dX8_test_72 : decode cX8_test 72 = .ok (.iadd, 1) := by decide +kernel
theorem dX8_test_73 : decode cX8_test 73 = .ok (.putfield 175, 3) := by decide +kernel
theorem dX8_test_76 : decode cX8_test 76 = .ok (.aload_n 0, 1) := by decide +kernel
theorem dX8_test_77 : decode cX8_test 77 = .ok (.getfield 175, 3) := by decide +kernel
theorem dX8_test_80 : decode cX8_test 80 = .ok (.ireturn, 1) := by decide +kernel
theorem dX8_untest_0 : decode cX8_untest 0 = .ok (.iload_n 1, 1) := by decide +kernel
theorem dX8_untest_1 : decode cX8_untest 1 = .ok (.i2l, 1) := by decide +kernel
theorem dX8_untest_2 : decode cX8_untest 2 = .ok (.lconst 0, 1) := by decide +kernel
theorem dX8_untest_3 : decode cX8_untest 3 = .ok (.aload_n 0, 1) := by decide +kernel
theorem dX8_untest_4 : decode cX8_untest 4 = .ok (.getfield 175, 3) := by decide +kernel
theorem dX8_untest_7 : decode cX8_untest 7 = .ok (.i2l, 1) := by decide +kernel
theorem dX8_untest_8 : decode cX8_untest 8 = .ok (.invokestatic 69, 3) := by decide +kernel
theorem dX8_untest_11 : decode cX8_untest 11 = .ok (.ifCond .ne 5, 3) := by decide +kernel
theorem dX8_untest_14 : decode cX8_untest 14 = .ok (.iconst (-1), 1) := by decide +kernel
theorem dX8_untest_15 : decode cX8_untest 15 = .ok (.ireturn, 1) := by decide +kernel
theorem dX8_untest_16 : decode cX8_untest 16 = .ok (.aload_n 0, 1) := by decide +kernel
theorem dX8_untest_17 : decode cX8_untest 17 = .ok (.getfield 175, 3) := by decide +kernel
theorem dX8_untest_20 : decode cX8_untest 20 = .ok (.istore_n 2, 1) := by decide +kernel
theorem dX8_untest_21 : decode cX8_untest 21 = .ok (.aload_n 0, 1) := by decide +kernel
theorem dX8_untest_22 : decode cX8_untest 22 = .ok (.iload_n 1, 1) := by decide +kernel
theorem dX8_untest_23 : decode cX8_untest 23 = .ok (.putfield 175, 3) := by decide +kernel
theorem dX8_untest_26 : decode cX8_untest 26 = .ok (.iload_n 2, 1) := by decide +kernel
theorem dX8_untest_27 : decode cX8_untest 27 = .ok (.ireturn, 1) := by decide +kernel
theorem dX8_canBeFalse_0 : decode cX8_canBeFalse 0 = .ok (.iconst 0, 1) := by decide +kernel
theorem dX8_canBeFalse_1 : decode cX8_canBeFalse 1 = .ok (.istore_n 3, 1) := by decide +kernel
theorem dX8_canBeFalse_2 : decode cX8_canBeFalse 2 = .ok (.iconst 0, 1) := by decide +kernel
theorem dX8_canBeFalse_3 : decode cX8_canBeFalse 3 = .ok (.istore 4, 2) := by decide +kernel
theorem dX8_canBeFalse_5 : decode cX8_canBeFalse 5 = .ok (.iload 4, 2) := by decide +kernel
theorem dX8_canBeFalse_7 : decode cX8_canBeFalse 7 = .ok (.aload_n 0, 1) := by decide +kernel
theorem dX8_canBeFalse_8 : decode cX8_canBeFalse 8 = .ok (.getfield 169, 3) := by decide +kernel
theorem dX8_canBeFalse_11 : decode cX8_canBeFalse 11 = .ok (.if_icmp .ge 18, 3) := by decide +kernel
theorem dX8_canBeFalse_14 : decode cX8_canBeFalse 14 = .ok (.iload_n 3, 1) := by decide +kernel
theorem dX8_canBeFalse_15 : decode cX8_canBeFalse 15 = .ok (.iload_n 1, 1) := by decide +kernel
theorem dX8_canBeFalse_16 : decode cX8_canBeFalse 16 = .ok (.iload 4, 2) := by decide +kernel
theorem dX8_canBeFalse_18 : decode cX8_canBeFalse 18 = .ok (.ishr, 1) := by decide +kernel
theorem dX8_canBeFalse_19 : decode cX8_canBeFalse 19 = .ok (.iconst 1, 1) := by decide +kernel
theorem dX8_canBeFalse_20 : decode cX8_canBeFalse 20 = .ok (.iand, 1) := by decide +kernel
theorem dX8_canBeFalse_21 : decode cX8_canBeFalse 21 = .ok (.iadd, 1) := by decide +kernel
theorem dX8_canBeFalse_22 : decode cX8_canBeFalse 22 = .ok (.istore_n 3, 1) := by decide +kernel
theorem dX8_canBeFalse_23 : decode cX8_canBeFalse 23 = .ok (.iinc 4 1, 3) := by decide +kernel
theorem dX8_canBeFalse_26 : decode cX8_canBeFalse 26 = .ok (.goto (-21), 3) := by decide +kernel
theorem dX8_canBeFalse_29 : decode cX8_canBeFalse 29 = .ok (.iload_n 3, 1) := by decide +kernel
theorem dX8_canBeFalse_30 : decode cX8_canBeFalse 30 = .ok (.iload_n 2, 1) := by decide +kernel
theorem dX8_canBeFalse_31 : decode cX8_canBeFalse 31 = .ok (.if_icmp .ne 7, 3) := by decide +kernel
theorem dX8_canBeFalse_34 : decode cX8_canBeFalse 34 = .ok (.iconst 1, 1) := by decide +kernel
theorem dX8_canBeFalse_35 : decode cX8_canBeFalse 35 = .ok (.goto 4, 3) := by decide +kernel
theorem dX8_canBeFalse_38 : decode cX8_canBeFalse 38 = .ok (.iconst 0, 1) := by decide +kernel
theorem dX8_canBeFalse_39 : decode cX8_canBeFalse 39 = .ok (.istore 4, 2) := by decide +kernel
theorem dX8_canBeFalse_41 : decode cX8_canBeFalse 41 = .ok (.iconst 0, 1) := by decide +kernel
theorem dX8_canBeFalse_42 : decode cX8_canBeFalse 42 = .ok (.istore 5, 2) := by decide +kernel
theorem dX8_canBeFalse_44 : decode cX8_canBeFalse 44 = .ok (.iload 5, 2) := by decide +kernel
theorem dX8_canBeFalse_46 : decode cX8_canBeFalse 46 = .ok (.aload_n 0, 1) := by decide +kernel
theorem dX8_canBeFalse_47 : decode cX8_canBeFalse 47 = .ok (.getfield 175, 3) := by decide +kernel
theorem dX8_canBeFalse_50 : decode cX8_canBeFalse 50 = .ok (.if_icmp .ge 63, 3) := by decide +kernel
theorem dX8_canBeFalse_53 : decode cX8_canBeFalse 53 = .ok (.iload 4, 2) := by decide +kernel
theorem dX8_canBeFalse_55 : decode cX8_canBeFalse 55 = .ok (.ifCond .eq 49, 3) := by decide +kernel
theorem dX8_canBeFalse_58 : decode cX8_canBeFalse 58 = .ok (.iload_n 1, 1) := by decide +kernel
theorem dX8_canBeFalse_59 : decode cX8_canBeFalse 59 = .ok (.aload_n 0, 1) := by decide +kernel
theorem dX8_canBeFalse_60 : decode cX8_canBeFalse 60 = .ok (.getfield 49, 3) := by decide +kernel
theorem dX8_canBeFalse_63 : decode cX8_canBeFalse 63 = .ok (.iconst 2, 1) := by decide +kernel
theorem dX8_canBeFalse_64 : decode cX8_canBeFalse 64 = .ok (.iload 5, 2) := by decide +kernel
theorem dX8_canBeFalse_66 : decode cX8_canBeFalse 66 = .ok (.imul, 1) := by decide +kernel
theorem dX8_canBeFalse_67 : decode cX8_canBeFalse 67 = .ok (.iaload, 1) := by decide +kernel
theorem dX8_canBeFalse_68 : decode cX8_canBeFalse 68 = .ok (.iand, 1) := by decide +kernel
theorem dX8_canBeFalse_69 : decode cX8_canBeFalse 69 = .ok (.ifCond .eq 7, 3) := by decide +kernel
theorem dX8_canBeFalse_72 : decode cX8_canBeFalse 72 = .ok (.iconst 1, 1) := by decide +kernel
theorem dX8_canBeFalse_73 : decode cX8_canBeFalse 73 = .ok (.goto 4, 3) := by decide +kernel
theorem dX8_canBeFalse_76 : decode cX8_canBeFalse 76 = .ok (.iconst 0, 1) := by decide +kernel
theorem dX8_canBeFalse_77 : decode cX8_canBeFalse 77 = .ok (.aload_n 0, 1) := by decide +kernel
theorem dX8_canBeFalse_78 : decode cX8_canBeFalse 78 = .ok (.getfield 49, 3) := by decide +kernel
theorem dX8_canBeFalse_81 : decode cX8_canBeFalse 81 = .ok (.iconst 2, 1) := by decide +kernel
theorem dX8_canBeFalse_82 : decode cX8_canBeFalse 82 = .ok (.iload 5, 2) := by decide +kernel
theorem dX8_canBeFalse_84 : decode cX8_canBeFalse 84 = .ok (.imul, 1) := by decide +kernel
theorem dX8_canBeFalse_85 : decode cX8_canBeFalse 85 = .ok (.iconst 1, 1) := by decide +kernel
theorem dX8_canBeFalse_86 : decode cX8_canBeFalse 86 = .ok (.iadd, 1) := by decide +kernel
theorem dX8_canBeFalse_87 : decode cX8_canBeFalse 87 = .ok (.iaload, 1) := by decide +kernel
theorem dX8_canBeFalse_88 : decode cX8_canBeFalse 88 = .ok (.iconst 1, 1) := by decide +kernel
theorem dX8_canBeFalse_89 : decode cX8_canBeFalse 89 = .ok (.if_icmp .ne 7, 3) := by decide +kernel
theorem dX8_canBeFalse_92 : decode cX8_canBeFalse 92 = .ok (.iconst 1, 1) := by decide +kernel
theorem dX8_canBeFalse_93 : decode cX8_canBeFalse 93 = .ok (.goto 4, 3) := by decide +kernel
theorem dX8_canBeFalse_96 : decode cX8_canBeFalse 96 = .ok (.iconst 0, 1) := by decide +kernel
theorem dX8_canBeFalse_97 : decode cX8_canBeFalse 97 = .ok (.if_icmp .ne 7, 3) := by decide +kernel
theorem dX8_canBeFalse_100 : decode cX8_canBeFalse 100 = .ok (.iconst 1, 1) := by decide +kernel
theorem dX8_canBeFalse_101 : decode cX8_canBeFalse 101 = .ok (.goto 4, 3) := by decide +kernel
theorem dX8_canBeFalse_104 : decode cX8_canBeFalse 104 = .ok (.iconst 0, 1) := by decide +kernel
theorem dX8_canBeFalse_105 : decode cX8_canBeFalse 105 = .ok (.istore 4, 2) := by decide +kernel
theorem dX8_canBeFalse_107 : decode cX8_canBeFalse 107 = .ok (.iinc 5 1, 3) := by decide +kernel
theorem dX8_canBeFalse_110 : decode cX8_canBeFalse 110 = .ok (.goto (-66), 3) := by decide +kernel
theorem dX8_canBeFalse_113 : decode cX8_canBeFalse 113 = .ok (.iload 4, 2) := by decide +kernel
theorem dX8_canBeFalse_115 : decode cX8_canBeFalse 115 = .ok (.ireturn, 1) := by decide +kernel
theorem dX8_fakes_0 : decode cX8_fakes 0 = .ok (.iload_n 1, 1) := by decide +kernel
theorem dX8_fakes_1 : decode cX8_fakes 1 = .ok (.i2l, 1) := by decide +kernel
theorem dX8_fakes_2 : decode cX8_fakes 2 = .ok (.lconst 0, 1) := by decide +kernel
theorem dX8_fakes_3 : decode cX8_fakes 3 = .ok (.ldc2_w 217, 3) := by decide +kernel
theorem dX8_fakes_6 : decode cX8_fakes 6 = .ok (.invokestatic 69, 3) := by decide +kernel
theorem dX8_fakes_9 : decode cX8_fakes 9 = .ok (.ifCond .eq 15, 3) := by decide +kernel
theorem dX8_fakes_12 : decode cX8_fakes 12 = .ok (.iload_n 2, 1) := by decide +kernel
theorem dX8_fakes_13 : decode cX8_fakes 13 = .ok (.i2l, 1) := by decide +kernel
theorem dX8_fakes_14 : decode cX8_fakes 14 = .ok (.lconst 0, 1) := by decide +kernel
theorem dX8_fakes_15 : decode cX8_fakes 15 = .ok (.ldc2_w 217, 3) := by decide +kernel
theorem dX8_fakes_18 : decode cX8_fakes 18 = .ok (.invokestatic 69, 3) := by decide +kernel
theorem dX8_fakes_21 : decode cX8_fakes 21 = .ok (.ifCond .ne 5, 3) := by decide +kernel
theorem dX8_fakes_24 : decode cX8_fakes 24 = .ok (.iconst (-1), 1) := by decide +kernel
theorem dX8_fakes_25 : decode cX8_fakes 25 = .ok (.ireturn, 1) := by decide +kernel
theorem dX8_fakes_26 : decode cX8_fakes 26 = .ok (.iconst 0, 1) := by decide +kernel
theorem dX8_fakes_27 : decode cX8_fakes 27 = .ok (.istore_n 3, 1) := by decide +kernel
theorem dX8_fakes_28 : decode cX8_fakes 28 = .ok (.bipush (-4), 2) := by decide +kernel
theorem dX8_fakes_30 : decode cX8_fakes 30 = .ok (.istore 4, 2) := by decide +kernel
theorem dX8_fakes_32 : decode cX8_fakes 32 = .ok (.iconst 1, 1) := by decide +kernel
theorem dX8_fakes_33 : decode cX8_fakes 33 = .ok (.aload_n 0, 1) := by decide +kernel
theorem dX8_fakes_34 : decode cX8_fakes 34 = .ok (.getfield 169, 3) := by decide +kernel
theorem dX8_fakes_37 : decode cX8_fakes 37 = .ok (.ishl, 1) := by decide +kernel
theorem dX8_fakes_38 : decode cX8_fakes 38 = .ok (.iconst 1, 1) := by decide +kernel
theorem dX8_fakes_39 : decode cX8_fakes 39 = .ok (.isub, 1) := by decide +kernel
theorem dX8_fakes_40 : decode cX8_fakes 40 = .ok (.istore 5, 2) := by decide +kernel
theorem dX8_fakes_42 : decode cX8_fakes 42 = .ok (.iconst 0, 1) := by decide +kernel
theorem dX8_fakes_43 : decode cX8_fakes 43 = .ok (.istore 6, 2) := by decide +kernel
theorem dX8_fakes_45 : decode cX8_fakes 45 = .ok (.iconst 0, 1) := by decide +kernel
theorem dX8_fakes_46 : decode cX8_fakes 46 = .ok (.istore 7, 2) := by decide +kernel
theorem dX8_fakes_48 : decode cX8_fakes 48 = .ok (.iload 7, 2) := by decide +kernel
theorem dX8_fakes_50 : decode cX8_fakes 50 = .ok (.iconst 1, 1) := by decide +kernel
theorem dX8_fakes_51 : decode cX8_fakes 51 = .ok (.aload_n 0, 1) := by decide +kernel
theorem dX8_fakes_52 : decode cX8_fakes 52 = .ok (.getfield 169, 3) := by decide +kernel
theorem dX8_fakes_55 : decode cX8_fakes 55 = .ok (.ishl, 1) := by decide +kernel
theorem dX8_fakes_56 : decode cX8_fakes 56 = .ok (.if_icmp .ge 49, 3) := by decide +kernel
theorem dX8_fakes_59 : decode cX8_fakes 59 = .ok (.aload_n 0, 1) := by decide +kernel
theorem dX8_fakes_60 : decode cX8_fakes 60 = .ok (.iload 7, 2) := by decide +kernel
theorem dX8_fakes_62 : decode cX8_fakes 62 = .ok (.iload_n 1, 1) := by decide +kernel
theorem dX8_fakes_63 : decode cX8_fakes 63 = .ok (.invokevirtual 259, 3) := by decide +kernel
theorem dX8_fakes_66 : decode cX8_fakes 66 = .ok (.ifCond .eq 33, 3) := by decide +kernel
theorem dX8_fakes_69 : decode cX8_fakes 69 = .ok (.iload_n 3, 1) := by decide +kernel
theorem dX8_fakes_70 : decode cX8_fakes 70 = .ok (.ifCond .ne 8, 3) := by decide +kernel
theorem dX8_fakes_73 : decode cX8_fakes 73 = .ok (.iload 7, 2) := by decide +kernel
theorem dX8_fakes_75 : decode cX8_fakes 75 = .ok (.goto 5, 3) := by decide +kernel
theorem dX8_fakes_78 : decode cX8_fakes 78 = .ok (.iload 4, 2) := by decide +kernel
theorem dX8_fakes_80 : decode cX8_fakes 80 = .ok (.istore 4, 2) := by decide +kernel
theorem dX8_fakes_82 : decode cX8_fakes 82 = .ok (.iload 5, 2) := by decide +kernel
theorem dX8_fakes_84 : decode cX8_fakes 84 = .ok (.iload 7, 2) := by decide +kernel
theorem dX8_fakes_86 : decode cX8_fakes 86 = .ok (.iand, 1) := by decide +kernel
theorem dX8_fakes_87 : decode cX8_fakes 87 = .ok (.istore 5, 2) := by decide +kernel
theorem dX8_fakes_89 : decode cX8_fakes 89 = .ok (.iload 6, 2) := by decide +kernel
theorem dX8_fakes_91 : decode cX8_fakes 91 = .ok (.iload 7, 2) := by decide +kernel
theorem dX8_fakes_93 : decode cX8_fakes 93 = .ok (.ior, 1) := by decide +kernel
theorem dX8_fakes_94 : decode cX8_fakes 94 = .ok (.istore 6, 2) := by decide +kernel
theorem dX8_fakes_96 : decode cX8_fakes 96 = .ok (.iinc 3 1, 3) := by decide +kernel
theorem dX8_fakes_99 : decode cX8_fakes 99 = .ok (.iinc 7 1, 3) := by decide +kernel
theorem dX8_fakes_102 : decode cX8_fakes 102 = .ok (.goto (-54), 3) := by decide +kernel
theorem dX8_fakes_105 : decode cX8_fakes 105 = .ok (.iload_n 2, 1) := by decide +kernel
theorem dX8_fakes_106 : decode cX8_fakes 106 = .ok (.ifCond .ne 7, 3) := by decide +kernel
theorem dX8_fakes_109 : decode cX8_fakes 109 = .ok (.iload_n 3, 1) := by decide +kernel
theorem dX8_fakes_110 : decode cX8_fakes 110 = .ok (.goto 45, 3) := by decide +kernel
theorem dX8_fakes_113 : decode cX8_fakes 113 = .ok (.iload_n 3, 1) := by decide +kernel
theorem dX8_fakes_114 : decode cX8_fakes 114 = .ok (.ifCond .ne 8, 3) := by decide +kernel
theorem dX8_fakes_117 : decode cX8_fakes 117 = .ok (.bipush (-4), 2) := by decide +kernel
theorem dX8_fakes_119 : decode cX8_fakes 119 = .ok (.goto 36, 3) := by decide +kernel
theorem dX8_fakes_122 : decode cX8_fakes 122 = .ok (.iload_n 2, 1) := by decide +kernel
theorem dX8_fakes_123 : decode cX8_fakes 123 = .ok (.iconst 1, 1) := by decide +kernel
theorem dX8_fakes_124 : decode cX8_fakes 124 = .ok (.if_icmp .ne 8, 3) := by decide +kernel
theorem dX8_fakes_127 : decode cX8_fakes 127 = .ok (.iload 4, 2) := by decide +kernel
theorem dX8_fakes_129 : decode cX8_fakes 129 = .ok (.goto 26, 3) := by decide +kernel
theorem dX8_fakes_132 : decode cX8_fakes 132 = .ok (.iload_n 2, 1) := by decide +kernel
theorem dX8_fakes_133 : decode cX8_fakes 133 = .ok (.iconst 2, 1) := by decide +kernel
theorem dX8_fakes_134 : decode cX8_fakes 134 = .ok (.if_icmp .ne 8, 3) := by decide +kernel
theorem dX8_fakes_137 : decode cX8_fakes 137 = .ok (.iload 5, 2) := by decide +kernel
theorem dX8_fakes_139 : decode cX8_fakes 139 = .ok (.goto 16, 3) := by decide +kernel
theorem dX8_fakes_142 : decode cX8_fakes 142 = .ok (.iconst 1, 1) := by decide +kernel
theorem dX8_fakes_143 : decode cX8_fakes 143 = .ok (.aload_n 0, 1) := by decide +kernel
theorem dX8_fakes_144 : decode cX8_fakes 144 = .ok (.getfield 169, 3) := by decide +kernel
theorem dX8_fakes_147 : decode cX8_fakes 147 = .ok (.ishl, 1) := by decide +kernel
theorem dX8_fakes_148 : decode cX8_fakes 148 = .ok (.iconst 1, 1) := by decide +kernel
theorem dX8_fakes_149 : decode cX8_fakes 149 = .ok (.isub, 1) := by decide +kernel
theorem dX8_fakes_150 : decode cX8_fakes 150 = .ok (.iload 6, 2) := by decide +kernel
theorem dX8_fakes_152 : decode cX8_fakes 152 = .ok (.iconst (-1), 1) := by decide +kernel
theorem dX8_fakes_153 : decode cX8_fakes 153 = .ok (.ixor, 1) := by decide +kernel
theorem dX8_fakes_154 : decode cX8_fakes 154 = .ok (.iand, 1) := by decide +kernel
theorem dX8_fakes_155 : decode cX8_fakes 155 = .ok (.ireturn, 1) := by decide +kernel
theorem dX8_next_0 : decode cX8_next 0 = .ok (.iload_n 1, 1) := by decide +kernel
theorem dX8_next_1 : decode cX8_next 1 = .ok (.i2l, 1) := by decide +kernel
theorem dX8_next_2 : decode cX8_next 2 = .ok (.lconst 0, 1) := by decide +kernel
theorem dX8_next_3 : decode cX8_next 3 = .ok (.ldc2_w 217, 3) := by decide +kernel
theorem dX8_next_6 : decode cX8_next 6 = .ok (.invokestatic 69, 3) := by decide +kernel
theorem dX8_next_9 : decode cX8_next 9 = .ok (.ifCond .eq 13, 3) := by decide +kernel
theorem dX8_next_12 : decode cX8_next 12 = .ok (.iload_n 2, 1) := by decide +kernel
theorem dX8_next_13 : decode cX8_next 13 = .ok (.i2l, 1) := by decide +kernel
theorem dX8_next_14 : decode cX8_next 14 = .ok (.lconst 0, 1) := by decide +kernel
theorem dX8_next_15 : decode cX8_next 15 = .ok (.lconst 1, 1) := by decide +kernel
theorem dX8_next_16 : decode cX8_next 16 = .ok (.invokestatic 69, 3) := by decide +kernel
theorem dX8_next_19 : decode cX8_next 19 = .ok (.ifCond .ne 5, 3) := by decide +kernel
theorem dX8_next_22 : decode cX8_next 22 = .ok (.iconst (-1), 1) := by decide +kernel
theorem dX8_next_23 : decode cX8_next 23 = .ok (.ireturn, 1) := by decide +kernel
theorem dX8_next_24 : decode cX8_next 24 = .ok (.aload_n 0, 1) := by decide +kernel
theorem dX8_next_25 : decode cX8_next 25 = .ok (.iload_n 1, 1) := by decide +kernel
theorem dX8_next_26 : decode cX8_next 26 = .ok (.iconst 0, 1) := by decide +kernel
theorem dX8_next_27 : decode cX8_next 27 = .ok (.invokevirtual 262, 3) := by decide +kernel
theorem dX8_next_30 : decode cX8_next 30 = .ok (.istore_n 3, 1) := by decide +kernel
theorem dX8_next_31 : decode cX8_next 31 = .ok (.iload_n 3, 1) := by decide +kernel
theorem dX8_next_32 : decode cX8_next 32 = .ok (.istore 4, 2) := by decide +kernel
theorem dX8_next_34 : decode cX8_next 34 = .ok (.bipush (-4), 2) := by decide +kernel
theorem dX8_next_36 : decode cX8_next 36 = .ok (.istore 5, 2) := by decide +kernel
theorem dX8_next_38 : decode cX8_next 38 = .ok (.iconst 1, 1) := by decide +kernel
theorem dX8_next_39 : decode cX8_next 39 = .ok (.istore 6, 2) := by decide +kernel
theorem dX8_next_41 : decode cX8_next 41 = .ok (.iload 6, 2) := by decide +kernel
theorem dX8_next_43 : decode cX8_next 43 = .ok (.iconst 1, 1) := by decide +kernel
theorem dX8_next_44 : decode cX8_next 44 = .ok (.aload_n 0, 1) := by decide +kernel
theorem dX8_next_45 : decode cX8_next 45 = .ok (.getfield 169, 3) := by decide +kernel
theorem dX8_next_48 : decode cX8_next 48 = .ok (.ishl, 1) := by decide +kernel
theorem dX8_next_49 : decode cX8_next 49 = .ok (.if_icmp .ge 112, 3) := by decide +kernel
theorem dX8_next_52 : decode cX8_next 52 = .ok (.iconst 0, 1) := by decide +kernel
theorem dX8_next_53 : decode cX8_next 53 = .ok (.istore 7, 2) := by decide +kernel
theorem dX8_next_55 : decode cX8_next 55 = .ok (.iconst 0, 1) := by decide +kernel
theorem dX8_next_56 : decode cX8_next 56 = .ok (.istore 8, 2) := by decide +kernel
theorem dX8_next_58 : decode cX8_next 58 = .ok (.iload 8, 2) := by decide +kernel
theorem dX8_next_60 : decode cX8_next 60 = .ok (.iconst 1, 1) := by decide +kernel
theorem dX8_next_61 : decode cX8_next 61 = .ok (.aload_n 0, 1) := by decide +kernel
theorem dX8_next_62 : decode cX8_next 62 = .ok (.getfield 169, 3) := by decide +kernel
theorem dX8_next_65 : decode cX8_next 65 = .ok (.ishl, 1) := by decide +kernel
theorem dX8_next_66 : decode cX8_next 66 = .ok (.if_icmp .ge 37, 3) := by decide +kernel
theorem dX8_next_69 : decode cX8_next 69 = .ok (.iload 7, 2) := by decide +kernel
theorem dX8_next_71 : decode cX8_next 71 = .ok (.iload 8, 2) := by decide +kernel
theorem dX8_next_73 : decode cX8_next 73 = .ok (.iload 6, 2) := by decide +kernel
theorem dX8_next_75 : decode cX8_next 75 = .ok (.iand, 1) := by decide +kernel
theorem dX8_next_76 : decode cX8_next 76 = .ok (.ifCond .eq 17, 3) := by decide +kernel
theorem dX8_next_79 : decode cX8_next 79 = .ok (.aload_n 0, 1) := by decide +kernel
theorem dX8_next_80 : decode cX8_next 80 = .ok (.iload 8, 2) := by decide +kernel
theorem dX8_next_82 : decode cX8_next 82 = .ok (.iload_n 1, 1) := by decide +kernel
theorem dX8_next_83 : decode cX8_next 83 = .ok (.invokevirtual 259, 3) := by decide +kernel
theorem dX8_next_86 : decode cX8_next 86 = .ok (.ifCond .eq 7, 3) := by decide +kernel
theorem dX8_next_89 : decode cX8_next 89 = .ok (.iconst 1, 1) := by decide +kernel
theorem dX8_next_90 : decode cX8_next 90 = .ok (.goto 4, 3) := by decide +kernel
theorem dX8_next_93 : decode cX8_next 93 = .ok (.iconst 0, 1) := by decide +kernel
theorem dX8_next_94 : decode cX8_next 94 = .ok (.iadd, 1) := by decide +kernel
theorem dX8_next_95 : decode cX8_next 95 = .ok (.istore 7, 2) := by decide +kernel
theorem dX8_next_97 : decode cX8_next 97 = .ok (.iinc 8 1, 3) := by decide +kernel
theorem dX8_next_100 : decode cX8_next 100 = .ok (.goto (-42), 3) := by decide +kernel
theorem dX8_next_103 : decode cX8_next 103 = .ok (.iload 7, 2) := by decide +kernel
theorem dX8_next_105 : decode cX8_next 105 = .ok (.iload_n 3, 1) := by decide +kernel
theorem dX8_next_106 : decode cX8_next 106 = .ok (.iload 7, 2) := by decide +kernel
theorem dX8_next_108 : decode cX8_next 108 = .ok (.isub, 1) := by decide +kernel
theorem dX8_next_109 : decode cX8_next 109 = .ok (.if_icmp .le 8, 3) := by decide +kernel
theorem dX8_next_112 : decode cX8_next 112 = .ok (.iload 7, 2) := by decide +kernel
theorem dX8_next_114 : decode cX8_next 114 = .ok (.goto 7, 3) := by decide +kernel
theorem dX8_next_117 : decode cX8_next 117 = .ok (.iload_n 3, 1) := by decide +kernel
theorem dX8_next_118 : decode cX8_next 118 = .ok (.iload 7, 2) := by decide +kernel
theorem dX8_next_120 : decode cX8_next 120 = .ok (.isub, 1) := by decide +kernel
theorem dX8_next_121 : decode cX8_next 121 = .ok (.istore 8, 2) := by decide +kernel
theorem dX8_next_123 : decode cX8_next 123 = .ok (.iload 8, 2) := by decide +kernel
theorem dX8_next_125 : decode cX8_next 125 = .ok (.iload 4, 2) := by decide +kernel
theorem dX8_next_127 : decode cX8_next 127 = .ok (.if_icmp .ge 8, 3) := by decide +kernel
theorem dX8_next_130 : decode cX8_next 130 = .ok (.iload 6, 2) := by decide +kernel
theorem dX8_next_132 : decode cX8_next 132 = .ok (.goto 5, 3) := by decide +kernel
theorem dX8_next_135 : decode cX8_next 135 = .ok (.iload 5, 2) := by decide +kernel
theorem dX8_next_137 : decode cX8_next 137 = .ok (.istore 5, 2) := by decide +kernel
theorem dX8_next_139 : decode cX8_next 139 = .ok (.iload 8, 2) := by decide +kernel
theorem dX8_next_141 : decode cX8_next 141 = .ok (.iload 4, 2) := by decide +kernel
theorem dX8_next_143 : decode cX8_next 143 = .ok (.if_icmp .ge 8, 3) := by decide +kernel
theorem dX8_next_146 : decode cX8_next 146 = .ok (.iload 8, 2) := by decide +kernel
theorem dX8_next_148 : decode cX8_next 148 = .ok (.goto 5, 3) := by decide +kernel
theorem dX8_next_151 : decode cX8_next 151 = .ok (.iload 4, 2) := by decide +kernel
theorem dX8_next_153 : decode cX8_next 153 = .ok (.istore 4, 2) := by decide +kernel
theorem dX8_next_155 : decode cX8_next 155 = .ok (.iinc 6 1, 3) := by decide +kernel
theorem dX8_next_158 : decode cX8_next 158 = .ok (.goto (-117), 3) := by decide +kernel
theorem dX8_next_161 : decode cX8_next 161 = .ok (.iload 5, 2) := by decide +kernel
theorem dX8_next_163 : decode cX8_next 163 = .ok (.bipush (-4), 2) := by decide +kernel
theorem dX8_next_165 : decode cX8_next 165 = .ok (.if_icmp .eq 7, 3) := by decide +kernel
theorem dX8_next_168 : decode cX8_next 168 = .ok (.iload_n 2, 1) := by decide +kernel
theorem dX8_next_169 : decode cX8_next 169 = .ok (.ifCond .ne 8, 3) := by decide +kernel
theorem dX8_next_172 : decode cX8_next 172 = .ok (.iload 5, 2) := by decide +kernel
theorem dX8_next_174 : decode cX8_next 174 = .ok (.goto 5, 3) := by decide +kernel
theorem dX8_next_177 : decode cX8_next 177 = .ok (.iload 4, 2) := by decide +kernel
theorem dX8_next_179 : decode cX8_next 179 = .ok (.ireturn, 1) := by decide +kernel
theorem dX8_draws_0 : decode cX8_draws 0 = .ok (.aload_n 0, 1) := by decide +kernel
theorem dX8_draws_1 : decode cX8_draws 1 = .ok (.aload_n 0, 1) := by decide +kernel
theorem dX8_draws_2 : decode cX8_draws 2 = .ok (.getfield 265, 3) := by decide +kernel
theorem dX8_draws_5 : decode cX8_draws 5 = .ok (.ldc_w 268, 3) := by decide +kernel
theorem dX8_draws_8 : decode cX8_draws 8 = .ok (.imul, 1) := by decide +kernel
theorem dX8_draws_9 : decode cX8_draws 9 = .ok (.sipush 12345, 3) := by decide +kernel
theorem dX8_draws_12 : decode cX8_draws 12 = .ok (.iadd, 1) := by decide +kernel
theorem dX8_draws_13 : decode cX8_draws 13 = .ok (.putfield 265, 3) := by decide +kernel
theorem dX8_draws_16 : decode cX8_draws 16 = .ok (.aload_n 0, 1) := by decide +kernel
theorem dX8_draws_17 : decode cX8_draws 17 = .ok (.getfield 265, 3) := by decide +kernel
theorem dX8_draws_20 : decode cX8_draws 20 = .ok (.bipush 16, 2) := by decide +kernel
theorem dX8_draws_22 : decode cX8_draws 22 = .ok (.ishr, 1) := by decide +kernel
theorem dX8_draws_23 : decode cX8_draws 23 = .ok (.sipush 32767, 3) := by decide +kernel
theorem dX8_draws_26 : decode cX8_draws 26 = .ok (.iand, 1) := by decide +kernel
theorem dX8_draws_27 : decode cX8_draws 27 = .ok (.iload_n 1, 1) := by decide +kernel
theorem dX8_draws_28 : decode cX8_draws 28 = .ok (.irem, 1) := by decide +kernel
theorem dX8_draws_29 : decode cX8_draws 29 = .ok (.ireturn, 1) := by decide +kernel
theorem dX8_chatter_0 : decode cX8_chatter 0 = .ok (.iload_n 2, 1) := by decide +kernel
theorem dX8_chatter_1 : decode cX8_chatter 1 = .ok (.i2l, 1) := by decide +kernel
theorem dX8_chatter_2 : decode cX8_chatter 2 = .ok (.lconst 1, 1) := by decide +kernel
theorem dX8_chatter_3 : decode cX8_chatter 3 = .ok (.ldc2_w 269, 3) := by decide +kernel
theorem dX8_chatter_6 : decode cX8_chatter 6 = .ok (.invokestatic 69, 3) := by decide +kernel
theorem dX8_chatter_9 : decode cX8_chatter 9 = .ok (.ifCond .ne 5, 3) := by decide +kernel
theorem dX8_chatter_12 : decode cX8_chatter 12 = .ok (.iconst (-1), 1) := by decide +kernel
theorem dX8_chatter_13 : decode cX8_chatter 13 = .ok (.ireturn, 1) := by decide +kernel
theorem dX8_chatter_14 : decode cX8_chatter 14 = .ok (.aload_n 0, 1) := by decide +kernel
theorem dX8_chatter_15 : decode cX8_chatter 15 = .ok (.getfield 166, 3) := by decide +kernel
theorem dX8_chatter_18 : decode cX8_chatter 18 = .ok (.ifCond .ne 6, 3) := by decide +kernel
theorem dX8_chatter_21 : decode cX8_chatter 21 = .ok (.bipush (-2), 2) := by decide +kernel
theorem dX8_chatter_23 : decode cX8_chatter 23 = .ok (.ireturn, 1) := by decide +kernel
theorem dX8_chatter_24 : decode cX8_chatter 24 = .ok (.aload_n 0, 1) := by decide +kernel
theorem dX8_chatter_25 : decode cX8_chatter 25 = .ok (.iload_n 1, 1) := by decide +kernel
theorem dX8_chatter_26 : decode cX8_chatter 26 = .ok (.putfield 265, 3) := by decide +kernel
theorem dX8_chatter_29 : decode cX8_chatter 29 = .ok (.iconst 0, 1) := by decide +kernel
theorem dX8_chatter_30 : decode cX8_chatter 30 = .ok (.istore_n 3, 1) := by decide +kernel
theorem dX8_chatter_31 : decode cX8_chatter 31 = .ok (.iconst 0, 1) := by decide +kernel
theorem dX8_chatter_32 : decode cX8_chatter 32 = .ok (.istore 4, 2) := by decide +kernel
theorem dX8_chatter_34 : decode cX8_chatter 34 = .ok (.iload 4, 2) := by decide +kernel
theorem dX8_chatter_36 : decode cX8_chatter 36 = .ok (.iload_n 2, 1) := by decide +kernel
theorem dX8_chatter_37 : decode cX8_chatter 37 = .ok (.if_icmp .ge 65, 3) := by decide +kernel
theorem dX8_chatter_40 : decode cX8_chatter 40 = .ok (.aload_n 0, 1) := by decide +kernel
theorem dX8_chatter_41 : decode cX8_chatter 41 = .ok (.bipush 12, 2) := by decide +kernel
theorem dX8_chatter_43 : decode cX8_chatter 43 = .ok (.invokevirtual 271, 3) := by decide +kernel
theorem dX8_chatter_46 : decode cX8_chatter 46 = .ok (.istore 5, 2) := by decide +kernel
theorem dX8_chatter_48 : decode cX8_chatter 48 = .ok (.aload_n 0, 1) := by decide +kernel
theorem dX8_chatter_49 : decode cX8_chatter 49 = .ok (.aload_n 0, 1) := by decide +kernel
theorem dX8_chatter_50 : decode cX8_chatter 50 = .ok (.getfield 166, 3) := by decide +kernel
theorem dX8_chatter_53 : decode cX8_chatter 53 = .ok (.invokevirtual 271, 3) := by decide +kernel
theorem dX8_chatter_56 : decode cX8_chatter 56 = .ok (.istore 6, 2) := by decide +kernel
theorem dX8_chatter_58 : decode cX8_chatter 58 = .ok (.aload_n 0, 1) := by decide +kernel
theorem dX8_chatter_59 : decode cX8_chatter 59 = .ok (.aload_n 0, 1) := by decide +kernel
theorem dX8_chatter_60 : decode cX8_chatter 60 = .ok (.getfield 166, 3) := by decide +kernel
theorem dX8_chatter_63 : decode cX8_chatter 63 = .ok (.invokevirtual 271, 3) := by decide +kernel
theorem dX8_chatter_66 : decode cX8_chatter 66 = .ok (.istore 7, 2) := by decide +kernel
theorem dX8_chatter_68 : decode cX8_chatter 68 = .ok (.iload_n 3, 1) := by decide +kernel
theorem dX8_chatter_69 : decode cX8_chatter 69 = .ok (.iload 6, 2) := by decide +kernel
theorem dX8_chatter_71 : decode cX8_chatter 71 = .ok (.iload 7, 2) := by decide +kernel
theorem dX8_chatter_73 : decode cX8_chatter 73 = .ok (.if_icmp .eq 20, 3) := by decide +kernel
theorem dX8_chatter_76 : decode cX8_chatter 76 = .ok (.aload_n 0, 1) := by decide +kernel
theorem dX8_chatter_77 : decode cX8_chatter 77 = .ok (.iload 5, 2) := by decide +kernel
theorem dX8_chatter_79 : decode cX8_chatter 79 = .ok (.iload 6, 2) := by decide +kernel
theorem dX8_chatter_81 : decode cX8_chatter 81 = .ok (.iload 7, 2) := by decide +kernel
theorem dX8_chatter_83 : decode cX8_chatter 83 = .ok (.invokevirtual 213, 3) := by decide +kernel
theorem dX8_chatter_86 : decode cX8_chatter 86 = .ok (.ifCond .eq 7, 3) := by decide +kernel
theorem dX8_chatter_89 : decode cX8_chatter 89 = .ok (.iconst 1, 1) := by decide +kernel
theorem dX8_chatter_90 : decode cX8_chatter 90 = .ok (.goto 4, 3) := by decide +kernel
theorem dX8_chatter_93 : decode cX8_chatter 93 = .ok (.iconst 0, 1) := by decide +kernel
theorem dX8_chatter_94 : decode cX8_chatter 94 = .ok (.iadd, 1) := by decide +kernel
theorem dX8_chatter_95 : decode cX8_chatter 95 = .ok (.istore_n 3, 1) := by decide +kernel
theorem dX8_chatter_96 : decode cX8_chatter 96 = .ok (.iinc 4 1, 3) := by decide +kernel
theorem dX8_chatter_99 : decode cX8_chatter 99 = .ok (.goto (-65), 3) := by decide +kernel
theorem dX8_chatter_102 : decode cX8_chatter 102 = .ok (.iload_n 3, 1) := by decide +kernel
theorem dX8_chatter_103 : decode cX8_chatter 103 = .ok (.ireturn, 1) := by decide +kernel
theorem dX8_copies_0 : decode cX8_copies 0 = .ok (.iconst 0, 1) := by decide +kernel
theorem dX8_copies_1 : decode cX8_copies 1 = .ok (.istore_n 3, 1) := by decide +kernel
theorem dX8_copies_2 : decode cX8_copies 2 = .ok (.iload_n 3, 1) := by decide +kernel
theorem dX8_copies_3 : decode cX8_copies 3 = .ok (.bipush 57, 2) := by decide +kernel
theorem dX8_copies_5 : decode cX8_copies 5 = .ok (.if_icmp .ge 25, 3) := by decide +kernel
theorem dX8_copies_8 : decode cX8_copies 8 = .ok (.aload_n 0, 1) := by decide +kernel
theorem dX8_copies_9 : decode cX8_copies 9 = .ok (.getfield 7, 3) := by decide +kernel
theorem dX8_copies_12 : decode cX8_copies 12 = .ok (.iload_n 2, 1) := by decide +kernel
theorem dX8_copies_13 : decode cX8_copies 13 = .ok (.iload_n 3, 1) := by decide +kernel
theorem dX8_copies_14 : decode cX8_copies 14 = .ok (.iadd, 1) := by decide +kernel
theorem dX8_copies_15 : decode cX8_copies 15 = .ok (.aload_n 0, 1) := by decide +kernel
theorem dX8_copies_16 : decode cX8_copies 16 = .ok (.getfield 7, 3) := by decide +kernel
theorem dX8_copies_19 : decode cX8_copies 19 = .ok (.iload_n 1, 1) := by decide +kernel
theorem dX8_copies_20 : decode cX8_copies 20 = .ok (.iload_n 3, 1) := by decide +kernel
theorem dX8_copies_21 : decode cX8_copies 21 = .ok (.iadd, 1) := by decide +kernel
theorem dX8_copies_22 : decode cX8_copies 22 = .ok (.iaload, 1) := by decide +kernel
theorem dX8_copies_23 : decode cX8_copies 23 = .ok (.iastore, 1) := by decide +kernel
theorem dX8_copies_24 : decode cX8_copies 24 = .ok (.iinc 3 1, 3) := by decide +kernel
theorem dX8_copies_27 : decode cX8_copies 27 = .ok (.goto (-25), 3) := by decide +kernel
theorem dX8_copies_30 : decode cX8_copies 30 = .ok (.return_, 1) := by decide +kernel
theorem dX8_keep_0 : decode cX8_keep 0 = .ok (.iload_n 1, 1) := by decide +kernel
theorem dX8_keep_1 : decode cX8_keep 1 = .ok (.i2l, 1) := by decide +kernel
theorem dX8_keep_2 : decode cX8_keep 2 = .ok (.lconst 0, 1) := by decide +kernel
theorem dX8_keep_3 : decode cX8_keep 3 = .ok (.lconst 1, 1) := by decide +kernel
theorem dX8_keep_4 : decode cX8_keep 4 = .ok (.invokestatic 69, 3) := by decide +kernel
theorem dX8_keep_7 : decode cX8_keep 7 = .ok (.ifCond .ne 5, 3) := by decide +kernel
theorem dX8_keep_10 : decode cX8_keep 10 = .ok (.iconst (-1), 1) := by decide +kernel
theorem dX8_keep_11 : decode cX8_keep 11 = .ok (.ireturn, 1) := by decide +kernel
theorem dX8_keep_12 : decode cX8_keep 12 = .ok (.aload_n 0, 1) := by decide +kernel
theorem dX8_keep_13 : decode cX8_keep 13 = .ok (.iconst 0, 1) := by decide +kernel
theorem dX8_keep_14 : decode cX8_keep 14 = .ok (.bipush 57, 2) := by decide +kernel
theorem dX8_keep_16 : decode cX8_keep 16 = .ok (.iload_n 1, 1) := by decide +kernel
theorem dX8_keep_17 : decode cX8_keep 17 = .ok (.iconst 1, 1) := by decide +kernel
theorem dX8_keep_18 : decode cX8_keep 18 = .ok (.iadd, 1) := by decide +kernel
theorem dX8_keep_19 : decode cX8_keep 19 = .ok (.imul, 1) := by decide +kernel
theorem dX8_keep_20 : decode cX8_keep 20 = .ok (.invokevirtual 274, 3) := by decide +kernel
theorem dX8_keep_23 : decode cX8_keep 23 = .ok (.aload_n 0, 1) := by decide +kernel
theorem dX8_keep_24 : decode cX8_keep 24 = .ok (.getfield 52, 3) := by decide +kernel
theorem dX8_keep_27 : decode cX8_keep 27 = .ok (.iload_n 1, 1) := by decide +kernel
theorem dX8_keep_28 : decode cX8_keep 28 = .ok (.baload, 1) := by decide +kernel
theorem dX8_keep_29 : decode cX8_keep 29 = .ok (.ifCond .eq 7, 3) := by decide +kernel
theorem dX8_keep_32 : decode cX8_keep 32 = .ok (.iconst 1, 1) := by decide +kernel
theorem dX8_keep_33 : decode cX8_keep 33 = .ok (.goto 4, 3) := by decide +kernel
theorem dX8_keep_36 : decode cX8_keep 36 = .ok (.iconst 0, 1) := by decide +kernel
theorem dX8_keep_37 : decode cX8_keep 37 = .ok (.istore_n 2, 1) := by decide +kernel
theorem dX8_keep_38 : decode cX8_keep 38 = .ok (.aload_n 0, 1) := by decide +kernel
theorem dX8_keep_39 : decode cX8_keep 39 = .ok (.getfield 52, 3) := by decide +kernel
theorem dX8_keep_42 : decode cX8_keep 42 = .ok (.iload_n 1, 1) := by decide +kernel
theorem dX8_keep_43 : decode cX8_keep 43 = .ok (.iconst 1, 1) := by decide +kernel
theorem dX8_keep_44 : decode cX8_keep 44 = .ok (.bastore, 1) := by decide +kernel
theorem dX8_keep_45 : decode cX8_keep 45 = .ok (.iload_n 2, 1) := by decide +kernel
theorem dX8_keep_46 : decode cX8_keep 46 = .ok (.ireturn, 1) := by decide +kernel
theorem dX8_back_0 : decode cX8_back 0 = .ok (.iload_n 1, 1) := by decide +kernel
theorem dX8_back_1 : decode cX8_back 1 = .ok (.i2l, 1) := by decide +kernel
theorem dX8_back_2 : decode cX8_back 2 = .ok (.lconst 0, 1) := by decide +kernel
theorem dX8_back_3 : decode cX8_back 3 = .ok (.lconst 1, 1) := by decide +kernel
theorem dX8_back_4 : decode cX8_back 4 = .ok (.invokestatic 69, 3) := by decide +kernel
theorem dX8_back_7 : decode cX8_back 7 = .ok (.ifCond .ne 5, 3) := by decide +kernel
theorem dX8_back_10 : decode cX8_back 10 = .ok (.iconst (-1), 1) := by decide +kernel
theorem dX8_back_11 : decode cX8_back 11 = .ok (.ireturn, 1) := by decide +kernel
theorem dX8_back_12 : decode cX8_back 12 = .ok (.aload_n 0, 1) := by decide +kernel
theorem dX8_back_13 : decode cX8_back 13 = .ok (.getfield 52, 3) := by decide +kernel
theorem dX8_back_16 : decode cX8_back 16 = .ok (.iload_n 1, 1) := by decide +kernel
theorem dX8_back_17 : decode cX8_back 17 = .ok (.baload, 1) := by decide +kernel
theorem dX8_back_18 : decode cX8_back 18 = .ok (.ifCond .ne 6, 3) := by decide +kernel
theorem dX8_back_21 : decode cX8_back 21 = .ok (.bipush (-2), 2) := by decide +kernel
theorem dX8_back_23 : decode cX8_back 23 = .ok (.ireturn, 1) := by decide +kernel
theorem dX8_back_24 : decode cX8_back 24 = .ok (.aload_n 0, 1) := by decide +kernel
theorem dX8_back_25 : decode cX8_back 25 = .ok (.bipush 57, 2) := by decide +kernel
theorem dX8_back_27 : decode cX8_back 27 = .ok (.iload_n 1, 1) := by decide +kernel
theorem dX8_back_28 : decode cX8_back 28 = .ok (.iconst 1, 1) := by decide +kernel
theorem dX8_back_29 : decode cX8_back 29 = .ok (.iadd, 1) := by decide +kernel
theorem dX8_back_30 : decode cX8_back 30 = .ok (.imul, 1) := by decide +kernel
theorem dX8_back_31 : decode cX8_back 31 = .ok (.iconst 0, 1) := by decide +kernel
theorem dX8_back_32 : decode cX8_back 32 = .ok (.invokevirtual 274, 3) := by decide +kernel
theorem dX8_back_35 : decode cX8_back 35 = .ok (.aload_n 0, 1) := by decide +kernel
theorem dX8_back_36 : decode cX8_back 36 = .ok (.getfield 7, 3) := by decide +kernel
theorem dX8_back_39 : decode cX8_back 39 = .ok (.bipush 54, 2) := by decide +kernel
theorem dX8_back_41 : decode cX8_back 41 = .ok (.iaload, 1) := by decide +kernel
theorem dX8_back_42 : decode cX8_back 42 = .ok (.ireturn, 1) := by decide +kernel
theorem dX8_sheet_0 : decode cX8_sheet 0 = .ok (.iload_n 1, 1) := by decide +kernel
theorem dX8_sheet_1 : decode cX8_sheet 1 = .ok (.i2l, 1) := by decide +kernel
theorem dX8_sheet_2 : decode cX8_sheet 2 = .ok (.lconst 0, 1) := by decide +kernel
theorem dX8_sheet_3 : decode cX8_sheet 3 = .ok (.ldc2_w 217, 3) := by decide +kernel
theorem dX8_sheet_6 : decode cX8_sheet 6 = .ok (.invokestatic 69, 3) := by decide +kernel
theorem dX8_sheet_9 : decode cX8_sheet 9 = .ok (.ifCond .eq 21, 3) := by decide +kernel
theorem dX8_sheet_12 : decode cX8_sheet 12 = .ok (.iload_n 2, 1) := by decide +kernel
theorem dX8_sheet_13 : decode cX8_sheet 13 = .ok (.i2l, 1) := by decide +kernel
theorem dX8_sheet_14 : decode cX8_sheet 14 = .ok (.lconst 0, 1) := by decide +kernel
theorem dX8_sheet_15 : decode cX8_sheet 15 = .ok (.ldc2_w 186, 3) := by decide +kernel
theorem dX8_sheet_18 : decode cX8_sheet 18 = .ok (.invokestatic 69, 3) := by decide +kernel
theorem dX8_sheet_21 : decode cX8_sheet 21 = .ok (.ifCond .eq 9, 3) := by decide +kernel
theorem dX8_sheet_24 : decode cX8_sheet 24 = .ok (.iload_n 3, 1) := by decide +kernel
theorem dX8_sheet_25 : decode cX8_sheet 25 = .ok (.bipush 40, 2) := by decide +kernel
theorem dX8_sheet_27 : decode cX8_sheet 27 = .ok (.if_icmp .le 5, 3) := by decide +kernel
theorem dX8_sheet_30 : decode cX8_sheet 30 = .ok (.iconst (-1), 1) := by decide +kernel
theorem dX8_sheet_31 : decode cX8_sheet 31 = .ok (.ireturn, 1) := by decide +kernel
theorem dX8_sheet_32 : decode cX8_sheet 32 = .ok (.iload_n 3, 1) := by decide +kernel
theorem dX8_sheet_33 : decode cX8_sheet 33 = .ok (.ifCond .ge 6, 3) := by decide +kernel
theorem dX8_sheet_36 : decode cX8_sheet 36 = .ok (.bipush (-14), 2) := by decide +kernel
theorem dX8_sheet_38 : decode cX8_sheet 38 = .ok (.ireturn, 1) := by decide +kernel
theorem dX8_sheet_39 : decode cX8_sheet 39 = .ok (.aload_n 0, 1) := by decide +kernel
theorem dX8_sheet_40 : decode cX8_sheet 40 = .ok (.getfield 56, 3) := by decide +kernel
theorem dX8_sheet_43 : decode cX8_sheet 43 = .ok (.iload_n 1, 1) := by decide +kernel
theorem dX8_sheet_44 : decode cX8_sheet 44 = .ok (.iload_n 2, 1) := by decide +kernel
theorem dX8_sheet_45 : decode cX8_sheet 45 = .ok (.iastore, 1) := by decide +kernel
theorem dX8_sheet_46 : decode cX8_sheet 46 = .ok (.aload_n 0, 1) := by decide +kernel
theorem dX8_sheet_47 : decode cX8_sheet 47 = .ok (.getfield 59, 3) := by decide +kernel
theorem dX8_sheet_50 : decode cX8_sheet 50 = .ok (.iload_n 1, 1) := by decide +kernel
theorem dX8_sheet_51 : decode cX8_sheet 51 = .ok (.iload_n 3, 1) := by decide +kernel
theorem dX8_sheet_52 : decode cX8_sheet 52 = .ok (.iastore, 1) := by decide +kernel
theorem dX8_sheet_53 : decode cX8_sheet 53 = .ok (.iconst 0, 1) := by decide +kernel
theorem dX8_sheet_54 : decode cX8_sheet 54 = .ok (.istore 4, 2) := by decide +kernel
theorem dX8_sheet_56 : decode cX8_sheet 56 = .ok (.iload 4, 2) := by decide +kernel
theorem dX8_sheet_58 : decode cX8_sheet 58 = .ok (.bipush 40, 2) := by decide +kernel
theorem dX8_sheet_60 : decode cX8_sheet 60 = .ok (.if_icmp .ge 22, 3) := by decide +kernel
theorem dX8_sheet_63 : decode cX8_sheet 63 = .ok (.aload_n 0, 1) := by decide +kernel
theorem dX8_sheet_64 : decode cX8_sheet 64 = .ok (.getfield 62, 3) := by decide +kernel
theorem dX8_sheet_67 : decode cX8_sheet 67 = .ok (.bipush 40, 2) := by decide +kernel
theorem dX8_sheet_69 : decode cX8_sheet 69 = .ok (.iload_n 1, 1) := by decide +kernel
theorem dX8_sheet_70 : decode cX8_sheet 70 = .ok (.imul, 1) := by decide +kernel
theorem dX8_sheet_71 : decode cX8_sheet 71 = .ok (.iload 4, 2) := by decide +kernel
theorem dX8_sheet_73 : decode cX8_sheet 73 = .ok (.iadd, 1) := by decide +kernel
theorem dX8_sheet_74 : decode cX8_sheet 74 = .ok (.iconst 0, 1) := by decide +kernel
theorem dX8_sheet_75 : decode cX8_sheet 75 = .ok (.iastore, 1) := by decide +kernel
theorem dX8_sheet_76 : decode cX8_sheet 76 = .ok (.iinc 4 1, 3) := by decide +kernel
theorem dX8_sheet_79 : decode cX8_sheet 79 = .ok (.goto (-23), 3) := by decide +kernel
theorem dX8_sheet_82 : decode cX8_sheet 82 = .ok (.iconst 1, 1) := by decide +kernel
theorem dX8_sheet_83 : decode cX8_sheet 83 = .ok (.ireturn, 1) := by decide +kernel
theorem dX8_lay_0 : decode cX8_lay 0 = .ok (.iload_n 1, 1) := by decide +kernel
theorem dX8_lay_1 : decode cX8_lay 1 = .ok (.i2l, 1) := by decide +kernel
theorem dX8_lay_2 : decode cX8_lay 2 = .ok (.lconst 0, 1) := by decide +kernel
theorem dX8_lay_3 : decode cX8_lay 3 = .ok (.ldc2_w 217, 3) := by decide +kernel
theorem dX8_lay_6 : decode cX8_lay 6 = .ok (.invokestatic 69, 3) := by decide +kernel
theorem dX8_lay_9 : decode cX8_lay 9 = .ok (.ifCond .ne 5, 3) := by decide +kernel
theorem dX8_lay_12 : decode cX8_lay 12 = .ok (.iconst (-1), 1) := by decide +kernel
theorem dX8_lay_13 : decode cX8_lay 13 = .ok (.ireturn, 1) := by decide +kernel
theorem dX8_lay_14 : decode cX8_lay 14 = .ok (.aload_n 0, 1) := by decide +kernel
theorem dX8_lay_15 : decode cX8_lay 15 = .ok (.getfield 56, 3) := by decide +kernel
theorem dX8_lay_18 : decode cX8_lay 18 = .ok (.iload_n 1, 1) := by decide +kernel
theorem dX8_lay_19 : decode cX8_lay 19 = .ok (.iaload, 1) := by decide +kernel
theorem dX8_lay_20 : decode cX8_lay 20 = .ok (.bipush (-4), 2) := by decide +kernel
theorem dX8_lay_22 : decode cX8_lay 22 = .ok (.if_icmp .ne 6, 3) := by decide +kernel
theorem dX8_lay_25 : decode cX8_lay 25 = .ok (.bipush (-11), 2) := by decide +kernel
theorem dX8_lay_27 : decode cX8_lay 27 = .ok (.ireturn, 1) := by decide +kernel
theorem dX8_lay_28 : decode cX8_lay 28 = .ok (.iload_n 2, 1) := by decide +kernel
theorem dX8_lay_29 : decode cX8_lay 29 = .ok (.i2l, 1) := by decide +kernel
theorem dX8_lay_30 : decode cX8_lay 30 = .ok (.lconst 0, 1) := by decide +kernel
theorem dX8_lay_31 : decode cX8_lay 31 = .ok (.aload_n 0, 1) := by decide +kernel
theorem dX8_lay_32 : decode cX8_lay 32 = .ok (.getfield 59, 3) := by decide +kernel
theorem dX8_lay_35 : decode cX8_lay 35 = .ok (.iload_n 1, 1) := by decide +kernel
theorem dX8_lay_36 : decode cX8_lay 36 = .ok (.iaload, 1) := by decide +kernel
theorem dX8_lay_37 : decode cX8_lay 37 = .ok (.iconst 1, 1) := by decide +kernel
theorem dX8_lay_38 : decode cX8_lay 38 = .ok (.isub, 1) := by decide +kernel
theorem dX8_lay_39 : decode cX8_lay 39 = .ok (.i2l, 1) := by decide +kernel
theorem dX8_lay_40 : decode cX8_lay 40 = .ok (.invokestatic 69, 3) := by decide +kernel
theorem dX8_lay_43 : decode cX8_lay 43 = .ok (.ifCond .ne 6, 3) := by decide +kernel
theorem dX8_lay_46 : decode cX8_lay 46 = .ok (.bipush (-12), 2) := by decide +kernel
theorem dX8_lay_48 : decode cX8_lay 48 = .ok (.ireturn, 1) := by decide +kernel
theorem dX8_lay_49 : decode cX8_lay 49 = .ok (.aload_n 0, 1) := by decide +kernel
theorem dX8_lay_50 : decode cX8_lay 50 = .ok (.getfield 62, 3) := by decide +kernel
theorem dX8_lay_53 : decode cX8_lay 53 = .ok (.bipush 40, 2) := by decide +kernel
theorem dX8_lay_55 : decode cX8_lay 55 = .ok (.iload_n 1, 1) := by decide +kernel
theorem dX8_lay_56 : decode cX8_lay 56 = .ok (.imul, 1) := by decide +kernel
theorem dX8_lay_57 : decode cX8_lay 57 = .ok (.iload_n 2, 1) := by decide +kernel
theorem dX8_lay_58 : decode cX8_lay 58 = .ok (.iadd, 1) := by decide +kernel
theorem dX8_lay_59 : decode cX8_lay 59 = .ok (.aload_n 0, 1) := by decide +kernel
theorem dX8_lay_60 : decode cX8_lay 60 = .ok (.getfield 56, 3) := by decide +kernel
theorem dX8_lay_63 : decode cX8_lay 63 = .ok (.iload_n 1, 1) := by decide +kernel
theorem dX8_lay_64 : decode cX8_lay 64 = .ok (.iaload, 1) := by decide +kernel
theorem dX8_lay_65 : decode cX8_lay 65 = .ok (.ifCond .ne 13, 3) := by decide +kernel
theorem dX8_lay_68 : decode cX8_lay 68 = .ok (.iload_n 3, 1) := by decide +kernel
theorem dX8_lay_69 : decode cX8_lay 69 = .ok (.bipush 24, 2) := by decide +kernel
theorem dX8_lay_71 : decode cX8_lay 71 = .ok (.ishl, 1) := by decide +kernel
theorem dX8_lay_72 : decode cX8_lay 72 = .ok (.bipush 24, 2) := by decide +kernel
theorem dX8_lay_74 : decode cX8_lay 74 = .ok (.ishr, 1) := by decide +kernel
theorem dX8_lay_75 : decode cX8_lay 75 = .ok (.goto 24, 3) := by decide +kernel
theorem dX8_lay_78 : decode cX8_lay 78 = .ok (.aload_n 0, 1) := by decide +kernel
theorem dX8_lay_79 : decode cX8_lay 79 = .ok (.getfield 56, 3) := by decide +kernel
theorem dX8_lay_82 : decode cX8_lay 82 = .ok (.iload_n 1, 1) := by decide +kernel
theorem dX8_lay_83 : decode cX8_lay 83 = .ok (.iaload, 1) := by decide +kernel
theorem dX8_lay_84 : decode cX8_lay 84 = .ok (.iconst 1, 1) := by decide +kernel
theorem dX8_lay_85 : decode cX8_lay 85 = .ok (.if_icmp .ne 13, 3) := by decide +kernel
theorem dX8_lay_88 : decode cX8_lay 88 = .ok (.iload_n 3, 1) := by decide +kernel
theorem dX8_lay_89 : decode cX8_lay 89 = .ok (.bipush 16, 2) := by decide +kernel
theorem dX8_lay_91 : decode cX8_lay 91 = .ok (.ishl, 1) := by decide +kernel
theorem dX8_lay_92 : decode cX8_lay 92 = .ok (.bipush 16, 2) := by decide +kernel
theorem dX8_lay_94 : decode cX8_lay 94 = .ok (.ishr, 1) := by decide +kernel
theorem dX8_lay_95 : decode cX8_lay 95 = .ok (.goto 4, 3) := by decide +kernel
theorem dX8_lay_98 : decode cX8_lay 98 = .ok (.iload_n 3, 1) := by decide +kernel
theorem dX8_lay_99 : decode cX8_lay 99 = .ok (.iastore, 1) := by decide +kernel
theorem dX8_lay_100 : decode cX8_lay 100 = .ok (.iconst 1, 1) := by decide +kernel
theorem dX8_lay_101 : decode cX8_lay 101 = .ok (.ireturn, 1) := by decide +kernel
theorem dX8_read_0 : decode cX8_read 0 = .ok (.iload_n 1, 1) := by decide +kernel
theorem dX8_read_1 : decode cX8_read 1 = .ok (.i2l, 1) := by decide +kernel
theorem dX8_read_2 : decode cX8_read 2 = .ok (.lconst 0, 1) := by decide +kernel
theorem dX8_read_3 : decode cX8_read 3 = .ok (.ldc2_w 217, 3) := by decide +kernel
theorem dX8_read_6 : decode cX8_read 6 = .ok (.invokestatic 69, 3) := by decide +kernel
theorem dX8_read_9 : decode cX8_read 9 = .ok (.ifCond .eq 28, 3) := by decide +kernel
theorem dX8_read_12 : decode cX8_read 12 = .ok (.iload_n 2, 1) := by decide +kernel
theorem dX8_read_13 : decode cX8_read 13 = .ok (.i2l, 1) := by decide +kernel
theorem dX8_read_14 : decode cX8_read 14 = .ok (.lconst 0, 1) := by decide +kernel
theorem dX8_read_15 : decode cX8_read 15 = .ok (.ldc2_w 186, 3) := by decide +kernel
theorem dX8_read_18 : decode cX8_read 18 = .ok (.invokestatic 69, 3) := by decide +kernel
theorem dX8_read_21 : decode cX8_read 21 = .ok (.ifCond .eq 16, 3) := by decide +kernel
theorem dX8_read_24 : decode cX8_read 24 = .ok (.iload 4, 2) := by decide +kernel
theorem dX8_read_26 : decode cX8_read 26 = .ok (.i2l, 1) := by decide +kernel
theorem dX8_read_27 : decode cX8_read 27 = .ok (.lconst 0, 1) := by decide +kernel
theorem dX8_read_28 : decode cX8_read 28 = .ok (.ldc2_w 278, 3) := by decide +kernel
theorem dX8_read_31 : decode cX8_read 31 = .ok (.invokestatic 69, 3) := by decide +kernel
theorem dX8_read_34 : decode cX8_read 34 = .ok (.ifCond .ne 5, 3) := by decide +kernel
theorem dX8_read_37 : decode cX8_read 37 = .ok (.iconst (-1), 1) := by decide +kernel
theorem dX8_read_38 : decode cX8_read 38 = .ok (.ireturn, 1) := by decide +kernel
theorem dX8_read_39 : decode cX8_read 39 = .ok (.aload_n 0, 1) := by decide +kernel
theorem dX8_read_40 : decode cX8_read 40 = .ok (.iconst 0, 1) := by decide +kernel
theorem dX8_read_41 : decode cX8_read 41 = .ok (.sipush 171, 3) := by decide +kernel
theorem dX8_read_44 : decode cX8_read 44 = .ok (.invokevirtual 274, 3) := by decide +kernel
theorem dX8_read_47 : decode cX8_read 47 = .ok (.iconst 0, 1) := by decide +kernel
theorem dX8_read_48 : decode cX8_read 48 = .ok (.istore 5, 2) := by decide +kernel
theorem dX8_read_50 : decode cX8_read 50 = .ok (.iconst 0, 1) := by decide +kernel
theorem dX8_read_51 : decode cX8_read 51 = .ok (.istore 6, 2) := by decide +kernel
theorem dX8_read_53 : decode cX8_read 53 = .ok (.iconst 0, 1) := by decide +kernel
theorem dX8_read_54 : decode cX8_read 54 = .ok (.istore 7, 2) := by decide +kernel
theorem dX8_read_56 : decode cX8_read 56 = .ok (.iload 7, 2) := by decide +kernel
theorem dX8_read_58 : decode cX8_read 58 = .ok (.iconst 3, 1) := by decide +kernel
theorem dX8_read_59 : decode cX8_read 59 = .ok (.iload 4, 2) := by decide +kernel
theorem dX8_read_61 : decode cX8_read 61 = .ok (.imul, 1) := by decide +kernel
theorem dX8_read_62 : decode cX8_read 62 = .ok (.if_icmp .ge 145, 3) := by decide +kernel
end
section
theorem dX8_read_65 : decode cX8_read 65 = .ok (.iload 5, 2) := by decide +kernel
theorem dX8_read_67 : decode cX8_read 67 = .ok (.ifCond .ne 140, 3) := by decide +kernel
theorem dX8_read_70 : decode cX8_read 70 = .ok (.aload_n 0, 1) := by decide +kernel
theorem dX8_read_71 : decode cX8_read 71 = .ok (.getfield 56, 3) := by decide +kernel
theorem dX8_read_74 : decode cX8_read 74 = .ok (.iload_n 1, 1) := by decide +kernel
theorem dX8_read_75 : decode cX8_read 75 = .ok (.iaload, 1) := by decide +kernel
theorem dX8_read_76 : decode cX8_read 76 = .ok (.bipush (-4), 2) := by decide +kernel
theorem dX8_read_78 : decode cX8_read 78 = .ok (.if_icmp .ne 7, 3) := by decide +kernel
theorem dX8_read_81 : decode cX8_read 81 = .ok (.iconst 1, 1) := by decide +kernel
theorem dX8_read_82 : decode cX8_read 82 = .ok (.goto 44, 3) := by decide +kernel
theorem dX8_read_85 : decode cX8_read 85 = .ok (.aload_n 0, 1) := by decide +kernel
theorem dX8_read_86 : decode cX8_read 86 = .ok (.getfield 56, 3) := by decide +kernel
theorem dX8_read_89 : decode cX8_read 89 = .ok (.iload_n 1, 1) := by decide +kernel
theorem dX8_read_90 : decode cX8_read 90 = .ok (.iaload, 1) := by decide +kernel
theorem dX8_read_91 : decode cX8_read 91 = .ok (.iload_n 2, 1) := by decide +kernel
theorem dX8_read_92 : decode cX8_read 92 = .ok (.if_icmp .eq 7, 3) := by decide +kernel
theorem dX8_read_95 : decode cX8_read 95 = .ok (.iconst 3, 1) := by decide +kernel
theorem dX8_read_96 : decode cX8_read 96 = .ok (.goto 30, 3) := by decide +kernel
theorem dX8_read_99 : decode cX8_read 99 = .ok (.iload_n 3, 1) := by decide +kernel
theorem dX8_read_100 : decode cX8_read 100 = .ok (.i2l, 1) := by decide +kernel
theorem dX8_read_101 : decode cX8_read 101 = .ok (.iload 7, 2) := by decide +kernel
theorem dX8_read_103 : decode cX8_read 103 = .ok (.i2l, 1) := by decide +kernel
theorem dX8_read_104 : decode cX8_read 104 = .ok (.ladd, 1) := by decide +kernel
theorem dX8_read_105 : decode cX8_read 105 = .ok (.lconst 0, 1) := by decide +kernel
theorem dX8_read_106 : decode cX8_read 106 = .ok (.aload_n 0, 1) := by decide +kernel
theorem dX8_read_107 : decode cX8_read 107 = .ok (.getfield 59, 3) := by decide +kernel
theorem dX8_read_110 : decode cX8_read 110 = .ok (.iload_n 1, 1) := by decide +kernel
theorem dX8_read_111 : decode cX8_read 111 = .ok (.iaload, 1) := by decide +kernel
theorem dX8_read_112 : decode cX8_read 112 = .ok (.iconst 1, 1) := by decide +kernel
theorem dX8_read_113 : decode cX8_read 113 = .ok (.isub, 1) := by decide +kernel
theorem dX8_read_114 : decode cX8_read 114 = .ok (.i2l, 1) := by decide +kernel
theorem dX8_read_115 : decode cX8_read 115 = .ok (.invokestatic 69, 3) := by decide +kernel
theorem dX8_read_118 : decode cX8_read 118 = .ok (.ifCond .ne 7, 3) := by decide +kernel
theorem dX8_read_121 : decode cX8_read 121 = .ok (.iconst 2, 1) := by decide +kernel
theorem dX8_read_122 : decode cX8_read 122 = .ok (.goto 4, 3) := by decide +kernel
theorem dX8_read_125 : decode cX8_read 125 = .ok (.iconst 0, 1) := by decide +kernel
theorem dX8_read_126 : decode cX8_read 126 = .ok (.istore 5, 2) := by decide +kernel
theorem dX8_read_128 : decode cX8_read 128 = .ok (.iload 5, 2) := by decide +kernel
theorem dX8_read_130 : decode cX8_read 130 = .ok (.ifCond .ne 71, 3) := by decide +kernel
theorem dX8_read_133 : decode cX8_read 133 = .ok (.iload 7, 2) := by decide +kernel
theorem dX8_read_135 : decode cX8_read 135 = .ok (.iconst 3, 1) := by decide +kernel
theorem dX8_read_136 : decode cX8_read 136 = .ok (.irem, 1) := by decide +kernel
theorem dX8_read_137 : decode cX8_read 137 = .ok (.iconst 2, 1) := by decide +kernel
theorem dX8_read_138 : decode cX8_read 138 = .ok (.if_icmp .ne 63, 3) := by decide +kernel
theorem dX8_read_141 : decode cX8_read 141 = .ok (.bipush 40, 2) := by decide +kernel
theorem dX8_read_143 : decode cX8_read 143 = .ok (.iload_n 1, 1) := by decide +kernel
theorem dX8_read_144 : decode cX8_read 144 = .ok (.imul, 1) := by decide +kernel
theorem dX8_read_145 : decode cX8_read 145 = .ok (.iload_n 3, 1) := by decide +kernel
theorem dX8_read_146 : decode cX8_read 146 = .ok (.iadd, 1) := by decide +kernel
theorem dX8_read_147 : decode cX8_read 147 = .ok (.iload 7, 2) := by decide +kernel
theorem dX8_read_149 : decode cX8_read 149 = .ok (.iadd, 1) := by decide +kernel
theorem dX8_read_150 : decode cX8_read 150 = .ok (.istore 8, 2) := by decide +kernel
theorem dX8_read_152 : decode cX8_read 152 = .ok (.aload_n 0, 1) := by decide +kernel
theorem dX8_read_153 : decode cX8_read 153 = .ok (.aload_n 0, 1) := by decide +kernel
theorem dX8_read_154 : decode cX8_read 154 = .ok (.getfield 62, 3) := by decide +kernel
theorem dX8_read_157 : decode cX8_read 157 = .ok (.iload 8, 2) := by decide +kernel
theorem dX8_read_159 : decode cX8_read 159 = .ok (.iconst 2, 1) := by decide +kernel
theorem dX8_read_160 : decode cX8_read 160 = .ok (.isub, 1) := by decide +kernel
theorem dX8_read_161 : decode cX8_read 161 = .ok (.iaload, 1) := by decide +kernel
theorem dX8_read_162 : decode cX8_read 162 = .ok (.aload_n 0, 1) := by decide +kernel
theorem dX8_read_163 : decode cX8_read 163 = .ok (.getfield 62, 3) := by decide +kernel
theorem dX8_read_166 : decode cX8_read 166 = .ok (.iload 8, 2) := by decide +kernel
theorem dX8_read_168 : decode cX8_read 168 = .ok (.iconst 1, 1) := by decide +kernel
theorem dX8_read_169 : decode cX8_read 169 = .ok (.isub, 1) := by decide +kernel
theorem dX8_read_170 : decode cX8_read 170 = .ok (.iaload, 1) := by decide +kernel
theorem dX8_read_171 : decode cX8_read 171 = .ok (.aload_n 0, 1) := by decide +kernel
theorem dX8_read_172 : decode cX8_read 172 = .ok (.getfield 62, 3) := by decide +kernel
theorem dX8_read_175 : decode cX8_read 175 = .ok (.iload 8, 2) := by decide +kernel
theorem dX8_read_177 : decode cX8_read 177 = .ok (.iaload, 1) := by decide +kernel
theorem dX8_read_178 : decode cX8_read 178 = .ok (.invokevirtual 230, 3) := by decide +kernel
theorem dX8_read_181 : decode cX8_read 181 = .ok (.ifCond .ge 17, 3) := by decide +kernel
theorem dX8_read_184 : decode cX8_read 184 = .ok (.aload_n 0, 1) := by decide +kernel
theorem dX8_read_185 : decode cX8_read 185 = .ok (.sipush 171, 3) := by decide +kernel
theorem dX8_read_188 : decode cX8_read 188 = .ok (.iconst 0, 1) := by decide +kernel
theorem dX8_read_189 : decode cX8_read 189 = .ok (.invokevirtual 274, 3) := by decide +kernel
theorem dX8_read_192 : decode cX8_read 192 = .ok (.bipush (-20), 2) := by decide +kernel
theorem dX8_read_194 : decode cX8_read 194 = .ok (.iload 6, 2) := by decide +kernel
theorem dX8_read_196 : decode cX8_read 196 = .ok (.isub, 1) := by decide +kernel
theorem dX8_read_197 : decode cX8_read 197 = .ok (.ireturn, 1) := by decide +kernel
theorem dX8_read_198 : decode cX8_read 198 = .ok (.iinc 6 1, 3) := by decide +kernel
theorem dX8_read_201 : decode cX8_read 201 = .ok (.iinc 7 1, 3) := by decide +kernel
theorem dX8_read_204 : decode cX8_read 204 = .ok (.goto (-148), 3) := by decide +kernel
theorem dX8_read_207 : decode cX8_read 207 = .ok (.aload_n 0, 1) := by decide +kernel
theorem dX8_read_208 : decode cX8_read 208 = .ok (.iload 5, 2) := by decide +kernel
theorem dX8_read_210 : decode cX8_read 210 = .ok (.putfield 280, 3) := by decide +kernel
theorem dX8_read_213 : decode cX8_read 213 = .ok (.iload 6, 2) := by decide +kernel
theorem dX8_read_215 : decode cX8_read 215 = .ok (.ireturn, 1) := by decide +kernel
theorem dX8_torn_0 : decode cX8_torn 0 = .ok (.aload_n 0, 1) := by decide +kernel
theorem dX8_torn_1 : decode cX8_torn 1 = .ok (.getfield 280, 3) := by decide +kernel
theorem dX8_torn_4 : decode cX8_torn 4 = .ok (.ireturn, 1) := by decide +kernel
theorem dX8_count_0 : decode cX8_count 0 = .ok (.iconst 0, 1) := by decide +kernel
theorem dX8_count_1 : decode cX8_count 1 = .ok (.istore_n 2, 1) := by decide +kernel
theorem dX8_count_2 : decode cX8_count 2 = .ok (.iconst 0, 1) := by decide +kernel
theorem dX8_count_3 : decode cX8_count 3 = .ok (.istore_n 3, 1) := by decide +kernel
theorem dX8_count_4 : decode cX8_count 4 = .ok (.iload_n 3, 1) := by decide +kernel
theorem dX8_count_5 : decode cX8_count 5 = .ok (.aload_n 0, 1) := by decide +kernel
theorem dX8_count_6 : decode cX8_count 6 = .ok (.getfield 169, 3) := by decide +kernel
theorem dX8_count_9 : decode cX8_count 9 = .ok (.if_icmp .ge 25, 3) := by decide +kernel
theorem dX8_count_12 : decode cX8_count 12 = .ok (.iload_n 2, 1) := by decide +kernel
theorem dX8_count_13 : decode cX8_count 13 = .ok (.aload_n 0, 1) := by decide +kernel
theorem dX8_count_14 : decode cX8_count 14 = .ok (.iload_n 3, 1) := by decide +kernel
theorem dX8_count_15 : decode cX8_count 15 = .ok (.invokevirtual 203, 3) := by decide +kernel
theorem dX8_count_18 : decode cX8_count 18 = .ok (.ifCond .eq 7, 3) := by decide +kernel
theorem dX8_count_21 : decode cX8_count 21 = .ok (.iconst 1, 1) := by decide +kernel
theorem dX8_count_22 : decode cX8_count 22 = .ok (.goto 4, 3) := by decide +kernel
theorem dX8_count_25 : decode cX8_count 25 = .ok (.iconst 0, 1) := by decide +kernel
theorem dX8_count_26 : decode cX8_count 26 = .ok (.iadd, 1) := by decide +kernel
theorem dX8_count_27 : decode cX8_count 27 = .ok (.istore_n 2, 1) := by decide +kernel
theorem dX8_count_28 : decode cX8_count 28 = .ok (.iinc 3 1, 3) := by decide +kernel
theorem dX8_count_31 : decode cX8_count 31 = .ok (.goto (-27), 3) := by decide +kernel
theorem dX8_count_34 : decode cX8_count 34 = .ok (.iload_n 1, 1) := by decide +kernel
theorem dX8_count_35 : decode cX8_count 35 = .ok (.tableswitch 116 0 6 #[41, 43, 48, 53, 83, 88, 111], 41) := by decide +kernel
theorem dX8_count_76 : decode cX8_count 76 = .ok (.iload_n 2, 1) := by decide +kernel
theorem dX8_count_77 : decode cX8_count 77 = .ok (.ireturn, 1) := by decide +kernel
theorem dX8_count_78 : decode cX8_count 78 = .ok (.aload_n 0, 1) := by decide +kernel
theorem dX8_count_79 : decode cX8_count 79 = .ok (.getfield 172, 3) := by decide +kernel
theorem dX8_count_82 : decode cX8_count 82 = .ok (.ireturn, 1) := by decide +kernel
theorem dX8_count_83 : decode cX8_count 83 = .ok (.aload_n 0, 1) := by decide +kernel
theorem dX8_count_84 : decode cX8_count 84 = .ok (.getfield 175, 3) := by decide +kernel
theorem dX8_count_87 : decode cX8_count 87 = .ok (.ireturn, 1) := by decide +kernel
theorem dX8_count_88 : decode cX8_count 88 = .ok (.aload_n 0, 1) := by decide +kernel
theorem dX8_count_89 : decode cX8_count 89 = .ok (.getfield 52, 3) := by decide +kernel
theorem dX8_count_92 : decode cX8_count 92 = .ok (.iconst 0, 1) := by decide +kernel
theorem dX8_count_93 : decode cX8_count 93 = .ok (.baload, 1) := by decide +kernel
theorem dX8_count_94 : decode cX8_count 94 = .ok (.ifCond .eq 7, 3) := by decide +kernel
theorem dX8_count_97 : decode cX8_count 97 = .ok (.iconst 1, 1) := by decide +kernel
theorem dX8_count_98 : decode cX8_count 98 = .ok (.goto 4, 3) := by decide +kernel
theorem dX8_count_101 : decode cX8_count 101 = .ok (.iconst 0, 1) := by decide +kernel
theorem dX8_count_102 : decode cX8_count 102 = .ok (.aload_n 0, 1) := by decide +kernel
theorem dX8_count_103 : decode cX8_count 103 = .ok (.getfield 52, 3) := by decide +kernel
theorem dX8_count_106 : decode cX8_count 106 = .ok (.iconst 1, 1) := by decide +kernel
theorem dX8_count_107 : decode cX8_count 107 = .ok (.baload, 1) := by decide +kernel
theorem dX8_count_108 : decode cX8_count 108 = .ok (.ifCond .eq 7, 3) := by decide +kernel
theorem dX8_count_111 : decode cX8_count 111 = .ok (.iconst 1, 1) := by decide +kernel
theorem dX8_count_112 : decode cX8_count 112 = .ok (.goto 4, 3) := by decide +kernel
theorem dX8_count_115 : decode cX8_count 115 = .ok (.iconst 0, 1) := by decide +kernel
theorem dX8_count_116 : decode cX8_count 116 = .ok (.iadd, 1) := by decide +kernel
theorem dX8_count_117 : decode cX8_count 117 = .ok (.ireturn, 1) := by decide +kernel
theorem dX8_count_118 : decode cX8_count 118 = .ok (.aload_n 0, 1) := by decide +kernel
theorem dX8_count_119 : decode cX8_count 119 = .ok (.getfield 65, 3) := by decide +kernel
theorem dX8_count_122 : decode cX8_count 122 = .ok (.ireturn, 1) := by decide +kernel
theorem dX8_count_123 : decode cX8_count 123 = .ok (.aload_n 0, 1) := by decide +kernel
theorem dX8_count_124 : decode cX8_count 124 = .ok (.getfield 56, 3) := by decide +kernel
theorem dX8_count_127 : decode cX8_count 127 = .ok (.iconst 0, 1) := by decide +kernel
theorem dX8_count_128 : decode cX8_count 128 = .ok (.iaload, 1) := by decide +kernel
theorem dX8_count_129 : decode cX8_count 129 = .ok (.bipush (-4), 2) := by decide +kernel
theorem dX8_count_131 : decode cX8_count 131 = .ok (.if_icmp .ne 8, 3) := by decide +kernel
theorem dX8_count_134 : decode cX8_count 134 = .ok (.bipush (-4), 2) := by decide +kernel
theorem dX8_count_136 : decode cX8_count 136 = .ok (.goto 9, 3) := by decide +kernel
theorem dX8_count_139 : decode cX8_count 139 = .ok (.aload_n 0, 1) := by decide +kernel
theorem dX8_count_140 : decode cX8_count 140 = .ok (.getfield 59, 3) := by decide +kernel
theorem dX8_count_143 : decode cX8_count 143 = .ok (.iconst 0, 1) := by decide +kernel
theorem dX8_count_144 : decode cX8_count 144 = .ok (.iaload, 1) := by decide +kernel
theorem dX8_count_145 : decode cX8_count 145 = .ok (.ireturn, 1) := by decide +kernel
theorem dX8_count_146 : decode cX8_count 146 = .ok (.aload_n 0, 1) := by decide +kernel
theorem dX8_count_147 : decode cX8_count 147 = .ok (.invokevirtual 251, 3) := by decide +kernel
theorem dX8_count_150 : decode cX8_count 150 = .ok (.ireturn, 1) := by decide +kernel
theorem dX8_count_151 : decode cX8_count 151 = .ok (.iconst (-1), 1) := by decide +kernel
theorem dX8_count_152 : decode cX8_count 152 = .ok (.ireturn, 1) := by decide +kernel
theorem dJ6_bitCount_0f7a4_0 : decode cJ6_bitCount_0f7a4 0 = .ok (.iload_n 0, 1) := by decide +kernel
theorem dJ6_bitCount_0f7a4_1 : decode cJ6_bitCount_0f7a4 1 = .ok (.iload_n 0, 1) := by decide +kernel
theorem dJ6_bitCount_0f7a4_2 : decode cJ6_bitCount_0f7a4 2 = .ok (.iconst 1, 1) := by decide +kernel
theorem dJ6_bitCount_0f7a4_3 : decode cJ6_bitCount_0f7a4 3 = .ok (.iushr, 1) := by decide +kernel
theorem dJ6_bitCount_0f7a4_4 : decode cJ6_bitCount_0f7a4 4 = .ok (.ldc_w 265, 3) := by decide +kernel
theorem dJ6_bitCount_0f7a4_7 : decode cJ6_bitCount_0f7a4 7 = .ok (.iand, 1) := by decide +kernel
theorem dJ6_bitCount_0f7a4_8 : decode cJ6_bitCount_0f7a4 8 = .ok (.isub, 1) := by decide +kernel
theorem dJ6_bitCount_0f7a4_9 : decode cJ6_bitCount_0f7a4 9 = .ok (.istore_n 0, 1) := by decide +kernel
theorem dJ6_bitCount_0f7a4_10 : decode cJ6_bitCount_0f7a4 10 = .ok (.iload_n 0, 1) := by decide +kernel
theorem dJ6_bitCount_0f7a4_11 : decode cJ6_bitCount_0f7a4 11 = .ok (.ldc_w 266, 3) := by decide +kernel
theorem dJ6_bitCount_0f7a4_14 : decode cJ6_bitCount_0f7a4 14 = .ok (.iand, 1) := by decide +kernel
theorem dJ6_bitCount_0f7a4_15 : decode cJ6_bitCount_0f7a4 15 = .ok (.iload_n 0, 1) := by decide +kernel
theorem dJ6_bitCount_0f7a4_16 : decode cJ6_bitCount_0f7a4 16 = .ok (.iconst 2, 1) := by decide +kernel
theorem dJ6_bitCount_0f7a4_17 : decode cJ6_bitCount_0f7a4 17 = .ok (.iushr, 1) := by decide +kernel
theorem dJ6_bitCount_0f7a4_18 : decode cJ6_bitCount_0f7a4 18 = .ok (.ldc_w 266, 3) := by decide +kernel
theorem dJ6_bitCount_0f7a4_21 : decode cJ6_bitCount_0f7a4 21 = .ok (.iand, 1) := by decide +kernel
theorem dJ6_bitCount_0f7a4_22 : decode cJ6_bitCount_0f7a4 22 = .ok (.iadd, 1) := by decide +kernel
theorem dJ6_bitCount_0f7a4_23 : decode cJ6_bitCount_0f7a4 23 = .ok (.istore_n 0, 1) := by decide +kernel
theorem dJ6_bitCount_0f7a4_24 : decode cJ6_bitCount_0f7a4 24 = .ok (.iload_n 0, 1) := by decide +kernel
theorem dJ6_bitCount_0f7a4_25 : decode cJ6_bitCount_0f7a4 25 = .ok (.iload_n 0, 1) := by decide +kernel
theorem dJ6_bitCount_0f7a4_26 : decode cJ6_bitCount_0f7a4 26 = .ok (.iconst 4, 1) := by decide +kernel
theorem dJ6_bitCount_0f7a4_27 : decode cJ6_bitCount_0f7a4 27 = .ok (.iushr, 1) := by decide +kernel
theorem dJ6_bitCount_0f7a4_28 : decode cJ6_bitCount_0f7a4 28 = .ok (.iadd, 1) := by decide +kernel
theorem dJ6_bitCount_0f7a4_29 : decode cJ6_bitCount_0f7a4 29 = .ok (.ldc_w 267, 3) := by decide +kernel
theorem dJ6_bitCount_0f7a4_32 : decode cJ6_bitCount_0f7a4 32 = .ok (.iand, 1) := by decide +kernel
theorem dJ6_bitCount_0f7a4_33 : decode cJ6_bitCount_0f7a4 33 = .ok (.istore_n 0, 1) := by decide +kernel
theorem dJ6_bitCount_0f7a4_34 : decode cJ6_bitCount_0f7a4 34 = .ok (.iload_n 0, 1) := by decide +kernel
theorem dJ6_bitCount_0f7a4_35 : decode cJ6_bitCount_0f7a4 35 = .ok (.iload_n 0, 1) := by decide +kernel
theorem dJ6_bitCount_0f7a4_36 : decode cJ6_bitCount_0f7a4 36 = .ok (.bipush 8, 2) := by decide +kernel
theorem dJ6_bitCount_0f7a4_38 : decode cJ6_bitCount_0f7a4 38 = .ok (.iushr, 1) := by decide +kernel
theorem dJ6_bitCount_0f7a4_39 : decode cJ6_bitCount_0f7a4 39 = .ok (.iadd, 1) := by decide +kernel
theorem dJ6_bitCount_0f7a4_40 : decode cJ6_bitCount_0f7a4 40 = .ok (.istore_n 0, 1) := by decide +kernel
theorem dJ6_bitCount_0f7a4_41 : decode cJ6_bitCount_0f7a4 41 = .ok (.iload_n 0, 1) := by decide +kernel
theorem dJ6_bitCount_0f7a4_42 : decode cJ6_bitCount_0f7a4 42 = .ok (.iload_n 0, 1) := by decide +kernel
theorem dJ6_bitCount_0f7a4_43 : decode cJ6_bitCount_0f7a4 43 = .ok (.bipush 16, 2) := by decide +kernel
theorem dJ6_bitCount_0f7a4_45 : decode cJ6_bitCount_0f7a4 45 = .ok (.iushr, 1) := by decide +kernel
theorem dJ6_bitCount_0f7a4_46 : decode cJ6_bitCount_0f7a4 46 = .ok (.iadd, 1) := by decide +kernel
theorem dJ6_bitCount_0f7a4_47 : decode cJ6_bitCount_0f7a4 47 = .ok (.istore_n 0, 1) := by decide +kernel
theorem dJ6_bitCount_0f7a4_48 : decode cJ6_bitCount_0f7a4 48 = .ok (.iload_n 0, 1) := by decide +kernel
theorem dJ6_bitCount_0f7a4_49 : decode cJ6_bitCount_0f7a4 49 = .ok (.bipush 63, 2) := by decide +kernel
theorem dJ6_bitCount_0f7a4_51 : decode cJ6_bitCount_0f7a4 51 = .ok (.iand, 1) := by decide +kernel
theorem dJ6_bitCount_0f7a4_52 : decode cJ6_bitCount_0f7a4 52 = .ok (.ireturn, 1) := by decide +kernel
theorem dJ9_max_7cf53_0 : decode cJ9_max_7cf53 0 = .ok (.iload_n 0, 1) := by decide +kernel
theorem dJ9_max_7cf53_1 : decode cJ9_max_7cf53 1 = .ok (.iload_n 1, 1) := by decide +kernel
theorem dJ9_max_7cf53_2 : decode cJ9_max_7cf53 2 = .ok (.if_icmp .lt 7, 3) := by decide +kernel
theorem dJ9_max_7cf53_5 : decode cJ9_max_7cf53 5 = .ok (.iload_n 0, 1) := by decide +kernel
theorem dJ9_max_7cf53_6 : decode cJ9_max_7cf53 6 = .ok (.goto 4, 3) := by decide +kernel
theorem dJ9_max_7cf53_9 : decode cJ9_max_7cf53 9 = .ok (.iload_n 1, 1) := by decide +kernel
theorem dJ9_max_7cf53_10 : decode cJ9_max_7cf53 10 = .ok (.ireturn, 1) := by decide +kernel
theorem dJ9_min_7cf53_0 : decode cJ9_min_7cf53 0 = .ok (.iload_n 0, 1) := by decide +kernel
theorem dJ9_min_7cf53_1 : decode cJ9_min_7cf53 1 = .ok (.iload_n 1, 1) := by decide +kernel
theorem dJ9_min_7cf53_2 : decode cJ9_min_7cf53 2 = .ok (.if_icmp .gt 7, 3) := by decide +kernel
theorem dJ9_min_7cf53_5 : decode cJ9_min_7cf53 5 = .ok (.iload_n 0, 1) := by decide +kernel
theorem dJ9_min_7cf53_6 : decode cJ9_min_7cf53 6 = .ok (.goto 4, 3) := by decide +kernel
theorem dJ9_min_7cf53_9 : decode cJ9_min_7cf53 9 = .ok (.iload_n 1, 1) := by decide +kernel
theorem dJ9_min_7cf53_10 : decode cJ9_min_7cf53 10 = .ok (.ireturn, 1) := by decide +kernel
theorem dJ0_length_8abf5_0 : decode cJ0_length_8abf5 0 = .ok (.aload_n 0, 1) := by decide +kernel
theorem dJ0_length_8abf5_1 : decode cJ0_length_8abf5 1 = .ok (.getfield 9, 3) := by decide +kernel
theorem dJ0_length_8abf5_4 : decode cJ0_length_8abf5 4 = .ok (.arraylength, 1) := by decide +kernel
theorem dJ0_length_8abf5_5 : decode cJ0_length_8abf5 5 = .ok (.aload_n 0, 1) := by decide +kernel
theorem dJ0_length_8abf5_6 : decode cJ0_length_8abf5 6 = .ok (.invokevirtual 335, 3) := by decide +kernel
theorem dJ0_length_8abf5_9 : decode cJ0_length_8abf5 9 = .ok (.ishr, 1) := by decide +kernel
theorem dJ0_length_8abf5_10 : decode cJ0_length_8abf5 10 = .ok (.ireturn, 1) := by decide +kernel
theorem dJ0_charAt_5068e_0 : decode cJ0_charAt_5068e 0 = .ok (.aload_n 0, 1) := by decide +kernel
theorem dJ0_charAt_5068e_1 : decode cJ0_charAt_5068e 1 = .ok (.invokevirtual 492, 3) := by decide +kernel
theorem dJ0_charAt_5068e_4 : decode cJ0_charAt_5068e 4 = .ok (.ifCond .eq 12, 3) := by decide +kernel
theorem dJ0_charAt_5068e_7 : decode cJ0_charAt_5068e 7 = .ok (.aload_n 0, 1) := by decide +kernel
theorem dJ0_charAt_5068e_8 : decode cJ0_charAt_5068e 8 = .ok (.getfield 9, 3) := by decide +kernel
theorem dJ0_charAt_5068e_11 : decode cJ0_charAt_5068e 11 = .ok (.iload_n 1, 1) := by decide +kernel
theorem dJ0_charAt_5068e_12 : decode cJ0_charAt_5068e 12 = .ok (.invokestatic 495, 3) := by decide +kernel
theorem dJ0_charAt_5068e_15 : decode cJ0_charAt_5068e 15 = .ok (.ireturn, 1) := by decide +kernel
theorem dJ0_charAt_5068e_16 : decode cJ0_charAt_5068e 16 = .ok (.aload_n 0, 1) := by decide +kernel
theorem dJ0_charAt_5068e_17 : decode cJ0_charAt_5068e 17 = .ok (.getfield 9, 3) := by decide +kernel
theorem dJ0_charAt_5068e_20 : decode cJ0_charAt_5068e 20 = .ok (.iload_n 1, 1) := by decide +kernel
theorem dJ0_charAt_5068e_21 : decode cJ0_charAt_5068e 21 = .ok (.invokestatic 498, 3) := by decide +kernel
theorem dJ0_charAt_5068e_24 : decode cJ0_charAt_5068e 24 = .ok (.ireturn, 1) := by decide +kernel
theorem dJ0_coder_7d493_0 : decode cJ0_coder_7d493 0 = .ok (.getstatic 38, 3) := by decide +kernel
theorem dJ0_coder_7d493_3 : decode cJ0_coder_7d493 3 = .ok (.ifCond .eq 10, 3) := by decide +kernel
theorem dJ0_coder_7d493_6 : decode cJ0_coder_7d493 6 = .ok (.aload_n 0, 1) := by decide +kernel
theorem dJ0_coder_7d493_7 : decode cJ0_coder_7d493 7 = .ok (.getfield 15, 3) := by decide +kernel
theorem dJ0_coder_7d493_10 : decode cJ0_coder_7d493 10 = .ok (.goto 4, 3) := by decide +kernel
theorem dJ0_coder_7d493_13 : decode cJ0_coder_7d493 13 = .ok (.iconst 1, 1) := by decide +kernel
theorem dJ0_coder_7d493_14 : decode cJ0_coder_7d493 14 = .ok (.ireturn, 1) := by decide +kernel
theorem dJ0_isLatin1_aae02_0 : decode cJ0_isLatin1_aae02 0 = .ok (.getstatic 38, 3) := by decide +kernel
theorem dJ0_isLatin1_aae02_3 : decode cJ0_isLatin1_aae02 3 = .ok (.ifCond .eq 14, 3) := by decide +kernel
theorem dJ0_isLatin1_aae02_6 : decode cJ0_isLatin1_aae02 6 = .ok (.aload_n 0, 1) := by decide +kernel
theorem dJ0_isLatin1_aae02_7 : decode cJ0_isLatin1_aae02 7 = .ok (.getfield 15, 3) := by decide +kernel
theorem dJ0_isLatin1_aae02_10 : decode cJ0_isLatin1_aae02 10 = .ok (.ifCond .ne 7, 3) := by decide +kernel
theorem dJ0_isLatin1_aae02_13 : decode cJ0_isLatin1_aae02 13 = .ok (.iconst 1, 1) := by decide +kernel
theorem dJ0_isLatin1_aae02_14 : decode cJ0_isLatin1_aae02 14 = .ok (.goto 4, 3) := by decide +kernel
theorem dJ0_isLatin1_aae02_17 : decode cJ0_isLatin1_aae02 17 = .ok (.iconst 0, 1) := by decide +kernel
theorem dJ0_isLatin1_aae02_18 : decode cJ0_isLatin1_aae02 18 = .ok (.ireturn, 1) := by decide +kernel
theorem dJ0_checkIndex_df160_0 : decode cJ0_checkIndex_df160 0 = .ok (.iload_n 0, 1) := by decide +kernel
theorem dJ0_checkIndex_df160_1 : decode cJ0_checkIndex_df160 1 = .ok (.iload_n 1, 1) := by decide +kernel
theorem dJ0_checkIndex_df160_2 : decode cJ0_checkIndex_df160 2 = .ok (.getstatic 1053, 3) := by decide +kernel
theorem dJ0_checkIndex_df160_5 : decode cJ0_checkIndex_df160 5 = .ok (.invokestatic 1059, 3) := by decide +kernel
theorem dJ0_checkIndex_df160_8 : decode cJ0_checkIndex_df160 8 = .ok (.pop, 1) := by decide +kernel
theorem dJ0_checkIndex_df160_9 : decode cJ0_checkIndex_df160 9 = .ok (.return_, 1) := by decide +kernel
theorem dJ1_charAt_3b067_0 : decode cJ1_charAt_3b067 0 = .ok (.iload_n 1, 1) := by decide +kernel
theorem dJ1_charAt_3b067_1 : decode cJ1_charAt_3b067 1 = .ok (.aload_n 0, 1) := by decide +kernel
theorem dJ1_charAt_3b067_2 : decode cJ1_charAt_3b067 2 = .ok (.arraylength, 1) := by decide +kernel
theorem dJ1_charAt_3b067_3 : decode cJ1_charAt_3b067 3 = .ok (.invokestatic 9, 3) := by decide +kernel
theorem dJ1_charAt_3b067_6 : decode cJ1_charAt_3b067 6 = .ok (.aload_n 0, 1) := by decide +kernel
theorem dJ1_charAt_3b067_7 : decode cJ1_charAt_3b067 7 = .ok (.iload_n 1, 1) := by decide +kernel
theorem dJ1_charAt_3b067_8 : decode cJ1_charAt_3b067 8 = .ok (.baload, 1) := by decide +kernel
theorem dJ1_charAt_3b067_9 : decode cJ1_charAt_3b067 9 = .ok (.sipush 255, 3) := by decide +kernel
theorem dJ1_charAt_3b067_12 : decode cJ1_charAt_3b067 12 = .ok (.iand, 1) := by decide +kernel
theorem dJ1_charAt_3b067_13 : decode cJ1_charAt_3b067 13 = .ok (.i2c, 1) := by decide +kernel
theorem dJ1_charAt_3b067_14 : decode cJ1_charAt_3b067 14 = .ok (.ireturn, 1) := by decide +kernel
theorem dJ2_getChar_3b067_0 : decode cJ2_getChar_3b067 0 = .ok (.getstatic 44, 3) := by decide +kernel
theorem dJ2_getChar_3b067_3 : decode cJ2_getChar_3b067 3 = .ok (.ifCond .ne 25, 3) := by decide +kernel
theorem dJ2_getChar_3b067_6 : decode cJ2_getChar_3b067 6 = .ok (.iload_n 1, 1) := by decide +kernel
theorem dJ2_getChar_3b067_7 : decode cJ2_getChar_3b067 7 = .ok (.ifCond .lt 11, 3) := by decide +kernel
theorem dJ2_getChar_3b067_10 : decode cJ2_getChar_3b067 10 = .ok (.iload_n 1, 1) := by decide +kernel
theorem dJ2_getChar_3b067_11 : decode cJ2_getChar_3b067 11 = .ok (.aload_n 0, 1) := by decide +kernel
theorem dJ2_getChar_3b067_12 : decode cJ2_getChar_3b067 12 = .ok (.invokestatic 48, 3) := by decide +kernel
theorem dJ2_getChar_3b067_15 : decode cJ2_getChar_3b067 15 = .ok (.if_icmp .lt 13, 3) := by decide +kernel
theorem dJ2_getChar_3b067_18 : decode cJ2_getChar_3b067 18 = .ok (.new 52, 3) := by decide +kernel
theorem dJ2_getChar_3b067_21 : decode cJ2_getChar_3b067 21 = .ok (.dup, 1) := by decide +kernel
theorem dJ2_getChar_3b067_22 : decode cJ2_getChar_3b067 22 = .ok (.ldc 54, 2) := by decide +kernel
theorem dJ2_getChar_3b067_24 : decode cJ2_getChar_3b067 24 = .ok (.invokespecial 56, 3) := by decide +kernel
theorem dJ2_getChar_3b067_27 : decode cJ2_getChar_3b067 27 = .ok (.athrow, 1) := by decide +kernel
theorem dJ2_getChar_3b067_28 : decode cJ2_getChar_3b067 28 = .ok (.iload_n 1, 1) := by decide +kernel
theorem dJ2_getChar_3b067_29 : decode cJ2_getChar_3b067 29 = .ok (.iconst 1, 1) := by decide +kernel
theorem dJ2_getChar_3b067_30 : decode cJ2_getChar_3b067 30 = .ok (.ishl, 1) := by decide +kernel
theorem dJ2_getChar_3b067_31 : decode cJ2_getChar_3b067 31 = .ok (.istore_n 1, 1) := by decide +kernel
theorem dJ2_getChar_3b067_32 : decode cJ2_getChar_3b067 32 = .ok (.aload_n 0, 1) := by decide +kernel
theorem dJ2_getChar_3b067_33 : decode cJ2_getChar_3b067 33 = .ok (.iload_n 1, 1) := by decide +kernel
theorem dJ2_getChar_3b067_34 : decode cJ2_getChar_3b067 34 = .ok (.iinc 1 1, 3) := by decide +kernel
theorem dJ2_getChar_3b067_37 : decode cJ2_getChar_3b067 37 = .ok (.baload, 1) := by decide +kernel
theorem dJ2_getChar_3b067_38 : decode cJ2_getChar_3b067 38 = .ok (.sipush 255, 3) := by decide +kernel
theorem dJ2_getChar_3b067_41 : decode cJ2_getChar_3b067 41 = .ok (.iand, 1) := by decide +kernel
theorem dJ2_getChar_3b067_42 : decode cJ2_getChar_3b067 42 = .ok (.getstatic 59, 3) := by decide +kernel
theorem dJ2_getChar_3b067_45 : decode cJ2_getChar_3b067 45 = .ok (.ishl, 1) := by decide +kernel
theorem dJ2_getChar_3b067_46 : decode cJ2_getChar_3b067 46 = .ok (.aload_n 0, 1) := by decide +kernel
theorem dJ2_getChar_3b067_47 : decode cJ2_getChar_3b067 47 = .ok (.iload_n 1, 1) := by decide +kernel
theorem dJ2_getChar_3b067_48 : decode cJ2_getChar_3b067 48 = .ok (.baload, 1) := by decide +kernel
theorem dJ2_getChar_3b067_49 : decode cJ2_getChar_3b067 49 = .ok (.sipush 255, 3) := by decide +kernel
theorem dJ2_getChar_3b067_52 : decode cJ2_getChar_3b067 52 = .ok (.iand, 1) := by decide +kernel
theorem dJ2_getChar_3b067_53 : decode cJ2_getChar_3b067 53 = .ok (.getstatic 63, 3) := by decide +kernel
theorem dJ2_getChar_3b067_56 : decode cJ2_getChar_3b067 56 = .ok (.ishl, 1) := by decide +kernel
theorem dJ2_getChar_3b067_57 : decode cJ2_getChar_3b067 57 = .ok (.ior, 1) := by decide +kernel
theorem dJ2_getChar_3b067_58 : decode cJ2_getChar_3b067 58 = .ok (.i2c, 1) := by decide +kernel
theorem dJ2_getChar_3b067_59 : decode cJ2_getChar_3b067 59 = .ok (.ireturn, 1) := by decide +kernel
theorem dJ2_length_9d52b_0 : decode cJ2_length_9d52b 0 = .ok (.aload_n 0, 1) := by decide +kernel
theorem dJ2_length_9d52b_1 : decode cJ2_length_9d52b 1 = .ok (.arraylength, 1) := by decide +kernel
theorem dJ2_length_9d52b_2 : decode cJ2_length_9d52b 2 = .ok (.iconst 1, 1) := by decide +kernel
theorem dJ2_length_9d52b_3 : decode cJ2_length_9d52b 3 = .ok (.ishr, 1) := by decide +kernel
theorem dJ2_length_9d52b_4 : decode cJ2_length_9d52b 4 = .ok (.ireturn, 1) := by decide +kernel
theorem dJ2_charAt_3b067_0 : decode cJ2_charAt_3b067 0 = .ok (.iload_n 1, 1) := by decide +kernel
theorem dJ2_charAt_3b067_1 : decode cJ2_charAt_3b067 1 = .ok (.aload_n 0, 1) := by decide +kernel
theorem dJ2_charAt_3b067_2 : decode cJ2_charAt_3b067 2 = .ok (.invokestatic 67, 3) := by decide +kernel
theorem dJ2_charAt_3b067_5 : decode cJ2_charAt_3b067 5 = .ok (.aload_n 0, 1) := by decide +kernel
theorem dJ2_charAt_3b067_6 : decode cJ2_charAt_3b067 6 = .ok (.iload_n 1, 1) := by decide +kernel
theorem dJ2_charAt_3b067_7 : decode cJ2_charAt_3b067 7 = .ok (.invokestatic 71, 3) := by decide +kernel
theorem dJ2_charAt_3b067_10 : decode cJ2_charAt_3b067 10 = .ok (.ireturn, 1) := by decide +kernel
theorem dJ2_checkIndex_2214a_0 : decode cJ2_checkIndex_2214a 0 = .ok (.iload_n 0, 1) := by decide +kernel
theorem dJ2_checkIndex_2214a_1 : decode cJ2_checkIndex_2214a 1 = .ok (.aload_n 1, 1) := by decide +kernel
theorem dJ2_checkIndex_2214a_2 : decode cJ2_checkIndex_2214a 2 = .ok (.invokestatic 48, 3) := by decide +kernel
theorem dJ2_checkIndex_2214a_5 : decode cJ2_checkIndex_2214a 5 = .ok (.invokestatic 414, 3) := by decide +kernel
theorem dJ2_checkIndex_2214a_8 : decode cJ2_checkIndex_2214a 8 = .ok (.return_, 1) := by decide +kernel
theorem dJ3_checkIndex_8e157_0 : decode cJ3_checkIndex_8e157 0 = .ok (.iload_n 0, 1) := by decide +kernel
theorem dJ3_checkIndex_8e157_1 : decode cJ3_checkIndex_8e157 1 = .ok (.ifCond .lt 8, 3) := by decide +kernel
theorem dJ3_checkIndex_8e157_4 : decode cJ3_checkIndex_8e157 4 = .ok (.iload_n 0, 1) := by decide +kernel
theorem dJ3_checkIndex_8e157_5 : decode cJ3_checkIndex_8e157 5 = .ok (.iload_n 1, 1) := by decide +kernel
theorem dJ3_checkIndex_8e157_6 : decode cJ3_checkIndex_8e157 6 = .ok (.if_icmp .lt 10, 3) := by decide +kernel
theorem dJ3_checkIndex_8e157_9 : decode cJ3_checkIndex_8e157 9 = .ok (.aload_n 2, 1) := by decide +kernel
theorem dJ3_checkIndex_8e157_10 : decode cJ3_checkIndex_8e157 10 = .ok (.iload_n 0, 1) := by decide +kernel
theorem dJ3_checkIndex_8e157_11 : decode cJ3_checkIndex_8e157 11 = .ok (.iload_n 1, 1) := by decide +kernel
theorem dJ3_checkIndex_8e157_12 : decode cJ3_checkIndex_8e157 12 = .ok (.invokestatic 95, 3) := by decide +kernel
theorem dJ3_checkIndex_8e157_15 : decode cJ3_checkIndex_8e157 15 = .ok (.athrow, 1) := by decide +kernel
theorem dJ3_checkIndex_8e157_16 : decode cJ3_checkIndex_8e157 16 = .ok (.iload_n 0, 1) := by decide +kernel
theorem dJ3_checkIndex_8e157_17 : decode cJ3_checkIndex_8e157 17 = .ok (.ireturn, 1) := by decide +kernel
theorem dL_law_0 : decode cL_law 0 = .ok (.new 7, 3) := by decide +kernel
theorem dL_law_3 : decode cL_law 3 = .ok (.dup, 1) := by decide +kernel
theorem dL_law_4 : decode cL_law 4 = .ok (.invokespecial 9, 3) := by decide +kernel
theorem dL_law_7 : decode cL_law 7 = .ok (.astore_n 1, 1) := by decide +kernel
theorem dL_law_8 : decode cL_law 8 = .ok (.new 10, 3) := by decide +kernel
theorem dL_law_11 : decode cL_law 11 = .ok (.dup, 1) := by decide +kernel
theorem dL_law_12 : decode cL_law 12 = .ok (.invokespecial 12, 3) := by decide +kernel
theorem dL_law_15 : decode cL_law 15 = .ok (.astore_n 2, 1) := by decide +kernel
theorem dL_law_16 : decode cL_law 16 = .ok (.iconst 0, 1) := by decide +kernel
theorem dL_law_17 : decode cL_law 17 = .ok (.istore_n 3, 1) := by decide +kernel
theorem dL_law_18 : decode cL_law 18 = .ok (.iload_n 3, 1) := by decide +kernel
theorem dL_law_19 : decode cL_law 19 = .ok (.aload_n 0, 1) := by decide +kernel
theorem dL_law_20 : decode cL_law 20 = .ok (.arraylength, 1) := by decide +kernel
theorem dL_law_21 : decode cL_law 21 = .ok (.iconst 5, 1) := by decide +kernel
theorem dL_law_22 : decode cL_law 22 = .ok (.isub, 1) := by decide +kernel
theorem dL_law_23 : decode cL_law 23 = .ok (.if_icmp .gt 1403, 3) := by decide +kernel
theorem dL_law_26 : decode cL_law 26 = .ok (.aload_n 0, 1) := by decide +kernel
theorem dL_law_27 : decode cL_law 27 = .ok (.iload_n 3, 1) := by decide +kernel
theorem dL_law_28 : decode cL_law 28 = .ok (.iaload, 1) := by decide +kernel
theorem dL_law_29 : decode cL_law 29 = .ok (.bipush 63, 2) := by decide +kernel
theorem dL_law_31 : decode cL_law 31 = .ok (.iand, 1) := by decide +kernel
theorem dL_law_32 : decode cL_law 32 = .ok (.tableswitch 1388 0 39 #[176, 229, 252, 265, 278, 301, 334, 367, 400, 423, 446, 479, 502, 535, 558, 601, 624, 647, 690, 703, 736, 769, 812, 861, 884, 897, 940, 963, 996, 1045, 1068, 1101, 1134, 1167, 1190, 1213, 1256, 1299, 1352, 1365], 176) := by decide +kernel
theorem dL_law_208 : decode cL_law 208 = .ok (.aload_n 1, 1) := by decide +kernel
theorem dL_law_209 : decode cL_law 209 = .ok (.aload_n 0, 1) := by decide +kernel
theorem dL_law_210 : decode cL_law 210 = .ok (.iload_n 3, 1) := by decide +kernel
theorem dL_law_211 : decode cL_law 211 = .ok (.iconst 1, 1) := by decide +kernel
theorem dL_law_212 : decode cL_law 212 = .ok (.iadd, 1) := by decide +kernel
theorem dL_law_213 : decode cL_law 213 = .ok (.iaload, 1) := by decide +kernel
theorem dL_law_214 : decode cL_law 214 = .ok (.i2l, 1) := by decide +kernel
theorem dL_law_215 : decode cL_law 215 = .ok (.bipush 32, 2) := by decide +kernel
theorem dL_law_217 : decode cL_law 217 = .ok (.lshl, 1) := by decide +kernel
theorem dL_law_218 : decode cL_law 218 = .ok (.aload_n 0, 1) := by decide +kernel
theorem dL_law_219 : decode cL_law 219 = .ok (.iload_n 3, 1) := by decide +kernel
theorem dL_law_220 : decode cL_law 220 = .ok (.iconst 2, 1) := by decide +kernel
theorem dL_law_221 : decode cL_law 221 = .ok (.iadd, 1) := by decide +kernel
theorem dL_law_222 : decode cL_law 222 = .ok (.iaload, 1) := by decide +kernel
theorem dL_law_223 : decode cL_law 223 = .ok (.i2l, 1) := by decide +kernel
theorem dL_law_224 : decode cL_law 224 = .ok (.ldc2_w 13, 3) := by decide +kernel
theorem dL_law_227 : decode cL_law 227 = .ok (.land, 1) := by decide +kernel
theorem dL_law_228 : decode cL_law 228 = .ok (.lor, 1) := by decide +kernel
theorem dL_law_229 : decode cL_law 229 = .ok (.invokevirtual 15, 3) := by decide +kernel
theorem dL_law_232 : decode cL_law 232 = .ok (.aload_n 2, 1) := by decide +kernel
theorem dL_law_233 : decode cL_law 233 = .ok (.aload_n 0, 1) := by decide +kernel
theorem dL_law_234 : decode cL_law 234 = .ok (.iload_n 3, 1) := by decide +kernel
theorem dL_law_235 : decode cL_law 235 = .ok (.iconst 1, 1) := by decide +kernel
theorem dL_law_236 : decode cL_law 236 = .ok (.iadd, 1) := by decide +kernel
theorem dL_law_237 : decode cL_law 237 = .ok (.iaload, 1) := by decide +kernel
theorem dL_law_238 : decode cL_law 238 = .ok (.i2l, 1) := by decide +kernel
theorem dL_law_239 : decode cL_law 239 = .ok (.bipush 32, 2) := by decide +kernel
theorem dL_law_241 : decode cL_law 241 = .ok (.lshl, 1) := by decide +kernel
theorem dL_law_242 : decode cL_law 242 = .ok (.aload_n 0, 1) := by decide +kernel
theorem dL_law_243 : decode cL_law 243 = .ok (.iload_n 3, 1) := by decide +kernel
theorem dL_law_244 : decode cL_law 244 = .ok (.iconst 2, 1) := by decide +kernel
theorem dL_law_245 : decode cL_law 245 = .ok (.iadd, 1) := by decide +kernel
theorem dL_law_246 : decode cL_law 246 = .ok (.iaload, 1) := by decide +kernel
theorem dL_law_247 : decode cL_law 247 = .ok (.i2l, 1) := by decide +kernel
theorem dL_law_248 : decode cL_law 248 = .ok (.ldc2_w 13, 3) := by decide +kernel
theorem dL_law_251 : decode cL_law 251 = .ok (.land, 1) := by decide +kernel
theorem dL_law_252 : decode cL_law 252 = .ok (.lor, 1) := by decide +kernel
theorem dL_law_253 : decode cL_law 253 = .ok (.invokevirtual 19, 3) := by decide +kernel
theorem dL_law_256 : decode cL_law 256 = .ok (.if_icmp .eq 1164, 3) := by decide +kernel
theorem dL_law_259 : decode cL_law 259 = .ok (.iconst 0, 1) := by decide +kernel
theorem dL_law_260 : decode cL_law 260 = .ok (.ireturn, 1) := by decide +kernel
theorem dL_law_261 : decode cL_law 261 = .ok (.aload_n 1, 1) := by decide +kernel
theorem dL_law_262 : decode cL_law 262 = .ok (.aload_n 0, 1) := by decide +kernel
theorem dL_law_263 : decode cL_law 263 = .ok (.iload_n 3, 1) := by decide +kernel
theorem dL_law_264 : decode cL_law 264 = .ok (.iconst 1, 1) := by decide +kernel
theorem dL_law_265 : decode cL_law 265 = .ok (.iadd, 1) := by decide +kernel
theorem dL_law_266 : decode cL_law 266 = .ok (.iaload, 1) := by decide +kernel
theorem dL_law_267 : decode cL_law 267 = .ok (.invokevirtual 20, 3) := by decide +kernel
theorem dL_law_270 : decode cL_law 270 = .ok (.aload_n 2, 1) := by decide +kernel
theorem dL_law_271 : decode cL_law 271 = .ok (.aload_n 0, 1) := by decide +kernel
theorem dL_law_272 : decode cL_law 272 = .ok (.iload_n 3, 1) := by decide +kernel
theorem dL_law_273 : decode cL_law 273 = .ok (.iconst 1, 1) := by decide +kernel
theorem dL_law_274 : decode cL_law 274 = .ok (.iadd, 1) := by decide +kernel
theorem dL_law_275 : decode cL_law 275 = .ok (.iaload, 1) := by decide +kernel
theorem dL_law_276 : decode cL_law 276 = .ok (.invokevirtual 24, 3) := by decide +kernel
theorem dL_law_279 : decode cL_law 279 = .ok (.if_icmp .eq 1141, 3) := by decide +kernel
theorem dL_law_282 : decode cL_law 282 = .ok (.iconst 0, 1) := by decide +kernel
theorem dL_law_283 : decode cL_law 283 = .ok (.ireturn, 1) := by decide +kernel
theorem dL_law_284 : decode cL_law 284 = .ok (.aload_n 1, 1) := by decide +kernel
theorem dL_law_285 : decode cL_law 285 = .ok (.invokevirtual 25, 3) := by decide +kernel
theorem dL_law_288 : decode cL_law 288 = .ok (.aload_n 2, 1) := by decide +kernel
theorem dL_law_289 : decode cL_law 289 = .ok (.invokevirtual 29, 3) := by decide +kernel
theorem dL_law_292 : decode cL_law 292 = .ok (.if_icmp .eq 1128, 3) := by decide +kernel
theorem dL_law_295 : decode cL_law 295 = .ok (.iconst 0, 1) := by decide +kernel
theorem dL_law_296 : decode cL_law 296 = .ok (.ireturn, 1) := by decide +kernel
theorem dL_law_297 : decode cL_law 297 = .ok (.aload_n 1, 1) := by decide +kernel
theorem dL_law_298 : decode cL_law 298 = .ok (.invokevirtual 30, 3) := by decide +kernel
theorem dL_law_301 : decode cL_law 301 = .ok (.aload_n 2, 1) := by decide +kernel
theorem dL_law_302 : decode cL_law 302 = .ok (.invokevirtual 33, 3) := by decide +kernel
theorem dL_law_305 : decode cL_law 305 = .ok (.if_icmp .eq 1115, 3) := by decide +kernel
theorem dL_law_308 : decode cL_law 308 = .ok (.iconst 0, 1) := by decide +kernel
theorem dL_law_309 : decode cL_law 309 = .ok (.ireturn, 1) := by decide +kernel
theorem dL_law_310 : decode cL_law 310 = .ok (.aload_n 1, 1) := by decide +kernel
theorem dL_law_311 : decode cL_law 311 = .ok (.aload_n 0, 1) := by decide +kernel
theorem dL_law_312 : decode cL_law 312 = .ok (.iload_n 3, 1) := by decide +kernel
theorem dL_law_313 : decode cL_law 313 = .ok (.iconst 1, 1) := by decide +kernel
theorem dL_law_314 : decode cL_law 314 = .ok (.iadd, 1) := by decide +kernel
theorem dL_law_315 : decode cL_law 315 = .ok (.iaload, 1) := by decide +kernel
theorem dL_law_316 : decode cL_law 316 = .ok (.invokevirtual 34, 3) := by decide +kernel
theorem dL_law_319 : decode cL_law 319 = .ok (.aload_n 2, 1) := by decide +kernel
theorem dL_law_320 : decode cL_law 320 = .ok (.aload_n 0, 1) := by decide +kernel
theorem dL_law_321 : decode cL_law 321 = .ok (.iload_n 3, 1) := by decide +kernel
theorem dL_law_322 : decode cL_law 322 = .ok (.iconst 1, 1) := by decide +kernel
theorem dL_law_323 : decode cL_law 323 = .ok (.iadd, 1) := by decide +kernel
theorem dL_law_324 : decode cL_law 324 = .ok (.iaload, 1) := by decide +kernel
theorem dL_law_325 : decode cL_law 325 = .ok (.invokevirtual 37, 3) := by decide +kernel
theorem dL_law_328 : decode cL_law 328 = .ok (.if_icmp .eq 1092, 3) := by decide +kernel
theorem dL_law_331 : decode cL_law 331 = .ok (.iconst 0, 1) := by decide +kernel
theorem dL_law_332 : decode cL_law 332 = .ok (.ireturn, 1) := by decide +kernel
theorem dL_law_333 : decode cL_law 333 = .ok (.aload_n 1, 1) := by decide +kernel
theorem dL_law_334 : decode cL_law 334 = .ok (.aload_n 0, 1) := by decide +kernel
theorem dL_law_335 : decode cL_law 335 = .ok (.iload_n 3, 1) := by decide +kernel
theorem dL_law_336 : decode cL_law 336 = .ok (.iconst 1, 1) := by decide +kernel
theorem dL_law_337 : decode cL_law 337 = .ok (.iadd, 1) := by decide +kernel
theorem dL_law_338 : decode cL_law 338 = .ok (.iaload, 1) := by decide +kernel
theorem dL_law_339 : decode cL_law 339 = .ok (.aload_n 0, 1) := by decide +kernel
theorem dL_law_340 : decode cL_law 340 = .ok (.iload_n 3, 1) := by decide +kernel
theorem dL_law_341 : decode cL_law 341 = .ok (.iconst 2, 1) := by decide +kernel
theorem dL_law_342 : decode cL_law 342 = .ok (.iadd, 1) := by decide +kernel
theorem dL_law_343 : decode cL_law 343 = .ok (.iaload, 1) := by decide +kernel
theorem dL_law_344 : decode cL_law 344 = .ok (.invokevirtual 38, 3) := by decide +kernel
theorem dL_law_347 : decode cL_law 347 = .ok (.aload_n 2, 1) := by decide +kernel
theorem dL_law_348 : decode cL_law 348 = .ok (.aload_n 0, 1) := by decide +kernel
theorem dL_law_349 : decode cL_law 349 = .ok (.iload_n 3, 1) := by decide +kernel
theorem dL_law_350 : decode cL_law 350 = .ok (.iconst 1, 1) := by decide +kernel
theorem dL_law_351 : decode cL_law 351 = .ok (.iadd, 1) := by decide +kernel
theorem dL_law_352 : decode cL_law 352 = .ok (.iaload, 1) := by decide +kernel
theorem dL_law_353 : decode cL_law 353 = .ok (.aload_n 0, 1) := by decide +kernel
theorem dL_law_354 : decode cL_law 354 = .ok (.iload_n 3, 1) := by decide +kernel
theorem dL_law_355 : decode cL_law 355 = .ok (.iconst 2, 1) := by decide +kernel
theorem dL_law_356 : decode cL_law 356 = .ok (.iadd, 1) := by decide +kernel
theorem dL_law_357 : decode cL_law 357 = .ok (.iaload, 1) := by decide +kernel
theorem dL_law_358 : decode cL_law 358 = .ok (.invokevirtual 42, 3) := by decide +kernel
theorem dL_law_361 : decode cL_law 361 = .ok (.if_icmp .eq 1059, 3) := by decide +kernel
theorem dL_law_364 : decode cL_law 364 = .ok (.iconst 0, 1) := by decide +kernel
theorem dL_law_365 : decode cL_law 365 = .ok (.ireturn, 1) := by decide +kernel
theorem dL_law_366 : decode cL_law 366 = .ok (.aload_n 1, 1) := by decide +kernel
theorem dL_law_367 : decode cL_law 367 = .ok (.aload_n 0, 1) := by decide +kernel
theorem dL_law_368 : decode cL_law 368 = .ok (.iload_n 3, 1) := by decide +kernel
theorem dL_law_369 : decode cL_law 369 = .ok (.iconst 1, 1) := by decide +kernel
theorem dL_law_370 : decode cL_law 370 = .ok (.iadd, 1) := by decide +kernel
theorem dL_law_371 : decode cL_law 371 = .ok (.iaload, 1) := by decide +kernel
theorem dL_law_372 : decode cL_law 372 = .ok (.aload_n 0, 1) := by decide +kernel
theorem dL_law_373 : decode cL_law 373 = .ok (.iload_n 3, 1) := by decide +kernel
theorem dL_law_374 : decode cL_law 374 = .ok (.iconst 2, 1) := by decide +kernel
theorem dL_law_375 : decode cL_law 375 = .ok (.iadd, 1) := by decide +kernel
theorem dL_law_376 : decode cL_law 376 = .ok (.iaload, 1) := by decide +kernel
theorem dL_law_377 : decode cL_law 377 = .ok (.invokevirtual 43, 3) := by decide +kernel
theorem dL_law_380 : decode cL_law 380 = .ok (.aload_n 2, 1) := by decide +kernel
theorem dL_law_381 : decode cL_law 381 = .ok (.aload_n 0, 1) := by decide +kernel
theorem dL_law_382 : decode cL_law 382 = .ok (.iload_n 3, 1) := by decide +kernel
theorem dL_law_383 : decode cL_law 383 = .ok (.iconst 1, 1) := by decide +kernel
theorem dL_law_384 : decode cL_law 384 = .ok (.iadd, 1) := by decide +kernel
theorem dL_law_385 : decode cL_law 385 = .ok (.iaload, 1) := by decide +kernel
theorem dL_law_386 : decode cL_law 386 = .ok (.aload_n 0, 1) := by decide +kernel
theorem dL_law_387 : decode cL_law 387 = .ok (.iload_n 3, 1) := by decide +kernel
theorem dL_law_388 : decode cL_law 388 = .ok (.iconst 2, 1) := by decide +kernel
theorem dL_law_389 : decode cL_law 389 = .ok (.iadd, 1) := by decide +kernel
theorem dL_law_390 : decode cL_law 390 = .ok (.iaload, 1) := by decide +kernel
theorem dL_law_391 : decode cL_law 391 = .ok (.invokevirtual 46, 3) := by decide +kernel
theorem dL_law_394 : decode cL_law 394 = .ok (.if_icmp .eq 1026, 3) := by decide +kernel
theorem dL_law_397 : decode cL_law 397 = .ok (.iconst 0, 1) := by decide +kernel
theorem dL_law_398 : decode cL_law 398 = .ok (.ireturn, 1) := by decide +kernel
theorem dL_law_399 : decode cL_law 399 = .ok (.aload_n 1, 1) := by decide +kernel
theorem dL_law_400 : decode cL_law 400 = .ok (.aload_n 0, 1) := by decide +kernel
theorem dL_law_401 : decode cL_law 401 = .ok (.iload_n 3, 1) := by decide +kernel
theorem dL_law_402 : decode cL_law 402 = .ok (.iconst 1, 1) := by decide +kernel
theorem dL_law_403 : decode cL_law 403 = .ok (.iadd, 1) := by decide +kernel
theorem dL_law_404 : decode cL_law 404 = .ok (.iaload, 1) := by decide +kernel
theorem dL_law_405 : decode cL_law 405 = .ok (.aload_n 0, 1) := by decide +kernel
theorem dL_law_406 : decode cL_law 406 = .ok (.iload_n 3, 1) := by decide +kernel
theorem dL_law_407 : decode cL_law 407 = .ok (.iconst 2, 1) := by decide +kernel
theorem dL_law_408 : decode cL_law 408 = .ok (.iadd, 1) := by decide +kernel
theorem dL_law_409 : decode cL_law 409 = .ok (.iaload, 1) := by decide +kernel
theorem dL_law_410 : decode cL_law 410 = .ok (.invokevirtual 47, 3) := by decide +kernel
theorem dL_law_413 : decode cL_law 413 = .ok (.aload_n 2, 1) := by decide +kernel
theorem dL_law_414 : decode cL_law 414 = .ok (.aload_n 0, 1) := by decide +kernel
theorem dL_law_415 : decode cL_law 415 = .ok (.iload_n 3, 1) := by decide +kernel
theorem dL_law_416 : decode cL_law 416 = .ok (.iconst 1, 1) := by decide +kernel
theorem dL_law_417 : decode cL_law 417 = .ok (.iadd, 1) := by decide +kernel
theorem dL_law_418 : decode cL_law 418 = .ok (.iaload, 1) := by decide +kernel
theorem dL_law_419 : decode cL_law 419 = .ok (.aload_n 0, 1) := by decide +kernel
theorem dL_law_420 : decode cL_law 420 = .ok (.iload_n 3, 1) := by decide +kernel
theorem dL_law_421 : decode cL_law 421 = .ok (.iconst 2, 1) := by decide +kernel
theorem dL_law_422 : decode cL_law 422 = .ok (.iadd, 1) := by decide +kernel
theorem dL_law_423 : decode cL_law 423 = .ok (.iaload, 1) := by decide +kernel
theorem dL_law_424 : decode cL_law 424 = .ok (.invokevirtual 50, 3) := by decide +kernel
theorem dL_law_427 : decode cL_law 427 = .ok (.if_icmp .eq 993, 3) := by decide +kernel
theorem dL_law_430 : decode cL_law 430 = .ok (.iconst 0, 1) := by decide +kernel
theorem dL_law_431 : decode cL_law 431 = .ok (.ireturn, 1) := by decide +kernel
theorem dL_law_432 : decode cL_law 432 = .ok (.aload_n 1, 1) := by decide +kernel
theorem dL_law_433 : decode cL_law 433 = .ok (.aload_n 0, 1) := by decide +kernel
theorem dL_law_434 : decode cL_law 434 = .ok (.iload_n 3, 1) := by decide +kernel
theorem dL_law_435 : decode cL_law 435 = .ok (.iconst 1, 1) := by decide +kernel
theorem dL_law_436 : decode cL_law 436 = .ok (.iadd, 1) := by decide +kernel
theorem dL_law_437 : decode cL_law 437 = .ok (.iaload, 1) := by decide +kernel
theorem dL_law_438 : decode cL_law 438 = .ok (.invokevirtual 51, 3) := by decide +kernel
theorem dL_law_441 : decode cL_law 441 = .ok (.aload_n 2, 1) := by decide +kernel
theorem dL_law_442 : decode cL_law 442 = .ok (.aload_n 0, 1) := by decide +kernel
theorem dL_law_443 : decode cL_law 443 = .ok (.iload_n 3, 1) := by decide +kernel
theorem dL_law_444 : decode cL_law 444 = .ok (.iconst 1, 1) := by decide +kernel
theorem dL_law_445 : decode cL_law 445 = .ok (.iadd, 1) := by decide +kernel
theorem dL_law_446 : decode cL_law 446 = .ok (.iaload, 1) := by decide +kernel
theorem dL_law_447 : decode cL_law 447 = .ok (.invokevirtual 54, 3) := by decide +kernel
theorem dL_law_450 : decode cL_law 450 = .ok (.if_icmp .eq 970, 3) := by decide +kernel
theorem dL_law_453 : decode cL_law 453 = .ok (.iconst 0, 1) := by decide +kernel
theorem dL_law_454 : decode cL_law 454 = .ok (.ireturn, 1) := by decide +kernel
theorem dL_law_455 : decode cL_law 455 = .ok (.aload_n 1, 1) := by decide +kernel
theorem dL_law_456 : decode cL_law 456 = .ok (.aload_n 0, 1) := by decide +kernel
theorem dL_law_457 : decode cL_law 457 = .ok (.iload_n 3, 1) := by decide +kernel
theorem dL_law_458 : decode cL_law 458 = .ok (.iconst 1, 1) := by decide +kernel
theorem dL_law_459 : decode cL_law 459 = .ok (.iadd, 1) := by decide +kernel
theorem dL_law_460 : decode cL_law 460 = .ok (.iaload, 1) := by decide +kernel
theorem dL_law_461 : decode cL_law 461 = .ok (.invokevirtual 55, 3) := by decide +kernel
theorem dL_law_464 : decode cL_law 464 = .ok (.aload_n 2, 1) := by decide +kernel
theorem dL_law_465 : decode cL_law 465 = .ok (.aload_n 0, 1) := by decide +kernel
theorem dL_law_466 : decode cL_law 466 = .ok (.iload_n 3, 1) := by decide +kernel
theorem dL_law_467 : decode cL_law 467 = .ok (.iconst 1, 1) := by decide +kernel
theorem dL_law_468 : decode cL_law 468 = .ok (.iadd, 1) := by decide +kernel
theorem dL_law_469 : decode cL_law 469 = .ok (.iaload, 1) := by decide +kernel
theorem dL_law_470 : decode cL_law 470 = .ok (.invokevirtual 58, 3) := by decide +kernel
theorem dL_law_473 : decode cL_law 473 = .ok (.if_icmp .eq 947, 3) := by decide +kernel
theorem dL_law_476 : decode cL_law 476 = .ok (.iconst 0, 1) := by decide +kernel
theorem dL_law_477 : decode cL_law 477 = .ok (.ireturn, 1) := by decide +kernel
theorem dL_law_478 : decode cL_law 478 = .ok (.aload_n 1, 1) := by decide +kernel
theorem dL_law_479 : decode cL_law 479 = .ok (.aload_n 0, 1) := by decide +kernel
theorem dL_law_480 : decode cL_law 480 = .ok (.iload_n 3, 1) := by decide +kernel
theorem dL_law_481 : decode cL_law 481 = .ok (.iconst 1, 1) := by decide +kernel
theorem dL_law_482 : decode cL_law 482 = .ok (.iadd, 1) := by decide +kernel
theorem dL_law_483 : decode cL_law 483 = .ok (.iaload, 1) := by decide +kernel
theorem dL_law_484 : decode cL_law 484 = .ok (.aload_n 0, 1) := by decide +kernel
theorem dL_law_485 : decode cL_law 485 = .ok (.iload_n 3, 1) := by decide +kernel
theorem dL_law_486 : decode cL_law 486 = .ok (.iconst 2, 1) := by decide +kernel
theorem dL_law_487 : decode cL_law 487 = .ok (.iadd, 1) := by decide +kernel
theorem dL_law_488 : decode cL_law 488 = .ok (.iaload, 1) := by decide +kernel
theorem dL_law_489 : decode cL_law 489 = .ok (.invokevirtual 59, 3) := by decide +kernel
theorem dL_law_492 : decode cL_law 492 = .ok (.aload_n 2, 1) := by decide +kernel
theorem dL_law_493 : decode cL_law 493 = .ok (.aload_n 0, 1) := by decide +kernel
theorem dL_law_494 : decode cL_law 494 = .ok (.iload_n 3, 1) := by decide +kernel
theorem dL_law_495 : decode cL_law 495 = .ok (.iconst 1, 1) := by decide +kernel
theorem dL_law_496 : decode cL_law 496 = .ok (.iadd, 1) := by decide +kernel
theorem dL_law_497 : decode cL_law 497 = .ok (.iaload, 1) := by decide +kernel
theorem dL_law_498 : decode cL_law 498 = .ok (.aload_n 0, 1) := by decide +kernel
theorem dL_law_499 : decode cL_law 499 = .ok (.iload_n 3, 1) := by decide +kernel
theorem dL_law_500 : decode cL_law 500 = .ok (.iconst 2, 1) := by decide +kernel
theorem dL_law_501 : decode cL_law 501 = .ok (.iadd, 1) := by decide +kernel
theorem dL_law_502 : decode cL_law 502 = .ok (.iaload, 1) := by decide +kernel
theorem dL_law_503 : decode cL_law 503 = .ok (.invokevirtual 62, 3) := by decide +kernel
theorem dL_law_506 : decode cL_law 506 = .ok (.if_icmp .eq 914, 3) := by decide +kernel
theorem dL_law_509 : decode cL_law 509 = .ok (.iconst 0, 1) := by decide +kernel
theorem dL_law_510 : decode cL_law 510 = .ok (.ireturn, 1) := by decide +kernel
theorem dL_law_511 : decode cL_law 511 = .ok (.aload_n 1, 1) := by decide +kernel
theorem dL_law_512 : decode cL_law 512 = .ok (.aload_n 0, 1) := by decide +kernel
theorem dL_law_513 : decode cL_law 513 = .ok (.iload_n 3, 1) := by decide +kernel
theorem dL_law_514 : decode cL_law 514 = .ok (.iconst 1, 1) := by decide +kernel
theorem dL_law_515 : decode cL_law 515 = .ok (.iadd, 1) := by decide +kernel
theorem dL_law_516 : decode cL_law 516 = .ok (.iaload, 1) := by decide +kernel
theorem dL_law_517 : decode cL_law 517 = .ok (.invokevirtual 63, 3) := by decide +kernel
theorem dL_law_520 : decode cL_law 520 = .ok (.aload_n 2, 1) := by decide +kernel
theorem dL_law_521 : decode cL_law 521 = .ok (.aload_n 0, 1) := by decide +kernel
theorem dL_law_522 : decode cL_law 522 = .ok (.iload_n 3, 1) := by decide +kernel
theorem dL_law_523 : decode cL_law 523 = .ok (.iconst 1, 1) := by decide +kernel
theorem dL_law_524 : decode cL_law 524 = .ok (.iadd, 1) := by decide +kernel
theorem dL_law_525 : decode cL_law 525 = .ok (.iaload, 1) := by decide +kernel
theorem dL_law_526 : decode cL_law 526 = .ok (.invokevirtual 66, 3) := by decide +kernel
theorem dL_law_529 : decode cL_law 529 = .ok (.if_icmp .eq 891, 3) := by decide +kernel
theorem dL_law_532 : decode cL_law 532 = .ok (.iconst 0, 1) := by decide +kernel
theorem dL_law_533 : decode cL_law 533 = .ok (.ireturn, 1) := by decide +kernel
theorem dL_law_534 : decode cL_law 534 = .ok (.aload_n 1, 1) := by decide +kernel
theorem dL_law_535 : decode cL_law 535 = .ok (.aload_n 0, 1) := by decide +kernel
theorem dL_law_536 : decode cL_law 536 = .ok (.iload_n 3, 1) := by decide +kernel
theorem dL_law_537 : decode cL_law 537 = .ok (.iconst 1, 1) := by decide +kernel
theorem dL_law_538 : decode cL_law 538 = .ok (.iadd, 1) := by decide +kernel
theorem dL_law_539 : decode cL_law 539 = .ok (.iaload, 1) := by decide +kernel
theorem dL_law_540 : decode cL_law 540 = .ok (.aload_n 0, 1) := by decide +kernel
theorem dL_law_541 : decode cL_law 541 = .ok (.iload_n 3, 1) := by decide +kernel
theorem dL_law_542 : decode cL_law 542 = .ok (.iconst 2, 1) := by decide +kernel
theorem dL_law_543 : decode cL_law 543 = .ok (.iadd, 1) := by decide +kernel
theorem dL_law_544 : decode cL_law 544 = .ok (.iaload, 1) := by decide +kernel
theorem dL_law_545 : decode cL_law 545 = .ok (.invokevirtual 67, 3) := by decide +kernel
theorem dL_law_548 : decode cL_law 548 = .ok (.aload_n 2, 1) := by decide +kernel
theorem dL_law_549 : decode cL_law 549 = .ok (.aload_n 0, 1) := by decide +kernel
theorem dL_law_550 : decode cL_law 550 = .ok (.iload_n 3, 1) := by decide +kernel
theorem dL_law_551 : decode cL_law 551 = .ok (.iconst 1, 1) := by decide +kernel
theorem dL_law_552 : decode cL_law 552 = .ok (.iadd, 1) := by decide +kernel
theorem dL_law_553 : decode cL_law 553 = .ok (.iaload, 1) := by decide +kernel
theorem dL_law_554 : decode cL_law 554 = .ok (.aload_n 0, 1) := by decide +kernel
theorem dL_law_555 : decode cL_law 555 = .ok (.iload_n 3, 1) := by decide +kernel
theorem dL_law_556 : decode cL_law 556 = .ok (.iconst 2, 1) := by decide +kernel
theorem dL_law_557 : decode cL_law 557 = .ok (.iadd, 1) := by decide +kernel
theorem dL_law_558 : decode cL_law 558 = .ok (.iaload, 1) := by decide +kernel
theorem dL_law_559 : decode cL_law 559 = .ok (.invokevirtual 70, 3) := by decide +kernel
theorem dL_law_562 : decode cL_law 562 = .ok (.if_icmp .eq 858, 3) := by decide +kernel
theorem dL_law_565 : decode cL_law 565 = .ok (.iconst 0, 1) := by decide +kernel
theorem dL_law_566 : decode cL_law 566 = .ok (.ireturn, 1) := by decide +kernel
theorem dL_law_567 : decode cL_law 567 = .ok (.aload_n 1, 1) := by decide +kernel
theorem dL_law_568 : decode cL_law 568 = .ok (.aload_n 0, 1) := by decide +kernel
theorem dL_law_569 : decode cL_law 569 = .ok (.iload_n 3, 1) := by decide +kernel
theorem dL_law_570 : decode cL_law 570 = .ok (.iconst 1, 1) := by decide +kernel
theorem dL_law_571 : decode cL_law 571 = .ok (.iadd, 1) := by decide +kernel
theorem dL_law_572 : decode cL_law 572 = .ok (.iaload, 1) := by decide +kernel
theorem dL_law_573 : decode cL_law 573 = .ok (.invokevirtual 71, 3) := by decide +kernel
theorem dL_law_576 : decode cL_law 576 = .ok (.aload_n 2, 1) := by decide +kernel
theorem dL_law_577 : decode cL_law 577 = .ok (.aload_n 0, 1) := by decide +kernel
theorem dL_law_578 : decode cL_law 578 = .ok (.iload_n 3, 1) := by decide +kernel
theorem dL_law_579 : decode cL_law 579 = .ok (.iconst 1, 1) := by decide +kernel
theorem dL_law_580 : decode cL_law 580 = .ok (.iadd, 1) := by decide +kernel
theorem dL_law_581 : decode cL_law 581 = .ok (.iaload, 1) := by decide +kernel
theorem dL_law_582 : decode cL_law 582 = .ok (.invokevirtual 74, 3) := by decide +kernel
theorem dL_law_585 : decode cL_law 585 = .ok (.if_icmp .eq 835, 3) := by decide +kernel
theorem dL_law_588 : decode cL_law 588 = .ok (.iconst 0, 1) := by decide +kernel
theorem dL_law_589 : decode cL_law 589 = .ok (.ireturn, 1) := by decide +kernel
theorem dL_law_590 : decode cL_law 590 = .ok (.aload_n 1, 1) := by decide +kernel
theorem dL_law_591 : decode cL_law 591 = .ok (.aload_n 0, 1) := by decide +kernel
theorem dL_law_592 : decode cL_law 592 = .ok (.iload_n 3, 1) := by decide +kernel
theorem dL_law_593 : decode cL_law 593 = .ok (.iconst 1, 1) := by decide +kernel
theorem dL_law_594 : decode cL_law 594 = .ok (.iadd, 1) := by decide +kernel
theorem dL_law_595 : decode cL_law 595 = .ok (.iaload, 1) := by decide +kernel
theorem dL_law_596 : decode cL_law 596 = .ok (.aload_n 0, 1) := by decide +kernel
theorem dL_law_597 : decode cL_law 597 = .ok (.iload_n 3, 1) := by decide +kernel
theorem dL_law_598 : decode cL_law 598 = .ok (.iconst 2, 1) := by decide +kernel
theorem dL_law_599 : decode cL_law 599 = .ok (.iadd, 1) := by decide +kernel
theorem dL_law_600 : decode cL_law 600 = .ok (.iaload, 1) := by decide +kernel
theorem dL_law_601 : decode cL_law 601 = .ok (.aload_n 0, 1) := by decide +kernel
theorem dL_law_602 : decode cL_law 602 = .ok (.iload_n 3, 1) := by decide +kernel
theorem dL_law_603 : decode cL_law 603 = .ok (.iconst 3, 1) := by decide +kernel
theorem dL_law_604 : decode cL_law 604 = .ok (.iadd, 1) := by decide +kernel
theorem dL_law_605 : decode cL_law 605 = .ok (.iaload, 1) := by decide +kernel
theorem dL_law_606 : decode cL_law 606 = .ok (.invokevirtual 75, 3) := by decide +kernel
theorem dL_law_609 : decode cL_law 609 = .ok (.aload_n 2, 1) := by decide +kernel
theorem dL_law_610 : decode cL_law 610 = .ok (.aload_n 0, 1) := by decide +kernel
theorem dL_law_611 : decode cL_law 611 = .ok (.iload_n 3, 1) := by decide +kernel
theorem dL_law_612 : decode cL_law 612 = .ok (.iconst 1, 1) := by decide +kernel
theorem dL_law_613 : decode cL_law 613 = .ok (.iadd, 1) := by decide +kernel
theorem dL_law_614 : decode cL_law 614 = .ok (.iaload, 1) := by decide +kernel
theorem dL_law_615 : decode cL_law 615 = .ok (.aload_n 0, 1) := by decide +kernel
theorem dL_law_616 : decode cL_law 616 = .ok (.iload_n 3, 1) := by decide +kernel
theorem dL_law_617 : decode cL_law 617 = .ok (.iconst 2, 1) := by decide +kernel
theorem dL_law_618 : decode cL_law 618 = .ok (.iadd, 1) := by decide +kernel
theorem dL_law_619 : decode cL_law 619 = .ok (.iaload, 1) := by decide +kernel
theorem dL_law_620 : decode cL_law 620 = .ok (.aload_n 0, 1) := by decide +kernel
theorem dL_law_621 : decode cL_law 621 = .ok (.iload_n 3, 1) := by decide +kernel
theorem dL_law_622 : decode cL_law 622 = .ok (.iconst 3, 1) := by decide +kernel
theorem dL_law_623 : decode cL_law 623 = .ok (.iadd, 1) := by decide +kernel
theorem dL_law_624 : decode cL_law 624 = .ok (.iaload, 1) := by decide +kernel
theorem dL_law_625 : decode cL_law 625 = .ok (.invokevirtual 79, 3) := by decide +kernel
theorem dL_law_628 : decode cL_law 628 = .ok (.if_icmp .eq 792, 3) := by decide +kernel
theorem dL_law_631 : decode cL_law 631 = .ok (.iconst 0, 1) := by decide +kernel
theorem dL_law_632 : decode cL_law 632 = .ok (.ireturn, 1) := by decide +kernel
theorem dL_law_633 : decode cL_law 633 = .ok (.aload_n 1, 1) := by decide +kernel
theorem dL_law_634 : decode cL_law 634 = .ok (.aload_n 0, 1) := by decide +kernel
theorem dL_law_635 : decode cL_law 635 = .ok (.iload_n 3, 1) := by decide +kernel
theorem dL_law_636 : decode cL_law 636 = .ok (.iconst 1, 1) := by decide +kernel
theorem dL_law_637 : decode cL_law 637 = .ok (.iadd, 1) := by decide +kernel
theorem dL_law_638 : decode cL_law 638 = .ok (.iaload, 1) := by decide +kernel
theorem dL_law_639 : decode cL_law 639 = .ok (.invokevirtual 80, 3) := by decide +kernel
theorem dL_law_642 : decode cL_law 642 = .ok (.aload_n 2, 1) := by decide +kernel
theorem dL_law_643 : decode cL_law 643 = .ok (.aload_n 0, 1) := by decide +kernel
theorem dL_law_644 : decode cL_law 644 = .ok (.iload_n 3, 1) := by decide +kernel
theorem dL_law_645 : decode cL_law 645 = .ok (.iconst 1, 1) := by decide +kernel
theorem dL_law_646 : decode cL_law 646 = .ok (.iadd, 1) := by decide +kernel
theorem dL_law_647 : decode cL_law 647 = .ok (.iaload, 1) := by decide +kernel
theorem dL_law_648 : decode cL_law 648 = .ok (.invokevirtual 83, 3) := by decide +kernel
theorem dL_law_651 : decode cL_law 651 = .ok (.if_icmp .eq 769, 3) := by decide +kernel
theorem dL_law_654 : decode cL_law 654 = .ok (.iconst 0, 1) := by decide +kernel
theorem dL_law_655 : decode cL_law 655 = .ok (.ireturn, 1) := by decide +kernel
theorem dL_law_656 : decode cL_law 656 = .ok (.aload_n 1, 1) := by decide +kernel
theorem dL_law_657 : decode cL_law 657 = .ok (.aload_n 0, 1) := by decide +kernel
theorem dL_law_658 : decode cL_law 658 = .ok (.iload_n 3, 1) := by decide +kernel
theorem dL_law_659 : decode cL_law 659 = .ok (.iconst 1, 1) := by decide +kernel
theorem dL_law_660 : decode cL_law 660 = .ok (.iadd, 1) := by decide +kernel
theorem dL_law_661 : decode cL_law 661 = .ok (.iaload, 1) := by decide +kernel
theorem dL_law_662 : decode cL_law 662 = .ok (.invokevirtual 84, 3) := by decide +kernel
theorem dL_law_665 : decode cL_law 665 = .ok (.aload_n 2, 1) := by decide +kernel
theorem dL_law_666 : decode cL_law 666 = .ok (.aload_n 0, 1) := by decide +kernel
theorem dL_law_667 : decode cL_law 667 = .ok (.iload_n 3, 1) := by decide +kernel
theorem dL_law_668 : decode cL_law 668 = .ok (.iconst 1, 1) := by decide +kernel
theorem dL_law_669 : decode cL_law 669 = .ok (.iadd, 1) := by decide +kernel
theorem dL_law_670 : decode cL_law 670 = .ok (.iaload, 1) := by decide +kernel
theorem dL_law_671 : decode cL_law 671 = .ok (.invokevirtual 87, 3) := by decide +kernel
theorem dL_law_674 : decode cL_law 674 = .ok (.if_icmp .eq 746, 3) := by decide +kernel
theorem dL_law_677 : decode cL_law 677 = .ok (.iconst 0, 1) := by decide +kernel
theorem dL_law_678 : decode cL_law 678 = .ok (.ireturn, 1) := by decide +kernel
theorem dL_law_679 : decode cL_law 679 = .ok (.aload_n 1, 1) := by decide +kernel
theorem dL_law_680 : decode cL_law 680 = .ok (.aload_n 0, 1) := by decide +kernel
theorem dL_law_681 : decode cL_law 681 = .ok (.iload_n 3, 1) := by decide +kernel
theorem dL_law_682 : decode cL_law 682 = .ok (.iconst 1, 1) := by decide +kernel
theorem dL_law_683 : decode cL_law 683 = .ok (.iadd, 1) := by decide +kernel
theorem dL_law_684 : decode cL_law 684 = .ok (.iaload, 1) := by decide +kernel
theorem dL_law_685 : decode cL_law 685 = .ok (.aload_n 0, 1) := by decide +kernel
theorem dL_law_686 : decode cL_law 686 = .ok (.iload_n 3, 1) := by decide +kernel
theorem dL_law_687 : decode cL_law 687 = .ok (.iconst 2, 1) := by decide +kernel
theorem dL_law_688 : decode cL_law 688 = .ok (.iadd, 1) := by decide +kernel
theorem dL_law_689 : decode cL_law 689 = .ok (.iaload, 1) := by decide +kernel
theorem dL_law_690 : decode cL_law 690 = .ok (.aload_n 0, 1) := by decide +kernel
theorem dL_law_691 : decode cL_law 691 = .ok (.iload_n 3, 1) := by decide +kernel
theorem dL_law_692 : decode cL_law 692 = .ok (.iconst 3, 1) := by decide +kernel
theorem dL_law_693 : decode cL_law 693 = .ok (.iadd, 1) := by decide +kernel
theorem dL_law_694 : decode cL_law 694 = .ok (.iaload, 1) := by decide +kernel
theorem dL_law_695 : decode cL_law 695 = .ok (.invokevirtual 88, 3) := by decide +kernel
theorem dL_law_698 : decode cL_law 698 = .ok (.aload_n 2, 1) := by decide +kernel
theorem dL_law_699 : decode cL_law 699 = .ok (.aload_n 0, 1) := by decide +kernel
theorem dL_law_700 : decode cL_law 700 = .ok (.iload_n 3, 1) := by decide +kernel
theorem dL_law_701 : decode cL_law 701 = .ok (.iconst 1, 1) := by decide +kernel
theorem dL_law_702 : decode cL_law 702 = .ok (.iadd, 1) := by decide +kernel
theorem dL_law_703 : decode cL_law 703 = .ok (.iaload, 1) := by decide +kernel
theorem dL_law_704 : decode cL_law 704 = .ok (.aload_n 0, 1) := by decide +kernel
theorem dL_law_705 : decode cL_law 705 = .ok (.iload_n 3, 1) := by decide +kernel
theorem dL_law_706 : decode cL_law 706 = .ok (.iconst 2, 1) := by decide +kernel
theorem dL_law_707 : decode cL_law 707 = .ok (.iadd, 1) := by decide +kernel
theorem dL_law_708 : decode cL_law 708 = .ok (.iaload, 1) := by decide +kernel
theorem dL_law_709 : decode cL_law 709 = .ok (.aload_n 0, 1) := by decide +kernel
theorem dL_law_710 : decode cL_law 710 = .ok (.iload_n 3, 1) := by decide +kernel
theorem dL_law_711 : decode cL_law 711 = .ok (.iconst 3, 1) := by decide +kernel
theorem dL_law_712 : decode cL_law 712 = .ok (.iadd, 1) := by decide +kernel
theorem dL_law_713 : decode cL_law 713 = .ok (.iaload, 1) := by decide +kernel
theorem dL_law_714 : decode cL_law 714 = .ok (.invokevirtual 91, 3) := by decide +kernel
theorem dL_law_717 : decode cL_law 717 = .ok (.if_icmp .eq 703, 3) := by decide +kernel
theorem dL_law_720 : decode cL_law 720 = .ok (.iconst 0, 1) := by decide +kernel
theorem dL_law_721 : decode cL_law 721 = .ok (.ireturn, 1) := by decide +kernel
theorem dL_law_722 : decode cL_law 722 = .ok (.aload_n 1, 1) := by decide +kernel
theorem dL_law_723 : decode cL_law 723 = .ok (.invokevirtual 92, 3) := by decide +kernel
theorem dL_law_726 : decode cL_law 726 = .ok (.aload_n 2, 1) := by decide +kernel
theorem dL_law_727 : decode cL_law 727 = .ok (.invokevirtual 95, 3) := by decide +kernel
theorem dL_law_730 : decode cL_law 730 = .ok (.if_icmp .eq 690, 3) := by decide +kernel
theorem dL_law_733 : decode cL_law 733 = .ok (.iconst 0, 1) := by decide +kernel
theorem dL_law_734 : decode cL_law 734 = .ok (.ireturn, 1) := by decide +kernel
theorem dL_law_735 : decode cL_law 735 = .ok (.aload_n 1, 1) := by decide +kernel
theorem dL_law_736 : decode cL_law 736 = .ok (.aload_n 0, 1) := by decide +kernel
theorem dL_law_737 : decode cL_law 737 = .ok (.iload_n 3, 1) := by decide +kernel
theorem dL_law_738 : decode cL_law 738 = .ok (.iconst 1, 1) := by decide +kernel
theorem dL_law_739 : decode cL_law 739 = .ok (.iadd, 1) := by decide +kernel
theorem dL_law_740 : decode cL_law 740 = .ok (.iaload, 1) := by decide +kernel
theorem dL_law_741 : decode cL_law 741 = .ok (.aload_n 0, 1) := by decide +kernel
theorem dL_law_742 : decode cL_law 742 = .ok (.iload_n 3, 1) := by decide +kernel
theorem dL_law_743 : decode cL_law 743 = .ok (.iconst 2, 1) := by decide +kernel
theorem dL_law_744 : decode cL_law 744 = .ok (.iadd, 1) := by decide +kernel
theorem dL_law_745 : decode cL_law 745 = .ok (.iaload, 1) := by decide +kernel
theorem dL_law_746 : decode cL_law 746 = .ok (.invokevirtual 96, 3) := by decide +kernel
theorem dL_law_749 : decode cL_law 749 = .ok (.aload_n 2, 1) := by decide +kernel
theorem dL_law_750 : decode cL_law 750 = .ok (.aload_n 0, 1) := by decide +kernel
theorem dL_law_751 : decode cL_law 751 = .ok (.iload_n 3, 1) := by decide +kernel
theorem dL_law_752 : decode cL_law 752 = .ok (.iconst 1, 1) := by decide +kernel
theorem dL_law_753 : decode cL_law 753 = .ok (.iadd, 1) := by decide +kernel
theorem dL_law_754 : decode cL_law 754 = .ok (.iaload, 1) := by decide +kernel
theorem dL_law_755 : decode cL_law 755 = .ok (.aload_n 0, 1) := by decide +kernel
theorem dL_law_756 : decode cL_law 756 = .ok (.iload_n 3, 1) := by decide +kernel
theorem dL_law_757 : decode cL_law 757 = .ok (.iconst 2, 1) := by decide +kernel
theorem dL_law_758 : decode cL_law 758 = .ok (.iadd, 1) := by decide +kernel
theorem dL_law_759 : decode cL_law 759 = .ok (.iaload, 1) := by decide +kernel
theorem dL_law_760 : decode cL_law 760 = .ok (.invokevirtual 99, 3) := by decide +kernel
theorem dL_law_763 : decode cL_law 763 = .ok (.if_icmp .eq 657, 3) := by decide +kernel
theorem dL_law_766 : decode cL_law 766 = .ok (.iconst 0, 1) := by decide +kernel
theorem dL_law_767 : decode cL_law 767 = .ok (.ireturn, 1) := by decide +kernel
theorem dL_law_768 : decode cL_law 768 = .ok (.aload_n 1, 1) := by decide +kernel
theorem dL_law_769 : decode cL_law 769 = .ok (.aload_n 0, 1) := by decide +kernel
theorem dL_law_770 : decode cL_law 770 = .ok (.iload_n 3, 1) := by decide +kernel
theorem dL_law_771 : decode cL_law 771 = .ok (.iconst 1, 1) := by decide +kernel
theorem dL_law_772 : decode cL_law 772 = .ok (.iadd, 1) := by decide +kernel
theorem dL_law_773 : decode cL_law 773 = .ok (.iaload, 1) := by decide +kernel
theorem dL_law_774 : decode cL_law 774 = .ok (.aload_n 0, 1) := by decide +kernel
theorem dL_law_775 : decode cL_law 775 = .ok (.iload_n 3, 1) := by decide +kernel
theorem dL_law_776 : decode cL_law 776 = .ok (.iconst 2, 1) := by decide +kernel
theorem dL_law_777 : decode cL_law 777 = .ok (.iadd, 1) := by decide +kernel
theorem dL_law_778 : decode cL_law 778 = .ok (.iaload, 1) := by decide +kernel
theorem dL_law_779 : decode cL_law 779 = .ok (.invokevirtual 100, 3) := by decide +kernel
theorem dL_law_782 : decode cL_law 782 = .ok (.aload_n 2, 1) := by decide +kernel
theorem dL_law_783 : decode cL_law 783 = .ok (.aload_n 0, 1) := by decide +kernel
theorem dL_law_784 : decode cL_law 784 = .ok (.iload_n 3, 1) := by decide +kernel
theorem dL_law_785 : decode cL_law 785 = .ok (.iconst 1, 1) := by decide +kernel
theorem dL_law_786 : decode cL_law 786 = .ok (.iadd, 1) := by decide +kernel
theorem dL_law_787 : decode cL_law 787 = .ok (.iaload, 1) := by decide +kernel
theorem dL_law_788 : decode cL_law 788 = .ok (.aload_n 0, 1) := by decide +kernel
theorem dL_law_789 : decode cL_law 789 = .ok (.iload_n 3, 1) := by decide +kernel
theorem dL_law_790 : decode cL_law 790 = .ok (.iconst 2, 1) := by decide +kernel
theorem dL_law_791 : decode cL_law 791 = .ok (.iadd, 1) := by decide +kernel
theorem dL_law_792 : decode cL_law 792 = .ok (.iaload, 1) := by decide +kernel
theorem dL_law_793 : decode cL_law 793 = .ok (.invokevirtual 103, 3) := by decide +kernel
theorem dL_law_796 : decode cL_law 796 = .ok (.if_icmp .eq 624, 3) := by decide +kernel
theorem dL_law_799 : decode cL_law 799 = .ok (.iconst 0, 1) := by decide +kernel
theorem dL_law_800 : decode cL_law 800 = .ok (.ireturn, 1) := by decide +kernel
theorem dL_law_801 : decode cL_law 801 = .ok (.aload_n 1, 1) := by decide +kernel
theorem dL_law_802 : decode cL_law 802 = .ok (.aload_n 0, 1) := by decide +kernel
theorem dL_law_803 : decode cL_law 803 = .ok (.iload_n 3, 1) := by decide +kernel
theorem dL_law_804 : decode cL_law 804 = .ok (.iconst 1, 1) := by decide +kernel
theorem dL_law_805 : decode cL_law 805 = .ok (.iadd, 1) := by decide +kernel
theorem dL_law_806 : decode cL_law 806 = .ok (.iaload, 1) := by decide +kernel
theorem dL_law_807 : decode cL_law 807 = .ok (.aload_n 0, 1) := by decide +kernel
theorem dL_law_808 : decode cL_law 808 = .ok (.iload_n 3, 1) := by decide +kernel
theorem dL_law_809 : decode cL_law 809 = .ok (.iconst 2, 1) := by decide +kernel
theorem dL_law_810 : decode cL_law 810 = .ok (.iadd, 1) := by decide +kernel
theorem dL_law_811 : decode cL_law 811 = .ok (.iaload, 1) := by decide +kernel
theorem dL_law_812 : decode cL_law 812 = .ok (.aload_n 0, 1) := by decide +kernel
theorem dL_law_813 : decode cL_law 813 = .ok (.iload_n 3, 1) := by decide +kernel
theorem dL_law_814 : decode cL_law 814 = .ok (.iconst 3, 1) := by decide +kernel
theorem dL_law_815 : decode cL_law 815 = .ok (.iadd, 1) := by decide +kernel
theorem dL_law_816 : decode cL_law 816 = .ok (.iaload, 1) := by decide +kernel
theorem dL_law_817 : decode cL_law 817 = .ok (.invokevirtual 104, 3) := by decide +kernel
theorem dL_law_820 : decode cL_law 820 = .ok (.aload_n 2, 1) := by decide +kernel
theorem dL_law_821 : decode cL_law 821 = .ok (.aload_n 0, 1) := by decide +kernel
theorem dL_law_822 : decode cL_law 822 = .ok (.iload_n 3, 1) := by decide +kernel
theorem dL_law_823 : decode cL_law 823 = .ok (.iconst 1, 1) := by decide +kernel
theorem dL_law_824 : decode cL_law 824 = .ok (.iadd, 1) := by decide +kernel
theorem dL_law_825 : decode cL_law 825 = .ok (.iaload, 1) := by decide +kernel
theorem dL_law_826 : decode cL_law 826 = .ok (.aload_n 0, 1) := by decide +kernel
theorem dL_law_827 : decode cL_law 827 = .ok (.iload_n 3, 1) := by decide +kernel
theorem dL_law_828 : decode cL_law 828 = .ok (.iconst 2, 1) := by decide +kernel
theorem dL_law_829 : decode cL_law 829 = .ok (.iadd, 1) := by decide +kernel
theorem dL_law_830 : decode cL_law 830 = .ok (.iaload, 1) := by decide +kernel
theorem dL_law_831 : decode cL_law 831 = .ok (.aload_n 0, 1) := by decide +kernel
theorem dL_law_832 : decode cL_law 832 = .ok (.iload_n 3, 1) := by decide +kernel
theorem dL_law_833 : decode cL_law 833 = .ok (.iconst 3, 1) := by decide +kernel
theorem dL_law_834 : decode cL_law 834 = .ok (.iadd, 1) := by decide +kernel
theorem dL_law_835 : decode cL_law 835 = .ok (.iaload, 1) := by decide +kernel
theorem dL_law_836 : decode cL_law 836 = .ok (.invokevirtual 107, 3) := by decide +kernel
theorem dL_law_839 : decode cL_law 839 = .ok (.if_icmp .eq 581, 3) := by decide +kernel
theorem dL_law_842 : decode cL_law 842 = .ok (.iconst 0, 1) := by decide +kernel
theorem dL_law_843 : decode cL_law 843 = .ok (.ireturn, 1) := by decide +kernel
theorem dL_law_844 : decode cL_law 844 = .ok (.aload_n 1, 1) := by decide +kernel
theorem dL_law_845 : decode cL_law 845 = .ok (.aload_n 0, 1) := by decide +kernel
theorem dL_law_846 : decode cL_law 846 = .ok (.iload_n 3, 1) := by decide +kernel
theorem dL_law_847 : decode cL_law 847 = .ok (.iconst 1, 1) := by decide +kernel
theorem dL_law_848 : decode cL_law 848 = .ok (.iadd, 1) := by decide +kernel
theorem dL_law_849 : decode cL_law 849 = .ok (.iaload, 1) := by decide +kernel
theorem dL_law_850 : decode cL_law 850 = .ok (.aload_n 0, 1) := by decide +kernel
theorem dL_law_851 : decode cL_law 851 = .ok (.iload_n 3, 1) := by decide +kernel
theorem dL_law_852 : decode cL_law 852 = .ok (.iconst 2, 1) := by decide +kernel
theorem dL_law_853 : decode cL_law 853 = .ok (.iadd, 1) := by decide +kernel
theorem dL_law_854 : decode cL_law 854 = .ok (.iaload, 1) := by decide +kernel
theorem dL_law_855 : decode cL_law 855 = .ok (.ifCond .eq 7, 3) := by decide +kernel
theorem dL_law_858 : decode cL_law 858 = .ok (.iconst 1, 1) := by decide +kernel
theorem dL_law_859 : decode cL_law 859 = .ok (.goto 4, 3) := by decide +kernel
theorem dL_law_862 : decode cL_law 862 = .ok (.iconst 0, 1) := by decide +kernel
theorem dL_law_863 : decode cL_law 863 = .ok (.invokevirtual 108, 3) := by decide +kernel
theorem dL_law_866 : decode cL_law 866 = .ok (.aload_n 2, 1) := by decide +kernel
theorem dL_law_867 : decode cL_law 867 = .ok (.aload_n 0, 1) := by decide +kernel
theorem dL_law_868 : decode cL_law 868 = .ok (.iload_n 3, 1) := by decide +kernel
theorem dL_law_869 : decode cL_law 869 = .ok (.iconst 1, 1) := by decide +kernel
theorem dL_law_870 : decode cL_law 870 = .ok (.iadd, 1) := by decide +kernel
theorem dL_law_871 : decode cL_law 871 = .ok (.iaload, 1) := by decide +kernel
theorem dL_law_872 : decode cL_law 872 = .ok (.aload_n 0, 1) := by decide +kernel
theorem dL_law_873 : decode cL_law 873 = .ok (.iload_n 3, 1) := by decide +kernel
theorem dL_law_874 : decode cL_law 874 = .ok (.iconst 2, 1) := by decide +kernel
theorem dL_law_875 : decode cL_law 875 = .ok (.iadd, 1) := by decide +kernel
theorem dL_law_876 : decode cL_law 876 = .ok (.iaload, 1) := by decide +kernel
theorem dL_law_877 : decode cL_law 877 = .ok (.ifCond .eq 7, 3) := by decide +kernel
theorem dL_law_880 : decode cL_law 880 = .ok (.iconst 1, 1) := by decide +kernel
theorem dL_law_881 : decode cL_law 881 = .ok (.goto 4, 3) := by decide +kernel
theorem dL_law_884 : decode cL_law 884 = .ok (.iconst 0, 1) := by decide +kernel
theorem dL_law_885 : decode cL_law 885 = .ok (.invokevirtual 112, 3) := by decide +kernel
theorem dL_law_888 : decode cL_law 888 = .ok (.if_icmp .eq 532, 3) := by decide +kernel
theorem dL_law_891 : decode cL_law 891 = .ok (.iconst 0, 1) := by decide +kernel
theorem dL_law_892 : decode cL_law 892 = .ok (.ireturn, 1) := by decide +kernel
theorem dL_law_893 : decode cL_law 893 = .ok (.aload_n 1, 1) := by decide +kernel
theorem dL_law_894 : decode cL_law 894 = .ok (.aload_n 0, 1) := by decide +kernel
theorem dL_law_895 : decode cL_law 895 = .ok (.iload_n 3, 1) := by decide +kernel
theorem dL_law_896 : decode cL_law 896 = .ok (.iconst 1, 1) := by decide +kernel
theorem dL_law_897 : decode cL_law 897 = .ok (.iadd, 1) := by decide +kernel
theorem dL_law_898 : decode cL_law 898 = .ok (.iaload, 1) := by decide +kernel
theorem dL_law_899 : decode cL_law 899 = .ok (.invokevirtual 113, 3) := by decide +kernel
theorem dL_law_902 : decode cL_law 902 = .ok (.aload_n 2, 1) := by decide +kernel
theorem dL_law_903 : decode cL_law 903 = .ok (.aload_n 0, 1) := by decide +kernel
theorem dL_law_904 : decode cL_law 904 = .ok (.iload_n 3, 1) := by decide +kernel
theorem dL_law_905 : decode cL_law 905 = .ok (.iconst 1, 1) := by decide +kernel
theorem dL_law_906 : decode cL_law 906 = .ok (.iadd, 1) := by decide +kernel
theorem dL_law_907 : decode cL_law 907 = .ok (.iaload, 1) := by decide +kernel
theorem dL_law_908 : decode cL_law 908 = .ok (.invokevirtual 116, 3) := by decide +kernel
theorem dL_law_911 : decode cL_law 911 = .ok (.if_icmp .eq 509, 3) := by decide +kernel
theorem dL_law_914 : decode cL_law 914 = .ok (.iconst 0, 1) := by decide +kernel
theorem dL_law_915 : decode cL_law 915 = .ok (.ireturn, 1) := by decide +kernel
theorem dL_law_916 : decode cL_law 916 = .ok (.aload_n 1, 1) := by decide +kernel
theorem dL_law_917 : decode cL_law 917 = .ok (.invokevirtual 117, 3) := by decide +kernel
theorem dL_law_920 : decode cL_law 920 = .ok (.aload_n 2, 1) := by decide +kernel
theorem dL_law_921 : decode cL_law 921 = .ok (.invokevirtual 120, 3) := by decide +kernel
theorem dL_law_924 : decode cL_law 924 = .ok (.if_icmp .eq 496, 3) := by decide +kernel
theorem dL_law_927 : decode cL_law 927 = .ok (.iconst 0, 1) := by decide +kernel
theorem dL_law_928 : decode cL_law 928 = .ok (.ireturn, 1) := by decide +kernel
theorem dL_law_929 : decode cL_law 929 = .ok (.aload_n 1, 1) := by decide +kernel
theorem dL_law_930 : decode cL_law 930 = .ok (.aload_n 0, 1) := by decide +kernel
theorem dL_law_931 : decode cL_law 931 = .ok (.iload_n 3, 1) := by decide +kernel
theorem dL_law_932 : decode cL_law 932 = .ok (.iconst 1, 1) := by decide +kernel
theorem dL_law_933 : decode cL_law 933 = .ok (.iadd, 1) := by decide +kernel
theorem dL_law_934 : decode cL_law 934 = .ok (.iaload, 1) := by decide +kernel
theorem dL_law_935 : decode cL_law 935 = .ok (.aload_n 0, 1) := by decide +kernel
theorem dL_law_936 : decode cL_law 936 = .ok (.iload_n 3, 1) := by decide +kernel
theorem dL_law_937 : decode cL_law 937 = .ok (.iconst 2, 1) := by decide +kernel
theorem dL_law_938 : decode cL_law 938 = .ok (.iadd, 1) := by decide +kernel
theorem dL_law_939 : decode cL_law 939 = .ok (.iaload, 1) := by decide +kernel
theorem dL_law_940 : decode cL_law 940 = .ok (.aload_n 0, 1) := by decide +kernel
theorem dL_law_941 : decode cL_law 941 = .ok (.iload_n 3, 1) := by decide +kernel
theorem dL_law_942 : decode cL_law 942 = .ok (.iconst 3, 1) := by decide +kernel
theorem dL_law_943 : decode cL_law 943 = .ok (.iadd, 1) := by decide +kernel
theorem dL_law_944 : decode cL_law 944 = .ok (.iaload, 1) := by decide +kernel
theorem dL_law_945 : decode cL_law 945 = .ok (.invokevirtual 121, 3) := by decide +kernel
theorem dL_law_948 : decode cL_law 948 = .ok (.aload_n 2, 1) := by decide +kernel
theorem dL_law_949 : decode cL_law 949 = .ok (.aload_n 0, 1) := by decide +kernel
theorem dL_law_950 : decode cL_law 950 = .ok (.iload_n 3, 1) := by decide +kernel
theorem dL_law_951 : decode cL_law 951 = .ok (.iconst 1, 1) := by decide +kernel
theorem dL_law_952 : decode cL_law 952 = .ok (.iadd, 1) := by decide +kernel
theorem dL_law_953 : decode cL_law 953 = .ok (.iaload, 1) := by decide +kernel
theorem dL_law_954 : decode cL_law 954 = .ok (.aload_n 0, 1) := by decide +kernel
theorem dL_law_955 : decode cL_law 955 = .ok (.iload_n 3, 1) := by decide +kernel
theorem dL_law_956 : decode cL_law 956 = .ok (.iconst 2, 1) := by decide +kernel
theorem dL_law_957 : decode cL_law 957 = .ok (.iadd, 1) := by decide +kernel
theorem dL_law_958 : decode cL_law 958 = .ok (.iaload, 1) := by decide +kernel
theorem dL_law_959 : decode cL_law 959 = .ok (.aload_n 0, 1) := by decide +kernel
theorem dL_law_960 : decode cL_law 960 = .ok (.iload_n 3, 1) := by decide +kernel
theorem dL_law_961 : decode cL_law 961 = .ok (.iconst 3, 1) := by decide +kernel
theorem dL_law_962 : decode cL_law 962 = .ok (.iadd, 1) := by decide +kernel
theorem dL_law_963 : decode cL_law 963 = .ok (.iaload, 1) := by decide +kernel
theorem dL_law_964 : decode cL_law 964 = .ok (.invokevirtual 124, 3) := by decide +kernel
theorem dL_law_967 : decode cL_law 967 = .ok (.if_icmp .eq 453, 3) := by decide +kernel
theorem dL_law_970 : decode cL_law 970 = .ok (.iconst 0, 1) := by decide +kernel
theorem dL_law_971 : decode cL_law 971 = .ok (.ireturn, 1) := by decide +kernel
theorem dL_law_972 : decode cL_law 972 = .ok (.aload_n 1, 1) := by decide +kernel
theorem dL_law_973 : decode cL_law 973 = .ok (.aload_n 0, 1) := by decide +kernel
theorem dL_law_974 : decode cL_law 974 = .ok (.iload_n 3, 1) := by decide +kernel
theorem dL_law_975 : decode cL_law 975 = .ok (.iconst 1, 1) := by decide +kernel
theorem dL_law_976 : decode cL_law 976 = .ok (.iadd, 1) := by decide +kernel
theorem dL_law_977 : decode cL_law 977 = .ok (.iaload, 1) := by decide +kernel
theorem dL_law_978 : decode cL_law 978 = .ok (.invokevirtual 125, 3) := by decide +kernel
theorem dL_law_981 : decode cL_law 981 = .ok (.aload_n 2, 1) := by decide +kernel
theorem dL_law_982 : decode cL_law 982 = .ok (.aload_n 0, 1) := by decide +kernel
theorem dL_law_983 : decode cL_law 983 = .ok (.iload_n 3, 1) := by decide +kernel
theorem dL_law_984 : decode cL_law 984 = .ok (.iconst 1, 1) := by decide +kernel
theorem dL_law_985 : decode cL_law 985 = .ok (.iadd, 1) := by decide +kernel
theorem dL_law_986 : decode cL_law 986 = .ok (.iaload, 1) := by decide +kernel
theorem dL_law_987 : decode cL_law 987 = .ok (.invokevirtual 128, 3) := by decide +kernel
theorem dL_law_990 : decode cL_law 990 = .ok (.if_icmp .eq 430, 3) := by decide +kernel
theorem dL_law_993 : decode cL_law 993 = .ok (.iconst 0, 1) := by decide +kernel
theorem dL_law_994 : decode cL_law 994 = .ok (.ireturn, 1) := by decide +kernel
theorem dL_law_995 : decode cL_law 995 = .ok (.aload_n 1, 1) := by decide +kernel
theorem dL_law_996 : decode cL_law 996 = .ok (.aload_n 0, 1) := by decide +kernel
theorem dL_law_997 : decode cL_law 997 = .ok (.iload_n 3, 1) := by decide +kernel
theorem dL_law_998 : decode cL_law 998 = .ok (.iconst 1, 1) := by decide +kernel
theorem dL_law_999 : decode cL_law 999 = .ok (.iadd, 1) := by decide +kernel
theorem dL_law_1000 : decode cL_law 1000 = .ok (.iaload, 1) := by decide +kernel
theorem dL_law_1001 : decode cL_law 1001 = .ok (.aload_n 0, 1) := by decide +kernel
theorem dL_law_1002 : decode cL_law 1002 = .ok (.iload_n 3, 1) := by decide +kernel
theorem dL_law_1003 : decode cL_law 1003 = .ok (.iconst 2, 1) := by decide +kernel
theorem dL_law_1004 : decode cL_law 1004 = .ok (.iadd, 1) := by decide +kernel
theorem dL_law_1005 : decode cL_law 1005 = .ok (.iaload, 1) := by decide +kernel
theorem dL_law_1006 : decode cL_law 1006 = .ok (.invokevirtual 129, 3) := by decide +kernel
theorem dL_law_1009 : decode cL_law 1009 = .ok (.aload_n 2, 1) := by decide +kernel
theorem dL_law_1010 : decode cL_law 1010 = .ok (.aload_n 0, 1) := by decide +kernel
theorem dL_law_1011 : decode cL_law 1011 = .ok (.iload_n 3, 1) := by decide +kernel
theorem dL_law_1012 : decode cL_law 1012 = .ok (.iconst 1, 1) := by decide +kernel
theorem dL_law_1013 : decode cL_law 1013 = .ok (.iadd, 1) := by decide +kernel
theorem dL_law_1014 : decode cL_law 1014 = .ok (.iaload, 1) := by decide +kernel
theorem dL_law_1015 : decode cL_law 1015 = .ok (.aload_n 0, 1) := by decide +kernel
theorem dL_law_1016 : decode cL_law 1016 = .ok (.iload_n 3, 1) := by decide +kernel
theorem dL_law_1017 : decode cL_law 1017 = .ok (.iconst 2, 1) := by decide +kernel
theorem dL_law_1018 : decode cL_law 1018 = .ok (.iadd, 1) := by decide +kernel
theorem dL_law_1019 : decode cL_law 1019 = .ok (.iaload, 1) := by decide +kernel
theorem dL_law_1020 : decode cL_law 1020 = .ok (.invokevirtual 132, 3) := by decide +kernel
theorem dL_law_1023 : decode cL_law 1023 = .ok (.if_icmp .eq 397, 3) := by decide +kernel
theorem dL_law_1026 : decode cL_law 1026 = .ok (.iconst 0, 1) := by decide +kernel
theorem dL_law_1027 : decode cL_law 1027 = .ok (.ireturn, 1) := by decide +kernel
theorem dL_law_1028 : decode cL_law 1028 = .ok (.aload_n 1, 1) := by decide +kernel
theorem dL_law_1029 : decode cL_law 1029 = .ok (.aload_n 0, 1) := by decide +kernel
theorem dL_law_1030 : decode cL_law 1030 = .ok (.iload_n 3, 1) := by decide +kernel
theorem dL_law_1031 : decode cL_law 1031 = .ok (.iconst 1, 1) := by decide +kernel
theorem dL_law_1032 : decode cL_law 1032 = .ok (.iadd, 1) := by decide +kernel
theorem dL_law_1033 : decode cL_law 1033 = .ok (.iaload, 1) := by decide +kernel
theorem dL_law_1034 : decode cL_law 1034 = .ok (.aload_n 0, 1) := by decide +kernel
theorem dL_law_1035 : decode cL_law 1035 = .ok (.iload_n 3, 1) := by decide +kernel
theorem dL_law_1036 : decode cL_law 1036 = .ok (.iconst 2, 1) := by decide +kernel
theorem dL_law_1037 : decode cL_law 1037 = .ok (.iadd, 1) := by decide +kernel
theorem dL_law_1038 : decode cL_law 1038 = .ok (.iaload, 1) := by decide +kernel
theorem dL_law_1039 : decode cL_law 1039 = .ok (.ifCond .eq 7, 3) := by decide +kernel
theorem dL_law_1042 : decode cL_law 1042 = .ok (.iconst 1, 1) := by decide +kernel
theorem dL_law_1043 : decode cL_law 1043 = .ok (.goto 4, 3) := by decide +kernel
theorem dL_law_1046 : decode cL_law 1046 = .ok (.iconst 0, 1) := by decide +kernel
theorem dL_law_1047 : decode cL_law 1047 = .ok (.invokevirtual 133, 3) := by decide +kernel
theorem dL_law_1050 : decode cL_law 1050 = .ok (.aload_n 2, 1) := by decide +kernel
theorem dL_law_1051 : decode cL_law 1051 = .ok (.aload_n 0, 1) := by decide +kernel
theorem dL_law_1052 : decode cL_law 1052 = .ok (.iload_n 3, 1) := by decide +kernel
theorem dL_law_1053 : decode cL_law 1053 = .ok (.iconst 1, 1) := by decide +kernel
theorem dL_law_1054 : decode cL_law 1054 = .ok (.iadd, 1) := by decide +kernel
theorem dL_law_1055 : decode cL_law 1055 = .ok (.iaload, 1) := by decide +kernel
theorem dL_law_1056 : decode cL_law 1056 = .ok (.aload_n 0, 1) := by decide +kernel
theorem dL_law_1057 : decode cL_law 1057 = .ok (.iload_n 3, 1) := by decide +kernel
theorem dL_law_1058 : decode cL_law 1058 = .ok (.iconst 2, 1) := by decide +kernel
theorem dL_law_1059 : decode cL_law 1059 = .ok (.iadd, 1) := by decide +kernel
theorem dL_law_1060 : decode cL_law 1060 = .ok (.iaload, 1) := by decide +kernel
theorem dL_law_1061 : decode cL_law 1061 = .ok (.ifCond .eq 7, 3) := by decide +kernel
theorem dL_law_1064 : decode cL_law 1064 = .ok (.iconst 1, 1) := by decide +kernel
theorem dL_law_1065 : decode cL_law 1065 = .ok (.goto 4, 3) := by decide +kernel
theorem dL_law_1068 : decode cL_law 1068 = .ok (.iconst 0, 1) := by decide +kernel
theorem dL_law_1069 : decode cL_law 1069 = .ok (.invokevirtual 136, 3) := by decide +kernel
theorem dL_law_1072 : decode cL_law 1072 = .ok (.if_icmp .eq 348, 3) := by decide +kernel
theorem dL_law_1075 : decode cL_law 1075 = .ok (.iconst 0, 1) := by decide +kernel
theorem dL_law_1076 : decode cL_law 1076 = .ok (.ireturn, 1) := by decide +kernel
theorem dL_law_1077 : decode cL_law 1077 = .ok (.aload_n 1, 1) := by decide +kernel
theorem dL_law_1078 : decode cL_law 1078 = .ok (.aload_n 0, 1) := by decide +kernel
theorem dL_law_1079 : decode cL_law 1079 = .ok (.iload_n 3, 1) := by decide +kernel
theorem dL_law_1080 : decode cL_law 1080 = .ok (.iconst 1, 1) := by decide +kernel
theorem dL_law_1081 : decode cL_law 1081 = .ok (.iadd, 1) := by decide +kernel
theorem dL_law_1082 : decode cL_law 1082 = .ok (.iaload, 1) := by decide +kernel
theorem dL_law_1083 : decode cL_law 1083 = .ok (.invokevirtual 137, 3) := by decide +kernel
theorem dL_law_1086 : decode cL_law 1086 = .ok (.aload_n 2, 1) := by decide +kernel
theorem dL_law_1087 : decode cL_law 1087 = .ok (.aload_n 0, 1) := by decide +kernel
theorem dL_law_1088 : decode cL_law 1088 = .ok (.iload_n 3, 1) := by decide +kernel
theorem dL_law_1089 : decode cL_law 1089 = .ok (.iconst 1, 1) := by decide +kernel
theorem dL_law_1090 : decode cL_law 1090 = .ok (.iadd, 1) := by decide +kernel
theorem dL_law_1091 : decode cL_law 1091 = .ok (.iaload, 1) := by decide +kernel
theorem dL_law_1092 : decode cL_law 1092 = .ok (.invokevirtual 140, 3) := by decide +kernel
theorem dL_law_1095 : decode cL_law 1095 = .ok (.if_icmp .eq 325, 3) := by decide +kernel
theorem dL_law_1098 : decode cL_law 1098 = .ok (.iconst 0, 1) := by decide +kernel
theorem dL_law_1099 : decode cL_law 1099 = .ok (.ireturn, 1) := by decide +kernel
theorem dL_law_1100 : decode cL_law 1100 = .ok (.aload_n 1, 1) := by decide +kernel
theorem dL_law_1101 : decode cL_law 1101 = .ok (.aload_n 0, 1) := by decide +kernel
theorem dL_law_1102 : decode cL_law 1102 = .ok (.iload_n 3, 1) := by decide +kernel
theorem dL_law_1103 : decode cL_law 1103 = .ok (.iconst 1, 1) := by decide +kernel
theorem dL_law_1104 : decode cL_law 1104 = .ok (.iadd, 1) := by decide +kernel
theorem dL_law_1105 : decode cL_law 1105 = .ok (.iaload, 1) := by decide +kernel
theorem dL_law_1106 : decode cL_law 1106 = .ok (.aload_n 0, 1) := by decide +kernel
theorem dL_law_1107 : decode cL_law 1107 = .ok (.iload_n 3, 1) := by decide +kernel
theorem dL_law_1108 : decode cL_law 1108 = .ok (.iconst 2, 1) := by decide +kernel
theorem dL_law_1109 : decode cL_law 1109 = .ok (.iadd, 1) := by decide +kernel
theorem dL_law_1110 : decode cL_law 1110 = .ok (.iaload, 1) := by decide +kernel
theorem dL_law_1111 : decode cL_law 1111 = .ok (.invokevirtual 141, 3) := by decide +kernel
theorem dL_law_1114 : decode cL_law 1114 = .ok (.aload_n 2, 1) := by decide +kernel
theorem dL_law_1115 : decode cL_law 1115 = .ok (.aload_n 0, 1) := by decide +kernel
theorem dL_law_1116 : decode cL_law 1116 = .ok (.iload_n 3, 1) := by decide +kernel
theorem dL_law_1117 : decode cL_law 1117 = .ok (.iconst 1, 1) := by decide +kernel
theorem dL_law_1118 : decode cL_law 1118 = .ok (.iadd, 1) := by decide +kernel
theorem dL_law_1119 : decode cL_law 1119 = .ok (.iaload, 1) := by decide +kernel
theorem dL_law_1120 : decode cL_law 1120 = .ok (.aload_n 0, 1) := by decide +kernel
theorem dL_law_1121 : decode cL_law 1121 = .ok (.iload_n 3, 1) := by decide +kernel
theorem dL_law_1122 : decode cL_law 1122 = .ok (.iconst 2, 1) := by decide +kernel
theorem dL_law_1123 : decode cL_law 1123 = .ok (.iadd, 1) := by decide +kernel
theorem dL_law_1124 : decode cL_law 1124 = .ok (.iaload, 1) := by decide +kernel
theorem dL_law_1125 : decode cL_law 1125 = .ok (.invokevirtual 144, 3) := by decide +kernel
theorem dL_law_1128 : decode cL_law 1128 = .ok (.if_icmp .eq 292, 3) := by decide +kernel
theorem dL_law_1131 : decode cL_law 1131 = .ok (.iconst 0, 1) := by decide +kernel
theorem dL_law_1132 : decode cL_law 1132 = .ok (.ireturn, 1) := by decide +kernel
theorem dL_law_1133 : decode cL_law 1133 = .ok (.aload_n 1, 1) := by decide +kernel
theorem dL_law_1134 : decode cL_law 1134 = .ok (.aload_n 0, 1) := by decide +kernel
theorem dL_law_1135 : decode cL_law 1135 = .ok (.iload_n 3, 1) := by decide +kernel
theorem dL_law_1136 : decode cL_law 1136 = .ok (.iconst 1, 1) := by decide +kernel
theorem dL_law_1137 : decode cL_law 1137 = .ok (.iadd, 1) := by decide +kernel
theorem dL_law_1138 : decode cL_law 1138 = .ok (.iaload, 1) := by decide +kernel
theorem dL_law_1139 : decode cL_law 1139 = .ok (.aload_n 0, 1) := by decide +kernel
theorem dL_law_1140 : decode cL_law 1140 = .ok (.iload_n 3, 1) := by decide +kernel
theorem dL_law_1141 : decode cL_law 1141 = .ok (.iconst 2, 1) := by decide +kernel
theorem dL_law_1142 : decode cL_law 1142 = .ok (.iadd, 1) := by decide +kernel
theorem dL_law_1143 : decode cL_law 1143 = .ok (.iaload, 1) := by decide +kernel
theorem dL_law_1144 : decode cL_law 1144 = .ok (.invokevirtual 145, 3) := by decide +kernel
theorem dL_law_1147 : decode cL_law 1147 = .ok (.aload_n 2, 1) := by decide +kernel
theorem dL_law_1148 : decode cL_law 1148 = .ok (.aload_n 0, 1) := by decide +kernel
theorem dL_law_1149 : decode cL_law 1149 = .ok (.iload_n 3, 1) := by decide +kernel
theorem dL_law_1150 : decode cL_law 1150 = .ok (.iconst 1, 1) := by decide +kernel
theorem dL_law_1151 : decode cL_law 1151 = .ok (.iadd, 1) := by decide +kernel
theorem dL_law_1152 : decode cL_law 1152 = .ok (.iaload, 1) := by decide +kernel
theorem dL_law_1153 : decode cL_law 1153 = .ok (.aload_n 0, 1) := by decide +kernel
theorem dL_law_1154 : decode cL_law 1154 = .ok (.iload_n 3, 1) := by decide +kernel
theorem dL_law_1155 : decode cL_law 1155 = .ok (.iconst 2, 1) := by decide +kernel
theorem dL_law_1156 : decode cL_law 1156 = .ok (.iadd, 1) := by decide +kernel
theorem dL_law_1157 : decode cL_law 1157 = .ok (.iaload, 1) := by decide +kernel
theorem dL_law_1158 : decode cL_law 1158 = .ok (.invokevirtual 148, 3) := by decide +kernel
theorem dL_law_1161 : decode cL_law 1161 = .ok (.if_icmp .eq 259, 3) := by decide +kernel
theorem dL_law_1164 : decode cL_law 1164 = .ok (.iconst 0, 1) := by decide +kernel
theorem dL_law_1165 : decode cL_law 1165 = .ok (.ireturn, 1) := by decide +kernel
theorem dL_law_1166 : decode cL_law 1166 = .ok (.aload_n 1, 1) := by decide +kernel
theorem dL_law_1167 : decode cL_law 1167 = .ok (.aload_n 0, 1) := by decide +kernel
theorem dL_law_1168 : decode cL_law 1168 = .ok (.iload_n 3, 1) := by decide +kernel
theorem dL_law_1169 : decode cL_law 1169 = .ok (.iconst 1, 1) := by decide +kernel
theorem dL_law_1170 : decode cL_law 1170 = .ok (.iadd, 1) := by decide +kernel
theorem dL_law_1171 : decode cL_law 1171 = .ok (.iaload, 1) := by decide +kernel
theorem dL_law_1172 : decode cL_law 1172 = .ok (.aload_n 0, 1) := by decide +kernel
theorem dL_law_1173 : decode cL_law 1173 = .ok (.iload_n 3, 1) := by decide +kernel
theorem dL_law_1174 : decode cL_law 1174 = .ok (.iconst 2, 1) := by decide +kernel
theorem dL_law_1175 : decode cL_law 1175 = .ok (.iadd, 1) := by decide +kernel
theorem dL_law_1176 : decode cL_law 1176 = .ok (.iaload, 1) := by decide +kernel
theorem dL_law_1177 : decode cL_law 1177 = .ok (.invokevirtual 149, 3) := by decide +kernel
theorem dL_law_1180 : decode cL_law 1180 = .ok (.aload_n 2, 1) := by decide +kernel
theorem dL_law_1181 : decode cL_law 1181 = .ok (.aload_n 0, 1) := by decide +kernel
theorem dL_law_1182 : decode cL_law 1182 = .ok (.iload_n 3, 1) := by decide +kernel
theorem dL_law_1183 : decode cL_law 1183 = .ok (.iconst 1, 1) := by decide +kernel
theorem dL_law_1184 : decode cL_law 1184 = .ok (.iadd, 1) := by decide +kernel
theorem dL_law_1185 : decode cL_law 1185 = .ok (.iaload, 1) := by decide +kernel
theorem dL_law_1186 : decode cL_law 1186 = .ok (.aload_n 0, 1) := by decide +kernel
theorem dL_law_1187 : decode cL_law 1187 = .ok (.iload_n 3, 1) := by decide +kernel
theorem dL_law_1188 : decode cL_law 1188 = .ok (.iconst 2, 1) := by decide +kernel
theorem dL_law_1189 : decode cL_law 1189 = .ok (.iadd, 1) := by decide +kernel
theorem dL_law_1190 : decode cL_law 1190 = .ok (.iaload, 1) := by decide +kernel
theorem dL_law_1191 : decode cL_law 1191 = .ok (.invokevirtual 152, 3) := by decide +kernel
theorem dL_law_1194 : decode cL_law 1194 = .ok (.if_icmp .eq 226, 3) := by decide +kernel
theorem dL_law_1197 : decode cL_law 1197 = .ok (.iconst 0, 1) := by decide +kernel
theorem dL_law_1198 : decode cL_law 1198 = .ok (.ireturn, 1) := by decide +kernel
theorem dL_law_1199 : decode cL_law 1199 = .ok (.aload_n 1, 1) := by decide +kernel
theorem dL_law_1200 : decode cL_law 1200 = .ok (.aload_n 0, 1) := by decide +kernel
theorem dL_law_1201 : decode cL_law 1201 = .ok (.iload_n 3, 1) := by decide +kernel
theorem dL_law_1202 : decode cL_law 1202 = .ok (.iconst 1, 1) := by decide +kernel
theorem dL_law_1203 : decode cL_law 1203 = .ok (.iadd, 1) := by decide +kernel
theorem dL_law_1204 : decode cL_law 1204 = .ok (.iaload, 1) := by decide +kernel
theorem dL_law_1205 : decode cL_law 1205 = .ok (.invokevirtual 153, 3) := by decide +kernel
theorem dL_law_1208 : decode cL_law 1208 = .ok (.aload_n 2, 1) := by decide +kernel
theorem dL_law_1209 : decode cL_law 1209 = .ok (.aload_n 0, 1) := by decide +kernel
theorem dL_law_1210 : decode cL_law 1210 = .ok (.iload_n 3, 1) := by decide +kernel
theorem dL_law_1211 : decode cL_law 1211 = .ok (.iconst 1, 1) := by decide +kernel
theorem dL_law_1212 : decode cL_law 1212 = .ok (.iadd, 1) := by decide +kernel
theorem dL_law_1213 : decode cL_law 1213 = .ok (.iaload, 1) := by decide +kernel
theorem dL_law_1214 : decode cL_law 1214 = .ok (.invokevirtual 156, 3) := by decide +kernel
theorem dL_law_1217 : decode cL_law 1217 = .ok (.if_icmp .eq 203, 3) := by decide +kernel
theorem dL_law_1220 : decode cL_law 1220 = .ok (.iconst 0, 1) := by decide +kernel
theorem dL_law_1221 : decode cL_law 1221 = .ok (.ireturn, 1) := by decide +kernel
theorem dL_law_1222 : decode cL_law 1222 = .ok (.aload_n 1, 1) := by decide +kernel
theorem dL_law_1223 : decode cL_law 1223 = .ok (.aload_n 0, 1) := by decide +kernel
theorem dL_law_1224 : decode cL_law 1224 = .ok (.iload_n 3, 1) := by decide +kernel
theorem dL_law_1225 : decode cL_law 1225 = .ok (.iconst 1, 1) := by decide +kernel
theorem dL_law_1226 : decode cL_law 1226 = .ok (.iadd, 1) := by decide +kernel
theorem dL_law_1227 : decode cL_law 1227 = .ok (.iaload, 1) := by decide +kernel
theorem dL_law_1228 : decode cL_law 1228 = .ok (.invokevirtual 157, 3) := by decide +kernel
theorem dL_law_1231 : decode cL_law 1231 = .ok (.aload_n 2, 1) := by decide +kernel
theorem dL_law_1232 : decode cL_law 1232 = .ok (.aload_n 0, 1) := by decide +kernel
theorem dL_law_1233 : decode cL_law 1233 = .ok (.iload_n 3, 1) := by decide +kernel
theorem dL_law_1234 : decode cL_law 1234 = .ok (.iconst 1, 1) := by decide +kernel
theorem dL_law_1235 : decode cL_law 1235 = .ok (.iadd, 1) := by decide +kernel
theorem dL_law_1236 : decode cL_law 1236 = .ok (.iaload, 1) := by decide +kernel
theorem dL_law_1237 : decode cL_law 1237 = .ok (.invokevirtual 160, 3) := by decide +kernel
theorem dL_law_1240 : decode cL_law 1240 = .ok (.if_icmp .eq 180, 3) := by decide +kernel
theorem dL_law_1243 : decode cL_law 1243 = .ok (.iconst 0, 1) := by decide +kernel
theorem dL_law_1244 : decode cL_law 1244 = .ok (.ireturn, 1) := by decide +kernel
theorem dL_law_1245 : decode cL_law 1245 = .ok (.aload_n 1, 1) := by decide +kernel
theorem dL_law_1246 : decode cL_law 1246 = .ok (.aload_n 0, 1) := by decide +kernel
theorem dL_law_1247 : decode cL_law 1247 = .ok (.iload_n 3, 1) := by decide +kernel
theorem dL_law_1248 : decode cL_law 1248 = .ok (.iconst 1, 1) := by decide +kernel
theorem dL_law_1249 : decode cL_law 1249 = .ok (.iadd, 1) := by decide +kernel
theorem dL_law_1250 : decode cL_law 1250 = .ok (.iaload, 1) := by decide +kernel
theorem dL_law_1251 : decode cL_law 1251 = .ok (.aload_n 0, 1) := by decide +kernel
theorem dL_law_1252 : decode cL_law 1252 = .ok (.iload_n 3, 1) := by decide +kernel
theorem dL_law_1253 : decode cL_law 1253 = .ok (.iconst 2, 1) := by decide +kernel
theorem dL_law_1254 : decode cL_law 1254 = .ok (.iadd, 1) := by decide +kernel
theorem dL_law_1255 : decode cL_law 1255 = .ok (.iaload, 1) := by decide +kernel
theorem dL_law_1256 : decode cL_law 1256 = .ok (.aload_n 0, 1) := by decide +kernel
theorem dL_law_1257 : decode cL_law 1257 = .ok (.iload_n 3, 1) := by decide +kernel
theorem dL_law_1258 : decode cL_law 1258 = .ok (.iconst 3, 1) := by decide +kernel
theorem dL_law_1259 : decode cL_law 1259 = .ok (.iadd, 1) := by decide +kernel
theorem dL_law_1260 : decode cL_law 1260 = .ok (.iaload, 1) := by decide +kernel
theorem dL_law_1261 : decode cL_law 1261 = .ok (.invokevirtual 161, 3) := by decide +kernel
theorem dL_law_1264 : decode cL_law 1264 = .ok (.aload_n 2, 1) := by decide +kernel
theorem dL_law_1265 : decode cL_law 1265 = .ok (.aload_n 0, 1) := by decide +kernel
theorem dL_law_1266 : decode cL_law 1266 = .ok (.iload_n 3, 1) := by decide +kernel
theorem dL_law_1267 : decode cL_law 1267 = .ok (.iconst 1, 1) := by decide +kernel
theorem dL_law_1268 : decode cL_law 1268 = .ok (.iadd, 1) := by decide +kernel
theorem dL_law_1269 : decode cL_law 1269 = .ok (.iaload, 1) := by decide +kernel
theorem dL_law_1270 : decode cL_law 1270 = .ok (.aload_n 0, 1) := by decide +kernel
theorem dL_law_1271 : decode cL_law 1271 = .ok (.iload_n 3, 1) := by decide +kernel
theorem dL_law_1272 : decode cL_law 1272 = .ok (.iconst 2, 1) := by decide +kernel
theorem dL_law_1273 : decode cL_law 1273 = .ok (.iadd, 1) := by decide +kernel
theorem dL_law_1274 : decode cL_law 1274 = .ok (.iaload, 1) := by decide +kernel
theorem dL_law_1275 : decode cL_law 1275 = .ok (.aload_n 0, 1) := by decide +kernel
theorem dL_law_1276 : decode cL_law 1276 = .ok (.iload_n 3, 1) := by decide +kernel
theorem dL_law_1277 : decode cL_law 1277 = .ok (.iconst 3, 1) := by decide +kernel
theorem dL_law_1278 : decode cL_law 1278 = .ok (.iadd, 1) := by decide +kernel
theorem dL_law_1279 : decode cL_law 1279 = .ok (.iaload, 1) := by decide +kernel
theorem dL_law_1280 : decode cL_law 1280 = .ok (.invokevirtual 164, 3) := by decide +kernel
theorem dL_law_1283 : decode cL_law 1283 = .ok (.if_icmp .eq 137, 3) := by decide +kernel
theorem dL_law_1286 : decode cL_law 1286 = .ok (.iconst 0, 1) := by decide +kernel
theorem dL_law_1287 : decode cL_law 1287 = .ok (.ireturn, 1) := by decide +kernel
theorem dL_law_1288 : decode cL_law 1288 = .ok (.aload_n 1, 1) := by decide +kernel
theorem dL_law_1289 : decode cL_law 1289 = .ok (.aload_n 0, 1) := by decide +kernel
theorem dL_law_1290 : decode cL_law 1290 = .ok (.iload_n 3, 1) := by decide +kernel
theorem dL_law_1291 : decode cL_law 1291 = .ok (.iconst 1, 1) := by decide +kernel
theorem dL_law_1292 : decode cL_law 1292 = .ok (.iadd, 1) := by decide +kernel
theorem dL_law_1293 : decode cL_law 1293 = .ok (.iaload, 1) := by decide +kernel
theorem dL_law_1294 : decode cL_law 1294 = .ok (.aload_n 0, 1) := by decide +kernel
theorem dL_law_1295 : decode cL_law 1295 = .ok (.iload_n 3, 1) := by decide +kernel
theorem dL_law_1296 : decode cL_law 1296 = .ok (.iconst 2, 1) := by decide +kernel
theorem dL_law_1297 : decode cL_law 1297 = .ok (.iadd, 1) := by decide +kernel
theorem dL_law_1298 : decode cL_law 1298 = .ok (.iaload, 1) := by decide +kernel
theorem dL_law_1299 : decode cL_law 1299 = .ok (.aload_n 0, 1) := by decide +kernel
theorem dL_law_1300 : decode cL_law 1300 = .ok (.iload_n 3, 1) := by decide +kernel
theorem dL_law_1301 : decode cL_law 1301 = .ok (.iconst 3, 1) := by decide +kernel
theorem dL_law_1302 : decode cL_law 1302 = .ok (.iadd, 1) := by decide +kernel
theorem dL_law_1303 : decode cL_law 1303 = .ok (.iaload, 1) := by decide +kernel
theorem dL_law_1304 : decode cL_law 1304 = .ok (.invokevirtual 165, 3) := by decide +kernel
theorem dL_law_1307 : decode cL_law 1307 = .ok (.aload_n 2, 1) := by decide +kernel
theorem dL_law_1308 : decode cL_law 1308 = .ok (.aload_n 0, 1) := by decide +kernel
theorem dL_law_1309 : decode cL_law 1309 = .ok (.iload_n 3, 1) := by decide +kernel
theorem dL_law_1310 : decode cL_law 1310 = .ok (.iconst 1, 1) := by decide +kernel
theorem dL_law_1311 : decode cL_law 1311 = .ok (.iadd, 1) := by decide +kernel
theorem dL_law_1312 : decode cL_law 1312 = .ok (.iaload, 1) := by decide +kernel
theorem dL_law_1313 : decode cL_law 1313 = .ok (.aload_n 0, 1) := by decide +kernel
theorem dL_law_1314 : decode cL_law 1314 = .ok (.iload_n 3, 1) := by decide +kernel
theorem dL_law_1315 : decode cL_law 1315 = .ok (.iconst 2, 1) := by decide +kernel
theorem dL_law_1316 : decode cL_law 1316 = .ok (.iadd, 1) := by decide +kernel
theorem dL_law_1317 : decode cL_law 1317 = .ok (.iaload, 1) := by decide +kernel
theorem dL_law_1318 : decode cL_law 1318 = .ok (.aload_n 0, 1) := by decide +kernel
theorem dL_law_1319 : decode cL_law 1319 = .ok (.iload_n 3, 1) := by decide +kernel
theorem dL_law_1320 : decode cL_law 1320 = .ok (.iconst 3, 1) := by decide +kernel
theorem dL_law_1321 : decode cL_law 1321 = .ok (.iadd, 1) := by decide +kernel
theorem dL_law_1322 : decode cL_law 1322 = .ok (.iaload, 1) := by decide +kernel
theorem dL_law_1323 : decode cL_law 1323 = .ok (.invokevirtual 168, 3) := by decide +kernel
theorem dL_law_1326 : decode cL_law 1326 = .ok (.if_icmp .eq 94, 3) := by decide +kernel
theorem dL_law_1329 : decode cL_law 1329 = .ok (.iconst 0, 1) := by decide +kernel
theorem dL_law_1330 : decode cL_law 1330 = .ok (.ireturn, 1) := by decide +kernel
theorem dL_law_1331 : decode cL_law 1331 = .ok (.aload_n 1, 1) := by decide +kernel
theorem dL_law_1332 : decode cL_law 1332 = .ok (.aload_n 0, 1) := by decide +kernel
theorem dL_law_1333 : decode cL_law 1333 = .ok (.iload_n 3, 1) := by decide +kernel
theorem dL_law_1334 : decode cL_law 1334 = .ok (.iconst 1, 1) := by decide +kernel
theorem dL_law_1335 : decode cL_law 1335 = .ok (.iadd, 1) := by decide +kernel
theorem dL_law_1336 : decode cL_law 1336 = .ok (.iaload, 1) := by decide +kernel
theorem dL_law_1337 : decode cL_law 1337 = .ok (.aload_n 0, 1) := by decide +kernel
theorem dL_law_1338 : decode cL_law 1338 = .ok (.iload_n 3, 1) := by decide +kernel
theorem dL_law_1339 : decode cL_law 1339 = .ok (.iconst 2, 1) := by decide +kernel
theorem dL_law_1340 : decode cL_law 1340 = .ok (.iadd, 1) := by decide +kernel
theorem dL_law_1341 : decode cL_law 1341 = .ok (.iaload, 1) := by decide +kernel
theorem dL_law_1342 : decode cL_law 1342 = .ok (.aload_n 0, 1) := by decide +kernel
theorem dL_law_1343 : decode cL_law 1343 = .ok (.iload_n 3, 1) := by decide +kernel
theorem dL_law_1344 : decode cL_law 1344 = .ok (.iconst 3, 1) := by decide +kernel
theorem dL_law_1345 : decode cL_law 1345 = .ok (.iadd, 1) := by decide +kernel
theorem dL_law_1346 : decode cL_law 1346 = .ok (.iaload, 1) := by decide +kernel
theorem dL_law_1347 : decode cL_law 1347 = .ok (.aload_n 0, 1) := by decide +kernel
theorem dL_law_1348 : decode cL_law 1348 = .ok (.iload_n 3, 1) := by decide +kernel
theorem dL_law_1349 : decode cL_law 1349 = .ok (.iconst 4, 1) := by decide +kernel
theorem dL_law_1350 : decode cL_law 1350 = .ok (.iadd, 1) := by decide +kernel
theorem dL_law_1351 : decode cL_law 1351 = .ok (.iaload, 1) := by decide +kernel
theorem dL_law_1352 : decode cL_law 1352 = .ok (.invokevirtual 169, 3) := by decide +kernel
theorem dL_law_1355 : decode cL_law 1355 = .ok (.aload_n 2, 1) := by decide +kernel
theorem dL_law_1356 : decode cL_law 1356 = .ok (.aload_n 0, 1) := by decide +kernel
theorem dL_law_1357 : decode cL_law 1357 = .ok (.iload_n 3, 1) := by decide +kernel
theorem dL_law_1358 : decode cL_law 1358 = .ok (.iconst 1, 1) := by decide +kernel
theorem dL_law_1359 : decode cL_law 1359 = .ok (.iadd, 1) := by decide +kernel
theorem dL_law_1360 : decode cL_law 1360 = .ok (.iaload, 1) := by decide +kernel
theorem dL_law_1361 : decode cL_law 1361 = .ok (.aload_n 0, 1) := by decide +kernel
theorem dL_law_1362 : decode cL_law 1362 = .ok (.iload_n 3, 1) := by decide +kernel
theorem dL_law_1363 : decode cL_law 1363 = .ok (.iconst 2, 1) := by decide +kernel
theorem dL_law_1364 : decode cL_law 1364 = .ok (.iadd, 1) := by decide +kernel
theorem dL_law_1365 : decode cL_law 1365 = .ok (.iaload, 1) := by decide +kernel
theorem dL_law_1366 : decode cL_law 1366 = .ok (.aload_n 0, 1) := by decide +kernel
theorem dL_law_1367 : decode cL_law 1367 = .ok (.iload_n 3, 1) := by decide +kernel
theorem dL_law_1368 : decode cL_law 1368 = .ok (.iconst 3, 1) := by decide +kernel
theorem dL_law_1369 : decode cL_law 1369 = .ok (.iadd, 1) := by decide +kernel
theorem dL_law_1370 : decode cL_law 1370 = .ok (.iaload, 1) := by decide +kernel
theorem dL_law_1371 : decode cL_law 1371 = .ok (.aload_n 0, 1) := by decide +kernel
theorem dL_law_1372 : decode cL_law 1372 = .ok (.iload_n 3, 1) := by decide +kernel
theorem dL_law_1373 : decode cL_law 1373 = .ok (.iconst 4, 1) := by decide +kernel
theorem dL_law_1374 : decode cL_law 1374 = .ok (.iadd, 1) := by decide +kernel
theorem dL_law_1375 : decode cL_law 1375 = .ok (.iaload, 1) := by decide +kernel
theorem dL_law_1376 : decode cL_law 1376 = .ok (.invokevirtual 173, 3) := by decide +kernel
theorem dL_law_1379 : decode cL_law 1379 = .ok (.if_icmp .eq 41, 3) := by decide +kernel
theorem dL_law_1382 : decode cL_law 1382 = .ok (.iconst 0, 1) := by decide +kernel
theorem dL_law_1383 : decode cL_law 1383 = .ok (.ireturn, 1) := by decide +kernel
theorem dL_law_1384 : decode cL_law 1384 = .ok (.aload_n 1, 1) := by decide +kernel
theorem dL_law_1385 : decode cL_law 1385 = .ok (.invokevirtual 174, 3) := by decide +kernel
theorem dL_law_1388 : decode cL_law 1388 = .ok (.aload_n 2, 1) := by decide +kernel
theorem dL_law_1389 : decode cL_law 1389 = .ok (.invokevirtual 177, 3) := by decide +kernel
theorem dL_law_1392 : decode cL_law 1392 = .ok (.if_icmp .eq 28, 3) := by decide +kernel
theorem dL_law_1395 : decode cL_law 1395 = .ok (.iconst 0, 1) := by decide +kernel
theorem dL_law_1396 : decode cL_law 1396 = .ok (.ireturn, 1) := by decide +kernel
theorem dL_law_1397 : decode cL_law 1397 = .ok (.aload_n 1, 1) := by decide +kernel
theorem dL_law_1398 : decode cL_law 1398 = .ok (.aload_n 0, 1) := by decide +kernel
theorem dL_law_1399 : decode cL_law 1399 = .ok (.iload_n 3, 1) := by decide +kernel
theorem dL_law_1400 : decode cL_law 1400 = .ok (.iconst 1, 1) := by decide +kernel
theorem dL_law_1401 : decode cL_law 1401 = .ok (.iadd, 1) := by decide +kernel
theorem dL_law_1402 : decode cL_law 1402 = .ok (.iaload, 1) := by decide +kernel
theorem dL_law_1403 : decode cL_law 1403 = .ok (.invokevirtual 178, 3) := by decide +kernel
theorem dL_law_1406 : decode cL_law 1406 = .ok (.aload_n 2, 1) := by decide +kernel
theorem dL_law_1407 : decode cL_law 1407 = .ok (.aload_n 0, 1) := by decide +kernel
theorem dL_law_1408 : decode cL_law 1408 = .ok (.iload_n 3, 1) := by decide +kernel
theorem dL_law_1409 : decode cL_law 1409 = .ok (.iconst 1, 1) := by decide +kernel
theorem dL_law_1410 : decode cL_law 1410 = .ok (.iadd, 1) := by decide +kernel
theorem dL_law_1411 : decode cL_law 1411 = .ok (.iaload, 1) := by decide +kernel
theorem dL_law_1412 : decode cL_law 1412 = .ok (.invokevirtual 181, 3) := by decide +kernel
theorem dL_law_1415 : decode cL_law 1415 = .ok (.if_icmp .eq 5, 3) := by decide +kernel
theorem dL_law_1418 : decode cL_law 1418 = .ok (.iconst 0, 1) := by decide +kernel
theorem dL_law_1419 : decode cL_law 1419 = .ok (.ireturn, 1) := by decide +kernel
theorem dL_law_1420 : decode cL_law 1420 = .ok (.iinc 3 5, 3) := by decide +kernel
theorem dL_law_1423 : decode cL_law 1423 = .ok (.goto (-1405), 3) := by decide +kernel
theorem dL_law_1426 : decode cL_law 1426 = .ok (.iconst 1, 1) := by decide +kernel
theorem dL_law_1427 : decode cL_law 1427 = .ok (.ireturn, 1) := by decide +kernel
end
