section
-- ===== PART A: goes FIRST, ahead of the names: the tables' words, and 'selects' of the private methods out of them =====
/-- a private method of a class that the tables say can be made, by its rows of tables_1 -/
def lw_okq (q : MethodName × Nat) : Prop := (q.1.cls ≠ "java/lang/invoke/MethodHandle" ∧ q.1.cls ≠ "java/lang/invoke/VarHandle") ∧ Cond.instantiable q.1.cls q.2 ∈ tables_1 ∧ Cond.privateMethod q.1 ∈ tables_1 ∧ Cond.instanceMethod q.1 ∈ tables_1
theorem lw_p0 : lw_okq (⟨"TallerWitness$LawReader", "readClause", "()V"⟩, 5) := ⟨⟨by decide +kernel, by decide +kernel⟩, List.mem_of_getElem? (i := 178) (by decide +kernel), List.mem_of_getElem? (i := 400) (by decide +kernel), List.mem_of_getElem? (i := 401) (by decide +kernel)⟩
theorem lw_p1 : lw_okq (⟨"TallerWitness$LawReader", "isNext", "(Ljava/lang/String;)Z"⟩, 5) := ⟨⟨by decide +kernel, by decide +kernel⟩, List.mem_of_getElem? (i := 178) (by decide +kernel), List.mem_of_getElem? (i := 405) (by decide +kernel), List.mem_of_getElem? (i := 406) (by decide +kernel)⟩
theorem lw_p2 : lw_okq (⟨"TallerWitness$LawReader", "fail", "(I)V"⟩, 5) := ⟨⟨by decide +kernel, by decide +kernel⟩, List.mem_of_getElem? (i := 178) (by decide +kernel), List.mem_of_getElem? (i := 484) (by decide +kernel), List.mem_of_getElem? (i := 485) (by decide +kernel)⟩
theorem lw_p3 : lw_okq (⟨"TallerWitness$LawReader", "sign", "()I"⟩, 5) := ⟨⟨by decide +kernel, by decide +kernel⟩, List.mem_of_getElem? (i := 178) (by decide +kernel), List.mem_of_getElem? (i := 489) (by decide +kernel), List.mem_of_getElem? (i := 490) (by decide +kernel)⟩
theorem lw_p4 : lw_okq (⟨"TallerWitness$LawReader", "readSum", "(I)V"⟩, 5) := ⟨⟨by decide +kernel, by decide +kernel⟩, List.mem_of_getElem? (i := 178) (by decide +kernel), List.mem_of_getElem? (i := 497) (by decide +kernel), List.mem_of_getElem? (i := 498) (by decide +kernel)⟩
theorem lw_p5 : lw_okq (⟨"TallerWitness$LawReader", "readTerm", "(I)V"⟩, 5) := ⟨⟨by decide +kernel, by decide +kernel⟩, List.mem_of_getElem? (i := 178) (by decide +kernel), List.mem_of_getElem? (i := 501) (by decide +kernel), List.mem_of_getElem? (i := 502) (by decide +kernel)⟩
theorem lw_p6 : lw_okq (⟨"TallerWitness$LawReader", "readFactor", "(I)V"⟩, 5) := ⟨⟨by decide +kernel, by decide +kernel⟩, List.mem_of_getElem? (i := 178) (by decide +kernel), List.mem_of_getElem? (i := 505) (by decide +kernel), List.mem_of_getElem? (i := 506) (by decide +kernel)⟩
theorem lw_p7 : lw_okq (⟨"TallerWitness$LawReader", "opens", "(I)V"⟩, 5) := ⟨⟨by decide +kernel, by decide +kernel⟩, List.mem_of_getElem? (i := 178) (by decide +kernel), List.mem_of_getElem? (i := 510) (by decide +kernel), List.mem_of_getElem? (i := 511) (by decide +kernel)⟩
theorem lw_p8 : lw_okq (⟨"TallerWitness$LawReader", "pass", "(I)V"⟩, 5) := ⟨⟨by decide +kernel, by decide +kernel⟩, List.mem_of_getElem? (i := 178) (by decide +kernel), List.mem_of_getElem? (i := 514) (by decide +kernel), List.mem_of_getElem? (i := 515) (by decide +kernel)⟩
theorem lw_p9 : lw_okq (⟨"TallerWitness$LawReader", "readNumber", "()V"⟩, 5) := ⟨⟨by decide +kernel, by decide +kernel⟩, List.mem_of_getElem? (i := 178) (by decide +kernel), List.mem_of_getElem? (i := 519) (by decide +kernel), List.mem_of_getElem? (i := 520) (by decide +kernel)⟩
theorem lw_p10 : lw_okq (⟨"TallerWitness$LawReader", "readChoice", "(I)V"⟩, 5) := ⟨⟨by decide +kernel, by decide +kernel⟩, List.mem_of_getElem? (i := 178) (by decide +kernel), List.mem_of_getElem? (i := 534) (by decide +kernel), List.mem_of_getElem? (i := 535) (by decide +kernel)⟩
theorem lw_p11 : lw_okq (⟨"TallerWitness$LawReader", "readPart", "(I)V"⟩, 5) := ⟨⟨by decide +kernel, by decide +kernel⟩, List.mem_of_getElem? (i := 178) (by decide +kernel), List.mem_of_getElem? (i := 538) (by decide +kernel), List.mem_of_getElem? (i := 539) (by decide +kernel)⟩
theorem lw_p12 : lw_okq (⟨"TallerWitness$LawReader", "readPiece", "(I)V"⟩, 5) := ⟨⟨by decide +kernel, by decide +kernel⟩, List.mem_of_getElem? (i := 178) (by decide +kernel), List.mem_of_getElem? (i := 542) (by decide +kernel), List.mem_of_getElem? (i := 543) (by decide +kernel)⟩
theorem lw_p13 : lw_okq (⟨"TallerWitness$LawReader", "readComparison", "(I)V"⟩, 5) := ⟨⟨by decide +kernel, by decide +kernel⟩, List.mem_of_getElem? (i := 178) (by decide +kernel), List.mem_of_getElem? (i := 548) (by decide +kernel), List.mem_of_getElem? (i := 549) (by decide +kernel)⟩
theorem lw_p14 : lw_okq (⟨"TallerWitness$Steps", "orderUpward", "()V"⟩, 9) := ⟨⟨by decide +kernel, by decide +kernel⟩, List.mem_of_getElem? (i := 200) (by decide +kernel), List.mem_of_getElem? (i := 601) (by decide +kernel), List.mem_of_getElem? (i := 602) (by decide +kernel)⟩
theorem lw_p15 : lw_okq (⟨"TallerWitness$Steps", "isLet", "(II)Z"⟩, 9) := ⟨⟨by decide +kernel, by decide +kernel⟩, List.mem_of_getElem? (i := 200) (by decide +kernel), List.mem_of_getElem? (i := 607) (by decide +kernel), List.mem_of_getElem? (i := 608) (by decide +kernel)⟩
def lw_privs_1 : List (MethodName × Nat) := [(⟨"TallerWitness$LawReader", "readClause", "()V"⟩, 5), (⟨"TallerWitness$LawReader", "isNext", "(Ljava/lang/String;)Z"⟩, 5), (⟨"TallerWitness$LawReader", "fail", "(I)V"⟩, 5), (⟨"TallerWitness$LawReader", "sign", "()I"⟩, 5), (⟨"TallerWitness$LawReader", "readSum", "(I)V"⟩, 5), (⟨"TallerWitness$LawReader", "readTerm", "(I)V"⟩, 5), (⟨"TallerWitness$LawReader", "readFactor", "(I)V"⟩, 5), (⟨"TallerWitness$LawReader", "opens", "(I)V"⟩, 5), (⟨"TallerWitness$LawReader", "pass", "(I)V"⟩, 5), (⟨"TallerWitness$LawReader", "readNumber", "()V"⟩, 5), (⟨"TallerWitness$LawReader", "readChoice", "(I)V"⟩, 5), (⟨"TallerWitness$LawReader", "readPart", "(I)V"⟩, 5), (⟨"TallerWitness$LawReader", "readPiece", "(I)V"⟩, 5), (⟨"TallerWitness$LawReader", "readComparison", "(I)V"⟩, 5), (⟨"TallerWitness$Steps", "orderUpward", "()V"⟩, 9), (⟨"TallerWitness$Steps", "isLet", "(II)Z"⟩, 9)]
theorem lw_r1 : ∀ q ∈ lw_privs_1, lw_okq q := List.forall_mem_cons.mpr ⟨lw_p0, List.forall_mem_cons.mpr ⟨lw_p1, List.forall_mem_cons.mpr ⟨lw_p2, List.forall_mem_cons.mpr ⟨lw_p3, List.forall_mem_cons.mpr ⟨lw_p4, List.forall_mem_cons.mpr ⟨lw_p5, List.forall_mem_cons.mpr ⟨lw_p6, List.forall_mem_cons.mpr ⟨lw_p7, List.forall_mem_cons.mpr ⟨lw_p8, List.forall_mem_cons.mpr ⟨lw_p9, List.forall_mem_cons.mpr ⟨lw_p10, List.forall_mem_cons.mpr ⟨lw_p11, List.forall_mem_cons.mpr ⟨lw_p12, List.forall_mem_cons.mpr ⟨lw_p13, List.forall_mem_cons.mpr ⟨lw_p14, List.forall_mem_cons.mpr ⟨lw_p15, fun _ h => absurd h List.not_mem_nil⟩⟩⟩⟩⟩⟩⟩⟩⟩⟩⟩⟩⟩⟩⟩⟩
theorem lw_p16 : lw_okq (⟨"TallerWitness$Law", "worth", "(II[I)I"⟩, 9) := ⟨⟨by decide +kernel, by decide +kernel⟩, List.mem_of_getElem? (i := 142) (by decide +kernel), List.mem_of_getElem? (i := 624) (by decide +kernel), List.mem_of_getElem? (i := 625) (by decide +kernel)⟩
theorem lw_p17 : lw_okq (⟨"TallerWitness$Valley", "growOlder", "()V"⟩, 14) := ⟨⟨by decide +kernel, by decide +kernel⟩, List.mem_of_getElem? (i := 29) (by decide +kernel), List.mem_of_getElem? (i := 702) (by decide +kernel), List.mem_of_getElem? (i := 703) (by decide +kernel)⟩
theorem lw_p18 : lw_okq (⟨"TallerWitness$Valley", "growTaller", "(LTallerWitness$Law;)V"⟩, 14) := ⟨⟨by decide +kernel, by decide +kernel⟩, List.mem_of_getElem? (i := 29) (by decide +kernel), List.mem_of_getElem? (i := 707) (by decide +kernel), List.mem_of_getElem? (i := 708) (by decide +kernel)⟩
theorem lw_p19 : lw_okq (⟨"TallerWitness$Valley", "whoDies", "(LTallerWitness$Law;)I"⟩, 14) := ⟨⟨by decide +kernel, by decide +kernel⟩, List.mem_of_getElem? (i := 29) (by decide +kernel), List.mem_of_getElem? (i := 713) (by decide +kernel), List.mem_of_getElem? (i := 714) (by decide +kernel)⟩
theorem lw_p20 : lw_okq (⟨"TallerWitness", "runYears", "(LTallerWitness$Valley;I)I"⟩, 14) := ⟨⟨by decide +kernel, by decide +kernel⟩, List.mem_of_getElem? (i := 21) (by decide +kernel), List.mem_of_getElem? (i := 728) (by decide +kernel), List.mem_of_getElem? (i := 729) (by decide +kernel)⟩
theorem lw_p21 : lw_okq (⟨"TallerWitness", "heldBy", "(LTallerWitness$Valley;LTallerWitness$Law;)I"⟩, 14) := ⟨⟨by decide +kernel, by decide +kernel⟩, List.mem_of_getElem? (i := 21) (by decide +kernel), List.mem_of_getElem? (i := 746) (by decide +kernel), List.mem_of_getElem? (i := 747) (by decide +kernel)⟩
theorem lw_p22 : lw_okq (⟨"TallerWitness$Steps", "withHelpers", "(II)I"⟩, 9) := ⟨⟨by decide +kernel, by decide +kernel⟩, List.mem_of_getElem? (i := 200) (by decide +kernel), List.mem_of_getElem? (i := 754) (by decide +kernel), List.mem_of_getElem? (i := 755) (by decide +kernel)⟩
theorem lw_p23 : lw_okq (⟨"TallerWitness$ChainSearch", "chooseNext", "(II)V"⟩, 5) := ⟨⟨by decide +kernel, by decide +kernel⟩, List.mem_of_getElem? (i := 241) (by decide +kernel), List.mem_of_getElem? (i := 768) (by decide +kernel), List.mem_of_getElem? (i := 769) (by decide +kernel)⟩
theorem lw_p24 : lw_okq (⟨"TallerWitness$SafeSearch", "whoCouldSwear", "(I)I"⟩, 5) := ⟨⟨by decide +kernel, by decide +kernel⟩, List.mem_of_getElem? (i := 263) (by decide +kernel), List.mem_of_getElem? (i := 795) (by decide +kernel), List.mem_of_getElem? (i := 796) (by decide +kernel)⟩
theorem lw_p25 : lw_okq (⟨"TallerWitness$SafeSearch", "priceOfAll", "(II)I"⟩, 5) := ⟨⟨by decide +kernel, by decide +kernel⟩, List.mem_of_getElem? (i := 263) (by decide +kernel), List.mem_of_getElem? (i := 801) (by decide +kernel), List.mem_of_getElem? (i := 802) (by decide +kernel)⟩
theorem lw_p26 : lw_okq (⟨"TallerWitness$SafeSearch", "isBetter", "(II)Z"⟩, 5) := ⟨⟨by decide +kernel, by decide +kernel⟩, List.mem_of_getElem? (i := 263) (by decide +kernel), List.mem_of_getElem? (i := 806) (by decide +kernel), List.mem_of_getElem? (i := 807) (by decide +kernel)⟩
theorem lw_p27 : lw_okq (⟨"TallerWitness$Contest", "play", "(IIII)I"⟩, 3) := ⟨⟨by decide +kernel, by decide +kernel⟩, List.mem_of_getElem? (i := 287) (by decide +kernel), List.mem_of_getElem? (i := 835) (by decide +kernel), List.mem_of_getElem? (i := 836) (by decide +kernel)⟩
theorem lw_p28 : lw_okq (⟨"TallerWitness$Contest", "standing", "(II)I"⟩, 3) := ⟨⟨by decide +kernel, by decide +kernel⟩, List.mem_of_getElem? (i := 287) (by decide +kernel), List.mem_of_getElem? (i := 839) (by decide +kernel), List.mem_of_getElem? (i := 840) (by decide +kernel)⟩
theorem lw_p29 : lw_okq (⟨"TallerWitness", "explainsAll", "(I)Z"⟩, 14) := ⟨⟨by decide +kernel, by decide +kernel⟩, List.mem_of_getElem? (i := 21) (by decide +kernel), List.mem_of_getElem? (i := 863) (by decide +kernel), List.mem_of_getElem? (i := 864) (by decide +kernel)⟩
theorem lw_p30 : lw_okq (⟨"TallerWitness", "countWhole", "(I)I"⟩, 14) := ⟨⟨by decide +kernel, by decide +kernel⟩, List.mem_of_getElem? (i := 21) (by decide +kernel), List.mem_of_getElem? (i := 895) (by decide +kernel), List.mem_of_getElem? (i := 896) (by decide +kernel)⟩
theorem lw_p31 : lw_okq (⟨"TallerWitnessModel", "lives", "(I)Z"⟩, 66) := ⟨⟨by decide +kernel, by decide +kernel⟩, List.mem_of_getElem? (i := 899) (by decide +kernel), List.mem_of_getElem? (i := 1115) (by decide +kernel), List.mem_of_getElem? (i := 1116) (by decide +kernel)⟩
def lw_privs_2 : List (MethodName × Nat) := [(⟨"TallerWitness$Law", "worth", "(II[I)I"⟩, 9), (⟨"TallerWitness$Valley", "growOlder", "()V"⟩, 14), (⟨"TallerWitness$Valley", "growTaller", "(LTallerWitness$Law;)V"⟩, 14), (⟨"TallerWitness$Valley", "whoDies", "(LTallerWitness$Law;)I"⟩, 14), (⟨"TallerWitness", "runYears", "(LTallerWitness$Valley;I)I"⟩, 14), (⟨"TallerWitness", "heldBy", "(LTallerWitness$Valley;LTallerWitness$Law;)I"⟩, 14), (⟨"TallerWitness$Steps", "withHelpers", "(II)I"⟩, 9), (⟨"TallerWitness$ChainSearch", "chooseNext", "(II)V"⟩, 5), (⟨"TallerWitness$SafeSearch", "whoCouldSwear", "(I)I"⟩, 5), (⟨"TallerWitness$SafeSearch", "priceOfAll", "(II)I"⟩, 5), (⟨"TallerWitness$SafeSearch", "isBetter", "(II)Z"⟩, 5), (⟨"TallerWitness$Contest", "play", "(IIII)I"⟩, 3), (⟨"TallerWitness$Contest", "standing", "(II)I"⟩, 3), (⟨"TallerWitness", "explainsAll", "(I)Z"⟩, 14), (⟨"TallerWitness", "countWhole", "(I)I"⟩, 14), (⟨"TallerWitnessModel", "lives", "(I)Z"⟩, 66)]
theorem lw_r2 : ∀ q ∈ lw_privs_2, lw_okq q := List.forall_mem_cons.mpr ⟨lw_p16, List.forall_mem_cons.mpr ⟨lw_p17, List.forall_mem_cons.mpr ⟨lw_p18, List.forall_mem_cons.mpr ⟨lw_p19, List.forall_mem_cons.mpr ⟨lw_p20, List.forall_mem_cons.mpr ⟨lw_p21, List.forall_mem_cons.mpr ⟨lw_p22, List.forall_mem_cons.mpr ⟨lw_p23, List.forall_mem_cons.mpr ⟨lw_p24, List.forall_mem_cons.mpr ⟨lw_p25, List.forall_mem_cons.mpr ⟨lw_p26, List.forall_mem_cons.mpr ⟨lw_p27, List.forall_mem_cons.mpr ⟨lw_p28, List.forall_mem_cons.mpr ⟨lw_p29, List.forall_mem_cons.mpr ⟨lw_p30, List.forall_mem_cons.mpr ⟨lw_p31, fun _ h => absurd h List.not_mem_nil⟩⟩⟩⟩⟩⟩⟩⟩⟩⟩⟩⟩⟩⟩⟩⟩
theorem lw_p32 : lw_okq (⟨"TallerWitnessModel", "isPerson", "(I)Z"⟩, 66) := ⟨⟨by decide +kernel, by decide +kernel⟩, List.mem_of_getElem? (i := 899) (by decide +kernel), List.mem_of_getElem? (i := 1119) (by decide +kernel), List.mem_of_getElem? (i := 1120) (by decide +kernel)⟩
theorem lw_p33 : lw_okq (⟨"TallerWitnessModel", "tallOf", "(I)I"⟩, 66) := ⟨⟨by decide +kernel, by decide +kernel⟩, List.mem_of_getElem? (i := 899) (by decide +kernel), List.mem_of_getElem? (i := 1134) (by decide +kernel), List.mem_of_getElem? (i := 1135) (by decide +kernel)⟩
theorem lw_p34 : lw_okq (⟨"TallerWitnessModel", "topOf", "()I"⟩, 66) := ⟨⟨by decide +kernel, by decide +kernel⟩, List.mem_of_getElem? (i := 899) (by decide +kernel), List.mem_of_getElem? (i := 1142) (by decide +kernel), List.mem_of_getElem? (i := 1143) (by decide +kernel)⟩
theorem lw_p35 : lw_okq (⟨"TallerWitnessModel", "types", "(I)V"⟩, 66) := ⟨⟨by decide +kernel, by decide +kernel⟩, List.mem_of_getElem? (i := 899) (by decide +kernel), List.mem_of_getElem? (i := 1150) (by decide +kernel), List.mem_of_getElem? (i := 1151) (by decide +kernel)⟩
theorem lw_p36 : lw_okq (⟨"TallerWitnessModel", "readsClause", "()Z"⟩, 66) := ⟨⟨by decide +kernel, by decide +kernel⟩, List.mem_of_getElem? (i := 899) (by decide +kernel), List.mem_of_getElem? (i := 1158) (by decide +kernel), List.mem_of_getElem? (i := 1159) (by decide +kernel)⟩
theorem lw_p37 : lw_okq (⟨"TallerWitnessModel", "here", "()I"⟩, 66) := ⟨⟨by decide +kernel, by decide +kernel⟩, List.mem_of_getElem? (i := 899) (by decide +kernel), List.mem_of_getElem? (i := 1162) (by decide +kernel), List.mem_of_getElem? (i := 1163) (by decide +kernel)⟩
theorem lw_p38 : lw_okq (⟨"TallerWitnessModel", "wrongAt", "(II)Z"⟩, 66) := ⟨⟨by decide +kernel, by decide +kernel⟩, List.mem_of_getElem? (i := 899) (by decide +kernel), List.mem_of_getElem? (i := 1166) (by decide +kernel), List.mem_of_getElem? (i := 1167) (by decide +kernel)⟩
theorem lw_p39 : lw_okq (⟨"TallerWitnessModel", "readsSum", "()Z"⟩, 66) := ⟨⟨by decide +kernel, by decide +kernel⟩, List.mem_of_getElem? (i := 899) (by decide +kernel), List.mem_of_getElem? (i := 1170) (by decide +kernel), List.mem_of_getElem? (i := 1171) (by decide +kernel)⟩
theorem lw_p40 : lw_okq (⟨"TallerWitnessModel", "readsFactor", "()Z"⟩, 66) := ⟨⟨by decide +kernel, by decide +kernel⟩, List.mem_of_getElem? (i := 899) (by decide +kernel), List.mem_of_getElem? (i := 1174) (by decide +kernel), List.mem_of_getElem? (i := 1175) (by decide +kernel)⟩
theorem lw_p41 : lw_okq (⟨"TallerWitnessModel", "opens", "(I)Z"⟩, 66) := ⟨⟨by decide +kernel, by decide +kernel⟩, List.mem_of_getElem? (i := 899) (by decide +kernel), List.mem_of_getElem? (i := 1178) (by decide +kernel), List.mem_of_getElem? (i := 1179) (by decide +kernel)⟩
theorem lw_p42 : lw_okq (⟨"TallerWitnessModel", "isDigit", "()Z"⟩, 66) := ⟨⟨by decide +kernel, by decide +kernel⟩, List.mem_of_getElem? (i := 899) (by decide +kernel), List.mem_of_getElem? (i := 1183) (by decide +kernel), List.mem_of_getElem? (i := 1184) (by decide +kernel)⟩
theorem lw_p43 : lw_okq (⟨"TallerWitnessModel", "readsNumber", "()Z"⟩, 66) := ⟨⟨by decide +kernel, by decide +kernel⟩, List.mem_of_getElem? (i := 899) (by decide +kernel), List.mem_of_getElem? (i := 1187) (by decide +kernel), List.mem_of_getElem? (i := 1188) (by decide +kernel)⟩
theorem lw_p44 : lw_okq (⟨"TallerWitnessModel", "notes", "(II)V"⟩, 66) := ⟨⟨by decide +kernel, by decide +kernel⟩, List.mem_of_getElem? (i := 899) (by decide +kernel), List.mem_of_getElem? (i := 1191) (by decide +kernel), List.mem_of_getElem? (i := 1192) (by decide +kernel)⟩
theorem lw_p45 : lw_okq (⟨"TallerWitnessModel", "closesSums", "(Z)V"⟩, 66) := ⟨⟨by decide +kernel, by decide +kernel⟩, List.mem_of_getElem? (i := 899) (by decide +kernel), List.mem_of_getElem? (i := 1201) (by decide +kernel), List.mem_of_getElem? (i := 1202) (by decide +kernel)⟩
theorem lw_p46 : lw_okq (⟨"TallerWitnessModel", "waitTop", "()I"⟩, 66) := ⟨⟨by decide +kernel, by decide +kernel⟩, List.mem_of_getElem? (i := 899) (by decide +kernel), List.mem_of_getElem? (i := 1205) (by decide +kernel), List.mem_of_getElem? (i := 1206) (by decide +kernel)⟩
theorem lw_p47 : lw_okq (⟨"TallerWitnessModel", "hasOpenSum", "(I)Z"⟩, 66) := ⟨⟨by decide +kernel, by decide +kernel⟩, List.mem_of_getElem? (i := 899) (by decide +kernel), List.mem_of_getElem? (i := 1209) (by decide +kernel), List.mem_of_getElem? (i := 1210) (by decide +kernel)⟩
def lw_privs_3 : List (MethodName × Nat) := [(⟨"TallerWitnessModel", "isPerson", "(I)Z"⟩, 66), (⟨"TallerWitnessModel", "tallOf", "(I)I"⟩, 66), (⟨"TallerWitnessModel", "topOf", "()I"⟩, 66), (⟨"TallerWitnessModel", "types", "(I)V"⟩, 66), (⟨"TallerWitnessModel", "readsClause", "()Z"⟩, 66), (⟨"TallerWitnessModel", "here", "()I"⟩, 66), (⟨"TallerWitnessModel", "wrongAt", "(II)Z"⟩, 66), (⟨"TallerWitnessModel", "readsSum", "()Z"⟩, 66), (⟨"TallerWitnessModel", "readsFactor", "()Z"⟩, 66), (⟨"TallerWitnessModel", "opens", "(I)Z"⟩, 66), (⟨"TallerWitnessModel", "isDigit", "()Z"⟩, 66), (⟨"TallerWitnessModel", "readsNumber", "()Z"⟩, 66), (⟨"TallerWitnessModel", "notes", "(II)V"⟩, 66), (⟨"TallerWitnessModel", "closesSums", "(Z)V"⟩, 66), (⟨"TallerWitnessModel", "waitTop", "()I"⟩, 66), (⟨"TallerWitnessModel", "hasOpenSum", "(I)Z"⟩, 66)]
theorem lw_r3 : ∀ q ∈ lw_privs_3, lw_okq q := List.forall_mem_cons.mpr ⟨lw_p32, List.forall_mem_cons.mpr ⟨lw_p33, List.forall_mem_cons.mpr ⟨lw_p34, List.forall_mem_cons.mpr ⟨lw_p35, List.forall_mem_cons.mpr ⟨lw_p36, List.forall_mem_cons.mpr ⟨lw_p37, List.forall_mem_cons.mpr ⟨lw_p38, List.forall_mem_cons.mpr ⟨lw_p39, List.forall_mem_cons.mpr ⟨lw_p40, List.forall_mem_cons.mpr ⟨lw_p41, List.forall_mem_cons.mpr ⟨lw_p42, List.forall_mem_cons.mpr ⟨lw_p43, List.forall_mem_cons.mpr ⟨lw_p44, List.forall_mem_cons.mpr ⟨lw_p45, List.forall_mem_cons.mpr ⟨lw_p46, List.forall_mem_cons.mpr ⟨lw_p47, fun _ h => absurd h List.not_mem_nil⟩⟩⟩⟩⟩⟩⟩⟩⟩⟩⟩⟩⟩⟩⟩⟩
theorem lw_p48 : lw_okq (⟨"TallerWitnessModel", "readsCondition", "()Z"⟩, 66) := ⟨⟨by decide +kernel, by decide +kernel⟩, List.mem_of_getElem? (i := 899) (by decide +kernel), List.mem_of_getElem? (i := 1213) (by decide +kernel), List.mem_of_getElem? (i := 1214) (by decide +kernel)⟩
theorem lw_p49 : lw_okq (⟨"TallerWitnessModel", "readsCompared", "()Z"⟩, 66) := ⟨⟨by decide +kernel, by decide +kernel⟩, List.mem_of_getElem? (i := 899) (by decide +kernel), List.mem_of_getElem? (i := 1217) (by decide +kernel), List.mem_of_getElem? (i := 1218) (by decide +kernel)⟩
theorem lw_p50 : lw_okq (⟨"TallerWitnessModel", "endsPiece", "()V"⟩, 66) := ⟨⟨by decide +kernel, by decide +kernel⟩, List.mem_of_getElem? (i := 899) (by decide +kernel), List.mem_of_getElem? (i := 1221) (by decide +kernel), List.mem_of_getElem? (i := 1222) (by decide +kernel)⟩
theorem lw_p51 : lw_okq (⟨"TallerWitnessModel", "lands", "(Z)V"⟩, 66) := ⟨⟨by decide +kernel, by decide +kernel⟩, List.mem_of_getElem? (i := 899) (by decide +kernel), List.mem_of_getElem? (i := 1225) (by decide +kernel), List.mem_of_getElem? (i := 1226) (by decide +kernel)⟩
theorem lw_p52 : lw_okq (⟨"TallerWitnessModel", "jumps", "(I)V"⟩, 66) := ⟨⟨by decide +kernel, by decide +kernel⟩, List.mem_of_getElem? (i := 899) (by decide +kernel), List.mem_of_getElem? (i := 1229) (by decide +kernel), List.mem_of_getElem? (i := 1230) (by decide +kernel)⟩
theorem lw_p53 : lw_okq (⟨"TallerWitnessModel", "takes", "(I)Z"⟩, 66) := ⟨⟨by decide +kernel, by decide +kernel⟩, List.mem_of_getElem? (i := 899) (by decide +kernel), List.mem_of_getElem? (i := 1233) (by decide +kernel), List.mem_of_getElem? (i := 1234) (by decide +kernel)⟩
theorem lw_p54 : lw_okq (⟨"TallerWitnessModel", "stepBy", "(III)I"⟩, 66) := ⟨⟨by decide +kernel, by decide +kernel⟩, List.mem_of_getElem? (i := 899) (by decide +kernel), List.mem_of_getElem? (i := 1241) (by decide +kernel), List.mem_of_getElem? (i := 1242) (by decide +kernel)⟩
theorem lw_p55 : lw_okq (⟨"TallerWitnessModel", "feels", "(I)V"⟩, 66) := ⟨⟨by decide +kernel, by decide +kernel⟩, List.mem_of_getElem? (i := 899) (by decide +kernel), List.mem_of_getElem? (i := 1246) (by decide +kernel), List.mem_of_getElem? (i := 1247) (by decide +kernel)⟩
theorem lw_p56 : lw_okq (⟨"TallerWitnessModel", "anyBy", "(II)Z"⟩, 66) := ⟨⟨by decide +kernel, by decide +kernel⟩, List.mem_of_getElem? (i := 899) (by decide +kernel), List.mem_of_getElem? (i := 1250) (by decide +kernel), List.mem_of_getElem? (i := 1251) (by decide +kernel)⟩
theorem lw_p57 : lw_okq (⟨"TallerWitnessModel", "comesTo", "(II)I"⟩, 66) := ⟨⟨by decide +kernel, by decide +kernel⟩, List.mem_of_getElem? (i := 899) (by decide +kernel), List.mem_of_getElem? (i := 1254) (by decide +kernel), List.mem_of_getElem? (i := 1255) (by decide +kernel)⟩
theorem lw_p58 : lw_okq (⟨"TallerWitnessModel", "byLaw", "(III)I"⟩, 66) := ⟨⟨by decide +kernel, by decide +kernel⟩, List.mem_of_getElem? (i := 899) (by decide +kernel), List.mem_of_getElem? (i := 1261) (by decide +kernel), List.mem_of_getElem? (i := 1262) (by decide +kernel)⟩
theorem lw_p59 : lw_okq (⟨"TallerWitnessModel", "isOath", "(I)Z"⟩, 66) := ⟨⟨by decide +kernel, by decide +kernel⟩, List.mem_of_getElem? (i := 899) (by decide +kernel), List.mem_of_getElem? (i := 1273) (by decide +kernel), List.mem_of_getElem? (i := 1274) (by decide +kernel)⟩
theorem lw_p60 : lw_okq (⟨"TallerWitnessModel", "laysSteps", "(I)V"⟩, 66) := ⟨⟨by decide +kernel, by decide +kernel⟩, List.mem_of_getElem? (i := 899) (by decide +kernel), List.mem_of_getElem? (i := 1277) (by decide +kernel), List.mem_of_getElem? (i := 1278) (by decide +kernel)⟩
theorem lw_p61 : lw_okq (⟨"TallerWitnessModel", "leastBy", "(II)I"⟩, 66) := ⟨⟨by decide +kernel, by decide +kernel⟩, List.mem_of_getElem? (i := 899) (by decide +kernel), List.mem_of_getElem? (i := 1281) (by decide +kernel), List.mem_of_getElem? (i := 1282) (by decide +kernel)⟩
theorem lw_p62 : lw_okq (⟨"TallerWitnessModel", "holdsNow", "(I)Z"⟩, 66) := ⟨⟨by decide +kernel, by decide +kernel⟩, List.mem_of_getElem? (i := 899) (by decide +kernel), List.mem_of_getElem? (i := 1292) (by decide +kernel), List.mem_of_getElem? (i := 1293) (by decide +kernel)⟩
theorem lw_p63 : lw_okq (⟨"TallerWitnessModel", "holdsBy", "(II)Z"⟩, 66) := ⟨⟨by decide +kernel, by decide +kernel⟩, List.mem_of_getElem? (i := 899) (by decide +kernel), List.mem_of_getElem? (i := 1296) (by decide +kernel), List.mem_of_getElem? (i := 1297) (by decide +kernel)⟩
def lw_privs_4 : List (MethodName × Nat) := [(⟨"TallerWitnessModel", "readsCondition", "()Z"⟩, 66), (⟨"TallerWitnessModel", "readsCompared", "()Z"⟩, 66), (⟨"TallerWitnessModel", "endsPiece", "()V"⟩, 66), (⟨"TallerWitnessModel", "lands", "(Z)V"⟩, 66), (⟨"TallerWitnessModel", "jumps", "(I)V"⟩, 66), (⟨"TallerWitnessModel", "takes", "(I)Z"⟩, 66), (⟨"TallerWitnessModel", "stepBy", "(III)I"⟩, 66), (⟨"TallerWitnessModel", "feels", "(I)V"⟩, 66), (⟨"TallerWitnessModel", "anyBy", "(II)Z"⟩, 66), (⟨"TallerWitnessModel", "comesTo", "(II)I"⟩, 66), (⟨"TallerWitnessModel", "byLaw", "(III)I"⟩, 66), (⟨"TallerWitnessModel", "isOath", "(I)Z"⟩, 66), (⟨"TallerWitnessModel", "laysSteps", "(I)V"⟩, 66), (⟨"TallerWitnessModel", "leastBy", "(II)I"⟩, 66), (⟨"TallerWitnessModel", "holdsNow", "(I)Z"⟩, 66), (⟨"TallerWitnessModel", "holdsBy", "(II)Z"⟩, 66)]
theorem lw_r4 : ∀ q ∈ lw_privs_4, lw_okq q := List.forall_mem_cons.mpr ⟨lw_p48, List.forall_mem_cons.mpr ⟨lw_p49, List.forall_mem_cons.mpr ⟨lw_p50, List.forall_mem_cons.mpr ⟨lw_p51, List.forall_mem_cons.mpr ⟨lw_p52, List.forall_mem_cons.mpr ⟨lw_p53, List.forall_mem_cons.mpr ⟨lw_p54, List.forall_mem_cons.mpr ⟨lw_p55, List.forall_mem_cons.mpr ⟨lw_p56, List.forall_mem_cons.mpr ⟨lw_p57, List.forall_mem_cons.mpr ⟨lw_p58, List.forall_mem_cons.mpr ⟨lw_p59, List.forall_mem_cons.mpr ⟨lw_p60, List.forall_mem_cons.mpr ⟨lw_p61, List.forall_mem_cons.mpr ⟨lw_p62, List.forall_mem_cons.mpr ⟨lw_p63, fun _ h => absurd h List.not_mem_nil⟩⟩⟩⟩⟩⟩⟩⟩⟩⟩⟩⟩⟩⟩⟩⟩
theorem lw_p64 : lw_okq (⟨"TallerWitnessModel", "reach", "(II)I"⟩, 66) := ⟨⟨by decide +kernel, by decide +kernel⟩, List.mem_of_getElem? (i := 899) (by decide +kernel), List.mem_of_getElem? (i := 1300) (by decide +kernel), List.mem_of_getElem? (i := 1301) (by decide +kernel)⟩
theorem lw_p65 : lw_okq (⟨"TallerWitnessModel", "isStep", "(II)Z"⟩, 66) := ⟨⟨by decide +kernel, by decide +kernel⟩, List.mem_of_getElem? (i := 899) (by decide +kernel), List.mem_of_getElem? (i := 1304) (by decide +kernel), List.mem_of_getElem? (i := 1305) (by decide +kernel)⟩
theorem lw_p66 : lw_okq (⟨"TallerWitnessModel", "passes", "(I)I"⟩, 66) := ⟨⟨by decide +kernel, by decide +kernel⟩, List.mem_of_getElem? (i := 899) (by decide +kernel), List.mem_of_getElem? (i := 1312) (by decide +kernel), List.mem_of_getElem? (i := 1313) (by decide +kernel)⟩
theorem lw_p67 : lw_okq (⟨"TallerWitnessModel", "runs", "(I)I"⟩, 66) := ⟨⟨by decide +kernel, by decide +kernel⟩, List.mem_of_getElem? (i := 899) (by decide +kernel), List.mem_of_getElem? (i := 1326) (by decide +kernel), List.mem_of_getElem? (i := 1327) (by decide +kernel)⟩
theorem lw_p68 : lw_okq (⟨"TallerWitnessModel", "draws", "()I"⟩, 66) := ⟨⟨by decide +kernel, by decide +kernel⟩, List.mem_of_getElem? (i := 899) (by decide +kernel), List.mem_of_getElem? (i := 1330) (by decide +kernel), List.mem_of_getElem? (i := 1331) (by decide +kernel)⟩
theorem lw_p69 : lw_okq (⟨"TallerWitnessModel", "begins", "()V"⟩, 66) := ⟨⟨by decide +kernel, by decide +kernel⟩, List.mem_of_getElem? (i := 899) (by decide +kernel), List.mem_of_getElem? (i := 1339) (by decide +kernel), List.mem_of_getElem? (i := 1340) (by decide +kernel)⟩
theorem lw_p70 : lw_okq (⟨"TallerWitnessModel", "holding", "(I)I"⟩, 66) := ⟨⟨by decide +kernel, by decide +kernel⟩, List.mem_of_getElem? (i := 899) (by decide +kernel), List.mem_of_getElem? (i := 1346) (by decide +kernel), List.mem_of_getElem? (i := 1347) (by decide +kernel)⟩
theorem lw_p71 : lw_okq (⟨"TallerWitnessModel", "again", "()V"⟩, 66) := ⟨⟨by decide +kernel, by decide +kernel⟩, List.mem_of_getElem? (i := 899) (by decide +kernel), List.mem_of_getElem? (i := 1350) (by decide +kernel), List.mem_of_getElem? (i := 1351) (by decide +kernel)⟩
theorem lw_p72 : lw_okq (⟨"TallerWitnessModel", "laysWays", "(I)V"⟩, 66) := ⟨⟨by decide +kernel, by decide +kernel⟩, List.mem_of_getElem? (i := 899) (by decide +kernel), List.mem_of_getElem? (i := 1358) (by decide +kernel), List.mem_of_getElem? (i := 1359) (by decide +kernel)⟩
theorem lw_p73 : lw_okq (⟨"TallerWitnessModel", "wayBy", "(III)I"⟩, 66) := ⟨⟨by decide +kernel, by decide +kernel⟩, List.mem_of_getElem? (i := 899) (by decide +kernel), List.mem_of_getElem? (i := 1362) (by decide +kernel), List.mem_of_getElem? (i := 1363) (by decide +kernel)⟩
theorem lw_p74 : lw_okq (⟨"TallerWitnessModel", "askedBy", "(III)I"⟩, 66) := ⟨⟨by decide +kernel, by decide +kernel⟩, List.mem_of_getElem? (i := 899) (by decide +kernel), List.mem_of_getElem? (i := 1366) (by decide +kernel), List.mem_of_getElem? (i := 1367) (by decide +kernel)⟩
theorem lw_p75 : lw_okq (⟨"TallerWitnessModel", "pricesOf", "(II)I"⟩, 66) := ⟨⟨by decide +kernel, by decide +kernel⟩, List.mem_of_getElem? (i := 899) (by decide +kernel), List.mem_of_getElem? (i := 1374) (by decide +kernel), List.mem_of_getElem? (i := 1375) (by decide +kernel)⟩
theorem lw_p76 : lw_okq (⟨"TallerWitnessModel", "isSafe", "(III)Z"⟩, 66) := ⟨⟨by decide +kernel, by decide +kernel⟩, List.mem_of_getElem? (i := 899) (by decide +kernel), List.mem_of_getElem? (i := 1378) (by decide +kernel), List.mem_of_getElem? (i := 1379) (by decide +kernel)⟩
theorem lw_p77 : lw_okq (⟨"TallerWitnessModel", "plays", "(III)V"⟩, 66) := ⟨⟨by decide +kernel, by decide +kernel⟩, List.mem_of_getElem? (i := 899) (by decide +kernel), List.mem_of_getElem? (i := 1394) (by decide +kernel), List.mem_of_getElem? (i := 1395) (by decide +kernel)⟩
theorem lw_p78 : lw_okq (⟨"TallerWitnessModel", "tells", "(II)V"⟩, 66) := ⟨⟨by decide +kernel, by decide +kernel⟩, List.mem_of_getElem? (i := 899) (by decide +kernel), List.mem_of_getElem? (i := 1398) (by decide +kernel), List.mem_of_getElem? (i := 1399) (by decide +kernel)⟩
theorem lw_p79 : lw_okq (⟨"TallerWitnessModel", "canChoose", "(II)Z"⟩, 66) := ⟨⟨by decide +kernel, by decide +kernel⟩, List.mem_of_getElem? (i := 899) (by decide +kernel), List.mem_of_getElem? (i := 1402) (by decide +kernel), List.mem_of_getElem? (i := 1403) (by decide +kernel)⟩
def lw_privs_5 : List (MethodName × Nat) := [(⟨"TallerWitnessModel", "reach", "(II)I"⟩, 66), (⟨"TallerWitnessModel", "isStep", "(II)Z"⟩, 66), (⟨"TallerWitnessModel", "passes", "(I)I"⟩, 66), (⟨"TallerWitnessModel", "runs", "(I)I"⟩, 66), (⟨"TallerWitnessModel", "draws", "()I"⟩, 66), (⟨"TallerWitnessModel", "begins", "()V"⟩, 66), (⟨"TallerWitnessModel", "holding", "(I)I"⟩, 66), (⟨"TallerWitnessModel", "again", "()V"⟩, 66), (⟨"TallerWitnessModel", "laysWays", "(I)V"⟩, 66), (⟨"TallerWitnessModel", "wayBy", "(III)I"⟩, 66), (⟨"TallerWitnessModel", "askedBy", "(III)I"⟩, 66), (⟨"TallerWitnessModel", "pricesOf", "(II)I"⟩, 66), (⟨"TallerWitnessModel", "isSafe", "(III)Z"⟩, 66), (⟨"TallerWitnessModel", "plays", "(III)V"⟩, 66), (⟨"TallerWitnessModel", "tells", "(II)V"⟩, 66), (⟨"TallerWitnessModel", "canChoose", "(II)Z"⟩, 66)]
theorem lw_r5 : ∀ q ∈ lw_privs_5, lw_okq q := List.forall_mem_cons.mpr ⟨lw_p64, List.forall_mem_cons.mpr ⟨lw_p65, List.forall_mem_cons.mpr ⟨lw_p66, List.forall_mem_cons.mpr ⟨lw_p67, List.forall_mem_cons.mpr ⟨lw_p68, List.forall_mem_cons.mpr ⟨lw_p69, List.forall_mem_cons.mpr ⟨lw_p70, List.forall_mem_cons.mpr ⟨lw_p71, List.forall_mem_cons.mpr ⟨lw_p72, List.forall_mem_cons.mpr ⟨lw_p73, List.forall_mem_cons.mpr ⟨lw_p74, List.forall_mem_cons.mpr ⟨lw_p75, List.forall_mem_cons.mpr ⟨lw_p76, List.forall_mem_cons.mpr ⟨lw_p77, List.forall_mem_cons.mpr ⟨lw_p78, List.forall_mem_cons.mpr ⟨lw_p79, fun _ h => absurd h List.not_mem_nil⟩⟩⟩⟩⟩⟩⟩⟩⟩⟩⟩⟩⟩⟩⟩⟩
theorem lw_p80 : lw_okq (⟨"TallerWitnessModel", "endsAs", "(III)I"⟩, 66) := ⟨⟨by decide +kernel, by decide +kernel⟩, List.mem_of_getElem? (i := 899) (by decide +kernel), List.mem_of_getElem? (i := 1406) (by decide +kernel), List.mem_of_getElem? (i := 1407) (by decide +kernel)⟩
theorem lw_p81 : lw_okq (⟨"TallerWitnessModel", "heldBy", "(I)I"⟩, 66) := ⟨⟨by decide +kernel, by decide +kernel⟩, List.mem_of_getElem? (i := 899) (by decide +kernel), List.mem_of_getElem? (i := 1414) (by decide +kernel), List.mem_of_getElem? (i := 1415) (by decide +kernel)⟩
theorem lw_p82 : lw_okq (⟨"TallerWitnessModel", "joined", "(II)I"⟩, 66) := ⟨⟨by decide +kernel, by decide +kernel⟩, List.mem_of_getElem? (i := 899) (by decide +kernel), List.mem_of_getElem? (i := 1418) (by decide +kernel), List.mem_of_getElem? (i := 1419) (by decide +kernel)⟩
theorem lw_p83 : lw_okq (⟨"TallerWitnessModel", "explains", "(I)Z"⟩, 66) := ⟨⟨by decide +kernel, by decide +kernel⟩, List.mem_of_getElem? (i := 899) (by decide +kernel), List.mem_of_getElem? (i := 1434) (by decide +kernel), List.mem_of_getElem? (i := 1435) (by decide +kernel)⟩
theorem lw_p84 : lw_okq (⟨"TallerWitnessModel", "tapeNumber", "(I)I"⟩, 66) := ⟨⟨by decide +kernel, by decide +kernel⟩, List.mem_of_getElem? (i := 899) (by decide +kernel), List.mem_of_getElem? (i := 1459) (by decide +kernel), List.mem_of_getElem? (i := 1460) (by decide +kernel)⟩
def lw_privs_6 : List (MethodName × Nat) := [(⟨"TallerWitnessModel", "endsAs", "(III)I"⟩, 66), (⟨"TallerWitnessModel", "heldBy", "(I)I"⟩, 66), (⟨"TallerWitnessModel", "joined", "(II)I"⟩, 66), (⟨"TallerWitnessModel", "explains", "(I)Z"⟩, 66), (⟨"TallerWitnessModel", "tapeNumber", "(I)I"⟩, 66)]
theorem lw_r6 : ∀ q ∈ lw_privs_6, lw_okq q := List.forall_mem_cons.mpr ⟨lw_p80, List.forall_mem_cons.mpr ⟨lw_p81, List.forall_mem_cons.mpr ⟨lw_p82, List.forall_mem_cons.mpr ⟨lw_p83, List.forall_mem_cons.mpr ⟨lw_p84, fun _ h => absurd h List.not_mem_nil⟩⟩⟩⟩⟩
def lw_privs : List (MethodName × Nat) := lw_privs_1 ++ (lw_privs_2 ++ (lw_privs_3 ++ (lw_privs_4 ++ (lw_privs_5 ++ (lw_privs_6)))))
def lw_tbl : List Cond := k2_sels lw_privs ++ tables_1
theorem lw_privs_ok : ∀ q ∈ lw_privs, lw_okq q := by
  show ∀ q ∈ lw_privs_1 ++ (lw_privs_2 ++ (lw_privs_3 ++ (lw_privs_4 ++ (lw_privs_5 ++ (lw_privs_6))))), lw_okq q
  exact List.forall_mem_append.mpr ⟨lw_r1, List.forall_mem_append.mpr ⟨lw_r2, List.forall_mem_append.mpr ⟨lw_r3, List.forall_mem_append.mpr ⟨lw_r4, List.forall_mem_append.mpr ⟨lw_r5, lw_r6⟩⟩⟩⟩⟩
-- ===== end of PART A; then your names; then what follows =====
end
section
theorem goodIn_r {big : List Cond} (ws : List Cond) (ps : List Nat) (hp : ws = ps.filterMap (fun i => big[i]?)) (h : ws.all goodWord = true) : GoodIn big ws := by
  intro w hw
  have h1 := List.all_eq_true.mp h w hw
  rw [hp] at hw
  obtain ⟨i, -, hi⟩ := List.mem_filterMap.mp hw
  have hm : w ∈ big := by first | exact List.mem_of_getElem? hi | exact List.getElem?_mem hi
  exact ⟨hm, good_of_word h1⟩
theorem goodIn_app {big a b : List Cond} (ha : GoodIn big a) (hb : GoodIn big b) : GoodIn big (a ++ b) := fun w h => (List.mem_append.mp h).elim (ha w) (hb w)
theorem goodIn_ca {big a b : List Cond} {c : Cond} (ha : GoodIn big (c :: a)) (hb : GoodIn big b) : GoodIn big (c :: (a ++ b)) := fun w h => (List.mem_cons.mp h).elim (fun e => ha w (List.mem_cons.mpr (Or.inl e))) (fun h => (List.mem_append.mp h).elim (fun h => ha w (List.mem_cons.mpr (Or.inr h))) (hb w))
theorem goodIn_sub {big ws : List Cond} (hm : ∀ w ∈ ws, w ∈ big) (h : ws.all goodWord = true) : GoodIn big ws := fun w hw => ⟨hm w hw, good_of_word (List.all_eq_true.mp h w hw)⟩
def RX0 : String := "TallerWitness$ChainSearch"
def TX0 : u_T := fun k => match k with
  | 0 => ("TallerWitness$ChainSearch", "steps", "LTallerWitness$Steps;", true)
  | 1 => ("TallerWitness$ChainSearch", "price", "[I", true)
  | 2 => ("TallerWitness$ChainSearch", "size", "[I", true)
  | 3 => ("TallerWitness$ChainSearch", "next", "[I", true)
  | _ => ("TallerWitness$ChainSearch", "first", "I", false)
def tyX0 : Nat → FieldType := fun k => match k with
  | 0 => .object "TallerWitness$Steps"
  | 1 => .array .int
  | 2 => .array .int
  | 3 => .array .int
  | _ => .int
abbrev wsX00 : List Cond := u_ws RX0 TX0 5
theorem nmX0 : ∀ a, a < 5 → ∀ b, b < 5 → a ≠ b → (TX0 a).2.1 ≠ (TX0 b).2.1 := by decide +kernel
theorem tyX0_ok : ∀ k, k < 5 → parseFieldDescriptor (TX0 k).2.2.1 = some (tyX0 k) := by decide +kernel
abbrev cX0_init : ByteArray := prog_2_method_1_code
def yX0_init : MethodName := ⟨RX0, "<init>", "(LTallerWitness$Steps;)V"⟩
abbrev cX0_search : ByteArray := prog_2_method_2_code
def yX0_search : MethodName := ⟨RX0, "search", "(II)Z"⟩
abbrev cX0_chooseNext : ByteArray := prog_2_method_3_code
def yX0_chooseNext : MethodName := ⟨RX0, "chooseNext", "(II)V"⟩
abbrev cX0_leastPrice : ByteArray := prog_2_method_4_code
def yX0_leastPrice : MethodName := ⟨RX0, "leastPrice", "()I"⟩
abbrev cX0_length : ByteArray := prog_2_method_5_code
def yX0_length : MethodName := ⟨RX0, "length", "()I"⟩
abbrev cX0_personAt : ByteArray := prog_2_method_6_code
def yX0_personAt : MethodName := ⟨RX0, "personAt", "(I)I"⟩
def RX1 : String := "TallerWitness$Contest"
def TX1 : u_T := fun k => match k with
  | 0 => ("TallerWitness$Contest", "steps", "LTallerWitness$Steps;", true)
  | 1 => ("TallerWitness$Contest", "owners", "[I", true)
  | _ => ("TallerWitness$Contest", "bestTurn", "I", false)
def tyX1 : Nat → FieldType := fun k => match k with
  | 0 => .object "TallerWitness$Steps"
  | 1 => .array .int
  | _ => .int
abbrev wsX10 : List Cond := u_ws RX1 TX1 3
theorem nmX1 : ∀ a, a < 3 → ∀ b, b < 3 → a ≠ b → (TX1 a).2.1 ≠ (TX1 b).2.1 := by decide +kernel
theorem tyX1_ok : ∀ k, k < 3 → parseFieldDescriptor (TX1 k).2.2.1 = some (tyX1 k) := by decide +kernel
abbrev cX1_init : ByteArray := prog_3_method_1_code
def yX1_init : MethodName := ⟨RX1, "<init>", "(LTallerWitness$Steps;)V"⟩
abbrev cX1_outcomeFor : ByteArray := prog_3_method_2_code
def yX1_outcomeFor : MethodName := ⟨RX1, "outcomeFor", "(LTallerWitness$Valley;III)I"⟩
abbrev cX1_play : ByteArray := prog_3_method_3_code
def yX1_play : MethodName := ⟨RX1, "play", "(IIII)I"⟩
abbrev cX1_standing : ByteArray := prog_3_method_4_code
def yX1_standing : MethodName := ⟨RX1, "standing", "(II)I"⟩
def RX2 : String := "TallerWitness$Law"
def TX2 : u_T := fun k => match k with
  | 0 => ("TallerWitness$Law", "clauses", "I", false)
  | 1 => ("TallerWitness$Law", "size", "I", false)
  | 2 => ("TallerWitness$Law", "signs", "[I", true)
  | 3 => ("TallerWitness$Law", "values", "[I", true)
  | 4 => ("TallerWitness$Law", "letterOf", "[I", true)
  | 5 => ("TallerWitness$Law", "worthFrom", "[I", true)
  | 6 => ("TallerWitness$Law", "conditionFrom", "[I", true)
  | 7 => ("TallerWitness$Law", "conditionEnd", "[I", true)
  | _ => ("TallerWitness$Law", "stack", "[I", true)
def tyX2 : Nat → FieldType := fun k => match k with
  | 0 => .int
  | 1 => .int
  | 2 => .array .int
  | 3 => .array .int
  | 4 => .array .int
  | 5 => .array .int
  | 6 => .array .int
  | 7 => .array .int
  | _ => .array .int
abbrev wsX20 : List Cond := u_ws RX2 TX2 9
theorem nmX2 : ∀ a, a < 9 → ∀ b, b < 9 → a ≠ b → (TX2 a).2.1 ≠ (TX2 b).2.1 := by decide +kernel
theorem tyX2_ok : ∀ k, k < 9 → parseFieldDescriptor (TX2 k).2.2.1 = some (tyX2 k) := by decide +kernel
abbrev cX2_init : ByteArray := prog_4_method_1_code
def yX2_init : MethodName := ⟨RX2, "<init>", "()V"⟩
abbrev cX2_clear : ByteArray := prog_4_method_2_code
def yX2_clear : MethodName := ⟨RX2, "clear", "()V"⟩
abbrev cX2_copyFrom : ByteArray := prog_4_method_3_code
def yX2_copyFrom : MethodName := ⟨RX2, "copyFrom", "(LTallerWitness$Law;)V"⟩
abbrev cX2_addSign : ByteArray := prog_4_method_4_code
def yX2_addSign : MethodName := ⟨RX2, "addSign", "(II)I"⟩
abbrev cX2_leapToHere : ByteArray := prog_4_method_5_code
def yX2_leapToHere : MethodName := ⟨RX2, "leapToHere", "(I)V"⟩
abbrev cX2_beginClause : ByteArray := prog_4_method_6_code
def yX2_beginClause : MethodName := ⟨RX2, "beginClause", "(I)V"⟩
abbrev cX2_beginCondition : ByteArray := prog_4_method_7_code
def yX2_beginCondition : MethodName := ⟨RX2, "beginCondition", "()V"⟩
abbrev cX2_endClause : ByteArray := prog_4_method_8_code
def yX2_endClause : MethodName := ⟨RX2, "endClause", "()V"⟩
abbrev cX2_anyHolds : ByteArray := prog_4_method_9_code
def yX2_anyHolds : MethodName := ⟨RX2, "anyHolds", "(I[I)Z"⟩
abbrev cX2_firstWorth : ByteArray := prog_4_method_10_code
def yX2_firstWorth : MethodName := ⟨RX2, "firstWorth", "(II[I)I"⟩
abbrev cX2_worth : ByteArray := prog_4_method_11_code
def yX2_worth : MethodName := ⟨RX2, "worth", "(II[I)I"⟩
abbrev cX2_isRefused : ByteArray := prog_4_method_12_code
def yX2_isRefused : MethodName := ⟨RX2, "isRefused", "(II)Z"⟩
abbrev cX2_combined : ByteArray := prog_4_method_13_code
def yX2_combined : MethodName := ⟨RX2, "combined", "(III)I"⟩
def RX3 : String := "TallerWitness$LawReader"
def TX3 : u_T := fun k => match k with
  | 0 => ("TallerWitness$LawReader", "tape", "LTallerWitness$Tape;", true)
  | 1 => ("TallerWitness$LawReader", "draft", "LTallerWitness$Law;", true)
  | 2 => ("TallerWitness$LawReader", "end", "I", false)
  | 3 => ("TallerWitness$LawReader", "at", "I", false)
  | _ => ("TallerWitness$LawReader", "fault", "I", false)
def tyX3 : Nat → FieldType := fun k => match k with
  | 0 => .object "TallerWitness$Tape"
  | 1 => .object "TallerWitness$Law"
  | 2 => .int
  | 3 => .int
  | _ => .int
abbrev wsX30 : List Cond := u_ws RX3 TX3 5
theorem nmX3 : ∀ a, a < 5 → ∀ b, b < 5 → a ≠ b → (TX3 a).2.1 ≠ (TX3 b).2.1 := by decide +kernel
theorem tyX3_ok : ∀ k, k < 5 → parseFieldDescriptor (TX3 k).2.2.1 = some (tyX3 k) := by decide +kernel
abbrev cX3_init : ByteArray := prog_5_method_1_code
def yX3_init : MethodName := ⟨RX3, "<init>", "(LTallerWitness$Tape;LTallerWitness$Law;)V"⟩
abbrev cX3_readText : ByteArray := prog_5_method_2_code
def yX3_readText : MethodName := ⟨RX3, "readText", "(I)I"⟩
abbrev cX3_readClause : ByteArray := prog_5_method_3_code
def yX3_readClause : MethodName := ⟨RX3, "readClause", "()V"⟩
abbrev cX3_readChoice : ByteArray := prog_5_method_4_code
def yX3_readChoice : MethodName := ⟨RX3, "readChoice", "(I)V"⟩
abbrev cX3_readPart : ByteArray := prog_5_method_5_code
def yX3_readPart : MethodName := ⟨RX3, "readPart", "(I)V"⟩
abbrev cX3_readPiece : ByteArray := prog_5_method_6_code
def yX3_readPiece : MethodName := ⟨RX3, "readPiece", "(I)V"⟩
abbrev cX3_readComparison : ByteArray := prog_5_method_7_code
def yX3_readComparison : MethodName := ⟨RX3, "readComparison", "(I)V"⟩
abbrev cX3_readSum : ByteArray := prog_5_method_8_code
def yX3_readSum : MethodName := ⟨RX3, "readSum", "(I)V"⟩
abbrev cX3_readTerm : ByteArray := prog_5_method_9_code
def yX3_readTerm : MethodName := ⟨RX3, "readTerm", "(I)V"⟩
abbrev cX3_readFactor : ByteArray := prog_5_method_10_code
def yX3_readFactor : MethodName := ⟨RX3, "readFactor", "(I)V"⟩
abbrev cX3_readNumber : ByteArray := prog_5_method_11_code
def yX3_readNumber : MethodName := ⟨RX3, "readNumber", "()V"⟩
abbrev cX3_opens : ByteArray := prog_5_method_12_code
def yX3_opens : MethodName := ⟨RX3, "opens", "(I)V"⟩
abbrev cX3_pass : ByteArray := prog_5_method_13_code
def yX3_pass : MethodName := ⟨RX3, "pass", "(I)V"⟩
abbrev cX3_sign : ByteArray := prog_5_method_14_code
def yX3_sign : MethodName := ⟨RX3, "sign", "()I"⟩
abbrev cX3_isNext : ByteArray := prog_5_method_15_code
def yX3_isNext : MethodName := ⟨RX3, "isNext", "(Ljava/lang/String;)Z"⟩
abbrev cX3_fail : ByteArray := prog_5_method_16_code
def yX3_fail : MethodName := ⟨RX3, "fail", "(I)V"⟩
def RX4 : String := "TallerWitness$Letters"
def TX4 : u_T := fun k => match k with
  | _ => ("TallerWitness$Letters", "value", "[I", true)
def tyX4 : Nat → FieldType := fun k => match k with
  | _ => .array .int
abbrev wsX40 : List Cond := u_ws RX4 TX4 1
theorem nmX4 : ∀ a, a < 1 → ∀ b, b < 1 → a ≠ b → (TX4 a).2.1 ≠ (TX4 b).2.1 := by decide +kernel
theorem tyX4_ok : ∀ k, k < 1 → parseFieldDescriptor (TX4 k).2.2.1 = some (tyX4 k) := by decide +kernel
abbrev cX4_init : ByteArray := prog_6_method_1_code
def yX4_init : MethodName := ⟨RX4, "<init>", "()V"⟩
abbrev cX4_tellSwearer : ByteArray := prog_6_method_2_code
def yX4_tellSwearer : MethodName := ⟨RX4, "tellSwearer", "(LTallerWitness$Valley;I)V"⟩
abbrev cX4_tellSwornTo : ByteArray := prog_6_method_3_code
def yX4_tellSwornTo : MethodName := ⟨RX4, "tellSwornTo", "(LTallerWitness$Valley;I)V"⟩
abbrev cX4_tellTime : ByteArray := prog_6_method_4_code
def yX4_tellTime : MethodName := ⟨RX4, "tellTime", "(II)V"⟩
def RX5 : String := "TallerWitness$SafeSearch"
def TX5 : u_T := fun k => match k with
  | 0 => ("TallerWitness$SafeSearch", "steps", "LTallerWitness$Steps;", true)
  | 1 => ("TallerWitness$SafeSearch", "any", "Z", false)
  | 2 => ("TallerWitness$SafeSearch", "fewest", "I", false)
  | 3 => ("TallerWitness$SafeSearch", "leastPrice", "I", false)
  | _ => ("TallerWitness$SafeSearch", "leastSet", "I", false)
def tyX5 : Nat → FieldType := fun k => match k with
  | 0 => .object "TallerWitness$Steps"
  | 1 => .boolean
  | 2 => .int
  | 3 => .int
  | _ => .int
abbrev wsX50 : List Cond := u_ws RX5 TX5 5
theorem nmX5 : ∀ a, a < 5 → ∀ b, b < 5 → a ≠ b → (TX5 a).2.1 ≠ (TX5 b).2.1 := by decide +kernel
theorem tyX5_ok : ∀ k, k < 5 → parseFieldDescriptor (TX5 k).2.2.1 = some (tyX5 k) := by decide +kernel
abbrev cX5_init : ByteArray := prog_7_method_1_code
def yX5_init : MethodName := ⟨RX5, "<init>", "(LTallerWitness$Steps;)V"⟩
abbrev cX5_search : ByteArray := prog_7_method_2_code
def yX5_search : MethodName := ⟨RX5, "search", "(III)Z"⟩
abbrev cX5_whoCouldSwear : ByteArray := prog_7_method_3_code
def yX5_whoCouldSwear : MethodName := ⟨RX5, "whoCouldSwear", "(I)I"⟩
abbrev cX5_isBetter : ByteArray := prog_7_method_4_code
def yX5_isBetter : MethodName := ⟨RX5, "isBetter", "(II)Z"⟩
abbrev cX5_priceOfAll : ByteArray := prog_7_method_5_code
def yX5_priceOfAll : MethodName := ⟨RX5, "priceOfAll", "(II)I"⟩
def RX6 : String := "TallerWitness$Steps"
def TX6 : u_T := fun k => match k with
  | 0 => ("TallerWitness$Steps", "height", "[I", true)
  | 1 => ("TallerWitness$Steps", "upward", "[I", true)
  | 2 => ("TallerWitness$Steps", "below", "[I", true)
  | 3 => ("TallerWitness$Steps", "prices", "[I", true)
  | 4 => ("TallerWitness$Steps", "letters", "LTallerWitness$Letters;", true)
  | 5 => ("TallerWitness$Steps", "valley", "LTallerWitness$Valley;", false)
  | 6 => ("TallerWitness$Steps", "ruling", "LTallerWitness$Law;", false)
  | 7 => ("TallerWitness$Steps", "livingCount", "I", false)
  | _ => ("TallerWitness$Steps", "tallest", "I", false)
def tyX6 : Nat → FieldType := fun k => match k with
  | 0 => .array .int
  | 1 => .array .int
  | 2 => .array .int
  | 3 => .array .int
  | 4 => .object "TallerWitness$Letters"
  | 5 => .object "TallerWitness$Valley"
  | 6 => .object "TallerWitness$Law"
  | 7 => .int
  | _ => .int
abbrev wsX60 : List Cond := u_ws RX6 TX6 9
theorem nmX6 : ∀ a, a < 9 → ∀ b, b < 9 → a ≠ b → (TX6 a).2.1 ≠ (TX6 b).2.1 := by decide +kernel
theorem tyX6_ok : ∀ k, k < 9 → parseFieldDescriptor (TX6 k).2.2.1 = some (tyX6 k) := by decide +kernel
abbrev cX6_init : ByteArray := prog_8_method_1_code
def yX6_init : MethodName := ⟨RX6, "<init>", "(LTallerWitness$Valley;LTallerWitness$Law;)V"⟩
abbrev cX6_reckon : ByteArray := prog_8_method_2_code
def yX6_reckon : MethodName := ⟨RX6, "reckon", "(LTallerWitness$Valley;LTallerWitness$Law;)V"⟩
abbrev cX6_reckonPrices : ByteArray := prog_8_method_3_code
def yX6_reckonPrices : MethodName := ⟨RX6, "reckonPrices", "()V"⟩
abbrev cX6_leads : ByteArray := prog_8_method_4_code
def yX6_leads : MethodName := ⟨RX6, "leads", "(II)Z"⟩
abbrev cX6_priceByLaw : ByteArray := prog_8_method_5_code
def yX6_priceByLaw : MethodName := ⟨RX6, "priceByLaw", "(II)I"⟩
abbrev cX6_priceOf : ByteArray := prog_8_method_6_code
def yX6_priceOf : MethodName := ⟨RX6, "priceOf", "(II)I"⟩
abbrev cX6_leastAsked : ByteArray := prog_8_method_7_code
def yX6_leastAsked : MethodName := ⟨RX6, "leastAsked", "(II)I"⟩
abbrev cX6_reachFrom : ByteArray := prog_8_method_8_code
def yX6_reachFrom : MethodName := ⟨RX6, "reachFrom", "(II)I"⟩
abbrev cX6_comesToTop : ByteArray := prog_8_method_9_code
def yX6_comesToTop : MethodName := ⟨RX6, "comesToTop", "(II)Z"⟩
abbrev cX6_heldOaths : ByteArray := prog_8_method_10_code
def yX6_heldOaths : MethodName := ⟨RX6, "heldOaths", "(I)I"⟩
abbrev cX6_outlasts : ByteArray := prog_8_method_11_code
def yX6_outlasts : MethodName := ⟨RX6, "outlasts", "(III)Z"⟩
abbrev cX6_withHelpers : ByteArray := prog_8_method_12_code
def yX6_withHelpers : MethodName := ⟨RX6, "withHelpers", "(II)I"⟩
abbrev cX6_orderUpward : ByteArray := prog_8_method_13_code
def yX6_orderUpward : MethodName := ⟨RX6, "orderUpward", "()V"⟩
abbrev cX6_isLet : ByteArray := prog_8_method_14_code
def yX6_isLet : MethodName := ⟨RX6, "isLet", "(II)Z"⟩
def RX7 : String := "TallerWitness$Tape"
def TX7 : u_T := fun k => match k with
  | 0 => ("TallerWitness$Tape", "bytes", "[I", true)
  | _ => ("TallerWitness$Tape", "size", "I", false)
def tyX7 : Nat → FieldType := fun k => match k with
  | 0 => .array .int
  | _ => .int
abbrev wsX70 : List Cond := u_ws RX7 TX7 2
theorem nmX7 : ∀ a, a < 2 → ∀ b, b < 2 → a ≠ b → (TX7 a).2.1 ≠ (TX7 b).2.1 := by decide +kernel
theorem tyX7_ok : ∀ k, k < 2 → parseFieldDescriptor (TX7 k).2.2.1 = some (tyX7 k) := by decide +kernel
abbrev cX7_init : ByteArray := prog_9_method_1_code
def yX7_init : MethodName := ⟨RX7, "<init>", "()V"⟩
abbrev cX7_addWord : ByteArray := prog_9_method_2_code
def yX7_addWord : MethodName := ⟨RX7, "addWord", "(I)V"⟩
abbrev cX7_wordAt : ByteArray := prog_9_method_3_code
def yX7_wordAt : MethodName := ⟨RX7, "wordAt", "(I)I"⟩
def RX8 : String := "TallerWitness$Valley"
def TX8 : u_T := fun k => match k with
  | 0 => ("TallerWitness$Valley", "kindOf", "[I", true)
  | 1 => ("TallerWitness$Valley", "inch", "[I", true)
  | 2 => ("TallerWitness$Valley", "age", "[I", true)
  | 3 => ("TallerWitness$Valley", "heel", "[I", true)
  | 4 => ("TallerWitness$Valley", "ownPrice", "[I", true)
  | 5 => ("TallerWitness$Valley", "owner", "[I", true)
  | 6 => ("TallerWitness$Valley", "sworn", "[I", true)
  | 7 => ("TallerWitness$Valley", "people", "I", false)
  | 8 => ("TallerWitness$Valley", "living", "I", false)
  | 9 => ("TallerWitness$Valley", "oaths", "I", false)
  | 10 => ("TallerWitness$Valley", "thisYear", "I", false)
  | 11 => ("TallerWitness$Valley", "drawState", "I", false)
  | 12 => ("TallerWitness$Valley", "growth", "[I", true)
  | _ => ("TallerWitness$Valley", "letters", "LTallerWitness$Letters;", true)
def tyX8 : Nat → FieldType := fun k => match k with
  | 0 => .array .int
  | 1 => .array .int
  | 2 => .array .int
  | 3 => .array .int
  | 4 => .array .int
  | 5 => .array .int
  | 6 => .array .int
  | 7 => .int
  | 8 => .int
  | 9 => .int
  | 10 => .int
  | 11 => .int
  | 12 => .array .int
  | _ => .object "TallerWitness$Letters"
abbrev wsX80 : List Cond := u_ws RX8 TX8 14
theorem nmX8 : ∀ a, a < 14 → ∀ b, b < 14 → a ≠ b → (TX8 a).2.1 ≠ (TX8 b).2.1 := by decide +kernel
theorem tyX8_ok : ∀ k, k < 14 → parseFieldDescriptor (TX8 k).2.2.1 = some (tyX8 k) := by decide +kernel
abbrev cX8_init : ByteArray := prog_10_method_1_code
def yX8_init : MethodName := ⟨RX8, "<init>", "()V"⟩
abbrev cX8_copyFrom : ByteArray := prog_10_method_2_code
def yX8_copyFrom : MethodName := ⟨RX8, "copyFrom", "(LTallerWitness$Valley;)V"⟩
abbrev cX8_addPerson : ByteArray := prog_10_method_3_code
def yX8_addPerson : MethodName := ⟨RX8, "addPerson", "(IIII)I"⟩
abbrev cX8_addOath : ByteArray := prog_10_method_4_code
def yX8_addOath : MethodName := ⟨RX8, "addOath", "(I)I"⟩
abbrev cX8_isPerson : ByteArray := prog_10_method_5_code
def yX8_isPerson : MethodName := ⟨RX8, "isPerson", "(I)Z"⟩
abbrev cX8_isOath : ByteArray := prog_10_method_6_code
def yX8_isOath : MethodName := ⟨RX8, "isOath", "(I)Z"⟩
abbrev cX8_lives : ByteArray := prog_10_method_7_code
def yX8_lives : MethodName := ⟨RX8, "lives", "(I)Z"⟩
abbrev cX8_heightOf : ByteArray := prog_10_method_8_code
def yX8_heightOf : MethodName := ⟨RX8, "heightOf", "(I)I"⟩
abbrev cX8_tallestOne : ByteArray := prog_10_method_9_code
def yX8_tallestOne : MethodName := ⟨RX8, "tallestOne", "()I"⟩
abbrev cX8_nextDraw : ByteArray := prog_10_method_10_code
def yX8_nextDraw : MethodName := ⟨RX8, "nextDraw", "()I"⟩
abbrev cX8_passYear : ByteArray := prog_10_method_11_code
def yX8_passYear : MethodName := ⟨RX8, "passYear", "(LTallerWitness$Law;I)I"⟩
abbrev cX8_growOlder : ByteArray := prog_10_method_12_code
def yX8_growOlder : MethodName := ⟨RX8, "growOlder", "()V"⟩
abbrev cX8_growTaller : ByteArray := prog_10_method_13_code
def yX8_growTaller : MethodName := ⟨RX8, "growTaller", "(LTallerWitness$Law;)V"⟩
abbrev cX8_whoDies : ByteArray := prog_10_method_14_code
def yX8_whoDies : MethodName := ⟨RX8, "whoDies", "(LTallerWitness$Law;)I"⟩
def RX9 : String := "TallerWitness"
def TX9 : u_T := fun k => match k with
  | 0 => ("TallerWitness", "now", "LTallerWitness$Valley;", true)
  | 1 => ("TallerWitness", "kept", "LTallerWitness$Valley;", true)
  | 2 => ("TallerWitness", "trial", "LTallerWitness$Valley;", true)
  | 3 => ("TallerWitness", "tape", "LTallerWitness$Tape;", true)
  | 4 => ("TallerWitness", "laws", "[LTallerWitness$Law;", true)
  | 5 => ("TallerWitness", "draft", "LTallerWitness$Law;", true)
  | 6 => ("TallerWitness", "reader", "LTallerWitness$LawReader;", true)
  | 7 => ("TallerWitness", "steps", "LTallerWitness$Steps;", true)
  | 8 => ("TallerWitness", "chains", "LTallerWitness$ChainSearch;", true)
  | 9 => ("TallerWitness", "safety", "LTallerWitness$SafeSearch;", true)
  | 10 => ("TallerWitness", "contest", "LTallerWitness$Contest;", true)
  | 11 => ("TallerWitness", "groups", "[I", true)
  | 12 => ("TallerWitness", "groupCount", "I", false)
  | _ => ("TallerWitness", "anyKept", "Z", false)
def tyX9 : Nat → FieldType := fun k => match k with
  | 0 => .object "TallerWitness$Valley"
  | 1 => .object "TallerWitness$Valley"
  | 2 => .object "TallerWitness$Valley"
  | 3 => .object "TallerWitness$Tape"
  | 4 => .array (.object "TallerWitness$Law")
  | 5 => .object "TallerWitness$Law"
  | 6 => .object "TallerWitness$LawReader"
  | 7 => .object "TallerWitness$Steps"
  | 8 => .object "TallerWitness$ChainSearch"
  | 9 => .object "TallerWitness$SafeSearch"
  | 10 => .object "TallerWitness$Contest"
  | 11 => .array .int
  | 12 => .int
  | _ => .boolean
abbrev wsX90 : List Cond := u_ws RX9 TX9 14
theorem nmX9 : ∀ a, a < 14 → ∀ b, b < 14 → a ≠ b → (TX9 a).2.1 ≠ (TX9 b).2.1 := by decide +kernel
theorem tyX9_ok : ∀ k, k < 14 → parseFieldDescriptor (TX9 k).2.2.1 = some (tyX9 k) := by decide +kernel
abbrev cX9_init : ByteArray := prog_1_method_1_code
def yX9_init : MethodName := ⟨RX9, "<init>", "()V"⟩
abbrev cX9_person : ByteArray := prog_1_method_2_code
def yX9_person : MethodName := ⟨RX9, "person", "(IIII)I"⟩
abbrev cX9_heels : ByteArray := prog_1_method_3_code
def yX9_heels : MethodName := ⟨RX9, "heels", "(II)Z"⟩
abbrev cX9_dies : ByteArray := prog_1_method_4_code
def yX9_dies : MethodName := ⟨RX9, "dies", "(I)Z"⟩
abbrev cX9_feed : ByteArray := prog_1_method_5_code
def yX9_feed : MethodName := ⟨RX9, "feed", "(IIIII)I"⟩
abbrev cX9_law : ByteArray := prog_1_method_6_code
def yX9_law : MethodName := ⟨RX9, "law", "(II)I"⟩
abbrev cX9_tall : ByteArray := prog_1_method_7_code
def yX9_tall : MethodName := ⟨RX9, "tall", "(I)I"⟩
abbrev cX9_top : ByteArray := prog_1_method_8_code
def yX9_top : MethodName := ⟨RX9, "top", "()I"⟩
abbrev cX9_step : ByteArray := prog_1_method_9_code
def yX9_step : MethodName := ⟨RX9, "step", "(II)I"⟩
abbrev cX9_oath : ByteArray := prog_1_method_10_code
def yX9_oath : MethodName := ⟨RX9, "oath", "(II)I"⟩
abbrev cX9_swear : ByteArray := prog_1_method_11_code
def yX9_swear : MethodName := ⟨RX9, "swear", "(II)I"⟩
abbrev cX9_holds : ByteArray := prog_1_method_12_code
def yX9_holds : MethodName := ⟨RX9, "holds", "(I)I"⟩
abbrev cX9_year : ByteArray := prog_1_method_13_code
def yX9_year : MethodName := ⟨RX9, "year", "(I)I"⟩
abbrev cX9_years : ByteArray := prog_1_method_14_code
def yX9_years : MethodName := ⟨RX9, "years", "(I)I"⟩
abbrev cX9_tried : ByteArray := prog_1_method_15_code
def yX9_tried : MethodName := ⟨RX9, "tried", "(II)I"⟩
abbrev cX9_chain : ByteArray := prog_1_method_16_code
def yX9_chain : MethodName := ⟨RX9, "chain", "(II)I"⟩
abbrev cX9_safe : ByteArray := prog_1_method_17_code
def yX9_safe : MethodName := ⟨RX9, "safe", "(III)I"⟩
abbrev cX9_cut : ByteArray := prog_1_method_18_code
def yX9_cut : MethodName := ⟨RX9, "cut", "(I)I"⟩
abbrev cX9_soonest : ByteArray := prog_1_method_19_code
def yX9_soonest : MethodName := ⟨RX9, "soonest", "(I)I"⟩
abbrev cX9_against : ByteArray := prog_1_method_20_code
def yX9_against : MethodName := ⟨RX9, "against", "(IIII)I"⟩
abbrev cX9_whom : ByteArray := prog_1_method_21_code
def yX9_whom : MethodName := ⟨RX9, "whom", "(III)I"⟩
abbrev cX9_sure : ByteArray := prog_1_method_22_code
def yX9_sure : MethodName := ⟨RX9, "sure", "(I)I"⟩
abbrev cX9_found : ByteArray := prog_1_method_23_code
def yX9_found : MethodName := ⟨RX9, "found", "(I)I"⟩
abbrev cX9_least : ByteArray := prog_1_method_24_code
def yX9_least : MethodName := ⟨RX9, "least", "()I"⟩
abbrev cX9_sideBySide : ByteArray := prog_1_method_25_code
def yX9_sideBySide : MethodName := ⟨RX9, "sideBySide", "(I)I"⟩
abbrev cX9_seed : ByteArray := prog_1_method_26_code
def yX9_seed : MethodName := ⟨RX9, "seed", "(I)Z"⟩
abbrev cX9_keep : ByteArray := prog_1_method_27_code
def yX9_keep : MethodName := ⟨RX9, "keep", "()I"⟩
abbrev cX9_undo : ByteArray := prog_1_method_28_code
def yX9_undo : MethodName := ⟨RX9, "undo", "()Z"⟩
abbrev cX9_check : ByteArray := prog_1_method_29_code
def yX9_check : MethodName := ⟨RX9, "check", "(I)I"⟩
abbrev cX9_count : ByteArray := prog_1_method_30_code
def yX9_count : MethodName := ⟨RX9, "count", "(I)I"⟩
abbrev cX9_countWhole : ByteArray := prog_1_method_31_code
def yX9_countWhole : MethodName := ⟨RX9, "countWhole", "(I)I"⟩
abbrev cX9_runYears : ByteArray := prog_1_method_32_code
def yX9_runYears : MethodName := ⟨RX9, "runYears", "(LTallerWitness$Valley;I)I"⟩
abbrev cX9_heldBy : ByteArray := prog_1_method_33_code
def yX9_heldBy : MethodName := ⟨RX9, "heldBy", "(LTallerWitness$Valley;LTallerWitness$Law;)I"⟩
abbrev cX9_explainsAll : ByteArray := prog_1_method_34_code
def yX9_explainsAll : MethodName := ⟨RX9, "explainsAll", "(I)Z"⟩
abbrev cX9_within : ByteArray := prog_1_method_35_code
def yX9_within : MethodName := ⟨RX9, "within", "(III)Z"⟩
abbrev cX9_has : ByteArray := prog_1_method_36_code
def yX9_has : MethodName := ⟨RX9, "has", "(II)Z"⟩
abbrev cX9_nextSubset : ByteArray := prog_1_method_37_code
def yX9_nextSubset : MethodName := ⟨RX9, "nextSubset", "(II)I"⟩
def RX10 : String := "TallerWitnessModel"
def TX10 : u_T := fun k => match k with
  | 0 => ("TallerWitnessModel", "people", "I", false)
  | 1 => ("TallerWitnessModel", "live", "I", false)
  | 2 => ("TallerWitnessModel", "year0", "I", false)
  | 3 => ("TallerWitnessModel", "x0", "I", false)
  | 4 => ("TallerWitnessModel", "kindOf", "[I", true)
  | 5 => ("TallerWitnessModel", "inchesOf", "[I", true)
  | 6 => ("TallerWitnessModel", "yearsOf", "[I", true)
  | 7 => ("TallerWitnessModel", "heelsOf", "[I", true)
  | 8 => ("TallerWitnessModel", "priceOf", "[I", true)
  | 9 => ("TallerWitnessModel", "tape", "[B", true)
  | 10 => ("TallerWitnessModel", "taped", "I", false)
  | 11 => ("TallerWitnessModel", "place0", "I", false)
  | 12 => ("TallerWitnessModel", "length0", "I", false)
  | 13 => ("TallerWitnessModel", "fault", "I", false)
  | 14 => ("TallerWitnessModel", "open", "I", false)
  | 15 => ("TallerWitnessModel", "codeMany", "I", false)
  | 16 => ("TallerWitnessModel", "waiting", "I", false)
  | 17 => ("TallerWitnessModel", "saidMany", "I", false)
  | 18 => ("TallerWitnessModel", "number0", "I", false)
  | 19 => ("TallerWitnessModel", "said", "[I", true)
  | 20 => ("TallerWitnessModel", "waits", "[I", true)
  | 21 => ("TallerWitnessModel", "saidLetter", "[I", true)
  | 22 => ("TallerWitnessModel", "saidFrom", "[I", true)
  | 23 => ("TallerWitnessModel", "saidHalf", "[I", true)
  | 24 => ("TallerWitnessModel", "saidTo", "[I", true)
  | 25 => ("TallerWitnessModel", "codes", "[I", true)
  | 26 => ("TallerWitnessModel", "clauses", "[I", true)
  | 27 => ("TallerWitnessModel", "clauseOf", "[I", true)
  | 28 => ("TallerWitnessModel", "codeFrom", "[I", true)
  | 29 => ("TallerWitnessModel", "codeHalf", "[I", true)
  | 30 => ("TallerWitnessModel", "codeTo", "[I", true)
  | 31 => ("TallerWitnessModel", "stack", "[I", true)
  | 32 => ("TallerWitnessModel", "facts", "[I", true)
  | 33 => ("TallerWitnessModel", "asksOf", "[I", true)
  | 34 => ("TallerWitnessModel", "oaths", "I", false)
  | 35 => ("TallerWitnessModel", "oathOf", "[I", true)
  | 36 => ("TallerWitnessModel", "sideOf", "[I", true)
  | 37 => ("TallerWitnessModel", "swornTo", "[I", true)
  | 38 => ("TallerWitnessModel", "grows", "[I", true)
  | 39 => ("TallerWitnessModel", "asideLive", "I", false)
  | 40 => ("TallerWitnessModel", "asideYear", "I", false)
  | 41 => ("TallerWitnessModel", "asideX", "I", false)
  | 42 => ("TallerWitnessModel", "asideInches", "[I", true)
  | 43 => ("TallerWitnessModel", "asideYears", "[I", true)
  | 44 => ("TallerWitnessModel", "wayTop", "[I", true)
  | 45 => ("TallerWitnessModel", "choiceAt", "[I", true)
  | 46 => ("TallerWitnessModel", "valueAt", "[I", true)
  | 47 => ("TallerWitnessModel", "swornA", "[I", true)
  | 48 => ("TallerWitnessModel", "swornB", "[I", true)
  | 49 => ("TallerWitnessModel", "firstChoice", "I", false)
  | 50 => ("TallerWitnessModel", "groups", "I", false)
  | 51 => ("TallerWitnessModel", "groupOf", "[I", true)
  | 52 => ("TallerWitnessModel", "isKept", "Z", false)
  | 53 => ("TallerWitnessModel", "keptPeople", "I", false)
  | 54 => ("TallerWitnessModel", "keptLive", "I", false)
  | 55 => ("TallerWitnessModel", "keptYear", "I", false)
  | 56 => ("TallerWitnessModel", "keptX", "I", false)
  | 57 => ("TallerWitnessModel", "keptOaths", "I", false)
  | 58 => ("TallerWitnessModel", "keptKind", "[I", true)
  | 59 => ("TallerWitnessModel", "keptInches", "[I", true)
  | 60 => ("TallerWitnessModel", "keptYears", "[I", true)
  | 61 => ("TallerWitnessModel", "keptHeels", "[I", true)
  | 62 => ("TallerWitnessModel", "keptPrice", "[I", true)
  | 63 => ("TallerWitnessModel", "keptOath", "[I", true)
  | 64 => ("TallerWitnessModel", "keptSide", "[I", true)
  | _ => ("TallerWitnessModel", "keptSworn", "[I", true)
def tyX10 : Nat → FieldType := fun k => match k with
  | 0 => .int
  | 1 => .int
  | 2 => .int
  | 3 => .int
  | 4 => .array .int
  | 5 => .array .int
  | 6 => .array .int
  | 7 => .array .int
  | 8 => .array .int
  | 9 => .array .byte
  | 10 => .int
  | 11 => .int
  | 12 => .int
  | 13 => .int
  | 14 => .int
  | 15 => .int
  | 16 => .int
  | 17 => .int
  | 18 => .int
  | 19 => .array .int
  | 20 => .array .int
  | 21 => .array .int
  | 22 => .array .int
  | 23 => .array .int
  | 24 => .array .int
  | 25 => .array .int
  | 26 => .array .int
  | 27 => .array .int
  | 28 => .array .int
  | 29 => .array .int
  | 30 => .array .int
  | 31 => .array .int
  | 32 => .array .int
  | 33 => .array .int
  | 34 => .int
  | 35 => .array .int
  | 36 => .array .int
  | 37 => .array .int
  | 38 => .array .int
  | 39 => .int
  | 40 => .int
  | 41 => .int
  | 42 => .array .int
  | 43 => .array .int
  | 44 => .array .int
  | 45 => .array .int
  | 46 => .array .int
  | 47 => .array .int
  | 48 => .array .int
  | 49 => .int
  | 50 => .int
  | 51 => .array .int
  | 52 => .boolean
  | 53 => .int
  | 54 => .int
  | 55 => .int
  | 56 => .int
  | 57 => .int
  | 58 => .array .int
  | 59 => .array .int
  | 60 => .array .int
  | 61 => .array .int
  | 62 => .array .int
  | 63 => .array .int
  | 64 => .array .int
  | _ => .array .int
abbrev wsX100 : List Cond := u_ws RX10 TX10 66
theorem nmX10 : ∀ a, a < 66 → ∀ b, b < 66 → a ≠ b → (TX10 a).2.1 ≠ (TX10 b).2.1 := by decide +kernel
theorem tyX10_ok : ∀ k, k < 66 → parseFieldDescriptor (TX10 k).2.2.1 = some (tyX10 k) := by decide +kernel
abbrev cX10_init : ByteArray := prog_12_method_1_code
def yX10_init : MethodName := ⟨RX10, "<init>", "()V"⟩
abbrev cX10_in : ByteArray := prog_12_method_2_code
def yX10_in : MethodName := ⟨RX10, "in", "(III)Z"⟩
abbrev cX10_min : ByteArray := prog_12_method_3_code
def yX10_min : MethodName := ⟨RX10, "min", "(II)I"⟩
abbrev cX10_has : ByteArray := prog_12_method_4_code
def yX10_has : MethodName := ⟨RX10, "has", "(II)Z"⟩
abbrev cX10_bits : ByteArray := prog_12_method_5_code
def yX10_bits : MethodName := ⟨RX10, "bits", "(I)I"⟩
abbrev cX10_isPerson : ByteArray := prog_12_method_6_code
def yX10_isPerson : MethodName := ⟨RX10, "isPerson", "(I)Z"⟩
abbrev cX10_lives : ByteArray := prog_12_method_7_code
def yX10_lives : MethodName := ⟨RX10, "lives", "(I)Z"⟩
abbrev cX10_person : ByteArray := prog_12_method_8_code
def yX10_person : MethodName := ⟨RX10, "person", "(IIII)I"⟩
abbrev cX10_heels : ByteArray := prog_12_method_9_code
def yX10_heels : MethodName := ⟨RX10, "heels", "(II)Z"⟩
abbrev cX10_dies : ByteArray := prog_12_method_10_code
def yX10_dies : MethodName := ⟨RX10, "dies", "(I)Z"⟩
abbrev cX10_tallOf : ByteArray := prog_12_method_11_code
def yX10_tallOf : MethodName := ⟨RX10, "tallOf", "(I)I"⟩
abbrev cX10_tall : ByteArray := prog_12_method_12_code
def yX10_tall : MethodName := ⟨RX10, "tall", "(I)I"⟩
abbrev cX10_topOf : ByteArray := prog_12_method_13_code
def yX10_topOf : MethodName := ⟨RX10, "topOf", "()I"⟩
abbrev cX10_top : ByteArray := prog_12_method_14_code
def yX10_top : MethodName := ⟨RX10, "top", "()I"⟩
abbrev cX10_types : ByteArray := prog_12_method_15_code
def yX10_types : MethodName := ⟨RX10, "types", "(I)V"⟩
abbrev cX10_feed : ByteArray := prog_12_method_16_code
def yX10_feed : MethodName := ⟨RX10, "feed", "(IIIII)I"⟩
abbrev cX10_here : ByteArray := prog_12_method_17_code
def yX10_here : MethodName := ⟨RX10, "here", "()I"⟩
abbrev cX10_isDigit : ByteArray := prog_12_method_18_code
def yX10_isDigit : MethodName := ⟨RX10, "isDigit", "()Z"⟩
abbrev cX10_wrongAt : ByteArray := prog_12_method_19_code
def yX10_wrongAt : MethodName := ⟨RX10, "wrongAt", "(II)Z"⟩
abbrev cX10_takes : ByteArray := prog_12_method_20_code
def yX10_takes : MethodName := ⟨RX10, "takes", "(I)Z"⟩
abbrev cX10_readsNumber : ByteArray := prog_12_method_21_code
def yX10_readsNumber : MethodName := ⟨RX10, "readsNumber", "()Z"⟩
abbrev cX10_notes : ByteArray := prog_12_method_22_code
def yX10_notes : MethodName := ⟨RX10, "notes", "(II)V"⟩
abbrev cX10_opens : ByteArray := prog_12_method_23_code
def yX10_opens : MethodName := ⟨RX10, "opens", "(I)Z"⟩
abbrev cX10_waitTop : ByteArray := prog_12_method_24_code
def yX10_waitTop : MethodName := ⟨RX10, "waitTop", "()I"⟩
abbrev cX10_factOf : ByteArray := prog_12_method_25_code
def yX10_factOf : MethodName := ⟨RX10, "factOf", "(I)I"⟩
abbrev cX10_sumSign : ByteArray := prog_12_method_26_code
def yX10_sumSign : MethodName := ⟨RX10, "sumSign", "(I)I"⟩
abbrev cX10_closesSums : ByteArray := prog_12_method_27_code
def yX10_closesSums : MethodName := ⟨RX10, "closesSums", "(Z)V"⟩
abbrev cX10_readsFactor : ByteArray := prog_12_method_28_code
def yX10_readsFactor : MethodName := ⟨RX10, "readsFactor", "()Z"⟩
abbrev cX10_hasOpenSum : ByteArray := prog_12_method_29_code
def yX10_hasOpenSum : MethodName := ⟨RX10, "hasOpenSum", "(I)Z"⟩
abbrev cX10_readsSum : ByteArray := prog_12_method_30_code
def yX10_readsSum : MethodName := ⟨RX10, "readsSum", "()Z"⟩
abbrev cX10_endsPiece : ByteArray := prog_12_method_31_code
def yX10_endsPiece : MethodName := ⟨RX10, "endsPiece", "()V"⟩
abbrev cX10_lands : ByteArray := prog_12_method_32_code
def yX10_lands : MethodName := ⟨RX10, "lands", "(Z)V"⟩
abbrev cX10_jumps : ByteArray := prog_12_method_33_code
def yX10_jumps : MethodName := ⟨RX10, "jumps", "(I)V"⟩
abbrev cX10_readsCompared : ByteArray := prog_12_method_34_code
def yX10_readsCompared : MethodName := ⟨RX10, "readsCompared", "()Z"⟩
abbrev cX10_readsCondition : ByteArray := prog_12_method_35_code
def yX10_readsCondition : MethodName := ⟨RX10, "readsCondition", "()Z"⟩
abbrev cX10_readsClause : ByteArray := prog_12_method_36_code
def yX10_readsClause : MethodName := ⟨RX10, "readsClause", "()Z"⟩
abbrev cX10_law : ByteArray := prog_12_method_37_code
def yX10_law : MethodName := ⟨RX10, "law", "(II)I"⟩
abbrev cX10_reckon : ByteArray := prog_12_method_38_code
def yX10_reckon : MethodName := ⟨RX10, "reckon", "(III)I"⟩
abbrev cX10_comesTo : ByteArray := prog_12_method_39_code
def yX10_comesTo : MethodName := ⟨RX10, "comesTo", "(II)I"⟩
abbrev cX10_byLaw : ByteArray := prog_12_method_40_code
def yX10_byLaw : MethodName := ⟨RX10, "byLaw", "(III)I"⟩
abbrev cX10_anyBy : ByteArray := prog_12_method_41_code
def yX10_anyBy : MethodName := ⟨RX10, "anyBy", "(II)Z"⟩
abbrev cX10_feels : ByteArray := prog_12_method_42_code
def yX10_feels : MethodName := ⟨RX10, "feels", "(I)V"⟩
abbrev cX10_stepBy : ByteArray := prog_12_method_43_code
def yX10_stepBy : MethodName := ⟨RX10, "stepBy", "(III)I"⟩
abbrev cX10_laysSteps : ByteArray := prog_12_method_44_code
def yX10_laysSteps : MethodName := ⟨RX10, "laysSteps", "(I)V"⟩
abbrev cX10_isStep : ByteArray := prog_12_method_45_code
def yX10_isStep : MethodName := ⟨RX10, "isStep", "(II)Z"⟩
abbrev cX10_step : ByteArray := prog_12_method_46_code
def yX10_step : MethodName := ⟨RX10, "step", "(II)I"⟩
abbrev cX10_isOath : ByteArray := prog_12_method_47_code
def yX10_isOath : MethodName := ⟨RX10, "isOath", "(I)Z"⟩
abbrev cX10_oath : ByteArray := prog_12_method_48_code
def yX10_oath : MethodName := ⟨RX10, "oath", "(II)I"⟩
abbrev cX10_leastBy : ByteArray := prog_12_method_49_code
def yX10_leastBy : MethodName := ⟨RX10, "leastBy", "(II)I"⟩
abbrev cX10_swear : ByteArray := prog_12_method_50_code
def yX10_swear : MethodName := ⟨RX10, "swear", "(II)I"⟩
abbrev cX10_reach : ByteArray := prog_12_method_51_code
def yX10_reach : MethodName := ⟨RX10, "reach", "(II)I"⟩
abbrev cX10_holdsBy : ByteArray := prog_12_method_52_code
def yX10_holdsBy : MethodName := ⟨RX10, "holdsBy", "(II)Z"⟩
abbrev cX10_holdsNow : ByteArray := prog_12_method_53_code
def yX10_holdsNow : MethodName := ⟨RX10, "holdsNow", "(I)Z"⟩
abbrev cX10_holds : ByteArray := prog_12_method_54_code
def yX10_holds : MethodName := ⟨RX10, "holds", "(I)I"⟩
abbrev cX10_holding : ByteArray := prog_12_method_55_code
def yX10_holding : MethodName := ⟨RX10, "holding", "(I)I"⟩
abbrev cX10_passes : ByteArray := prog_12_method_56_code
def yX10_passes : MethodName := ⟨RX10, "passes", "(I)I"⟩
abbrev cX10_draws : ByteArray := prog_12_method_57_code
def yX10_draws : MethodName := ⟨RX10, "draws", "()I"⟩
abbrev cX10_runs : ByteArray := prog_12_method_58_code
def yX10_runs : MethodName := ⟨RX10, "runs", "(I)I"⟩
abbrev cX10_areYears : ByteArray := prog_12_method_59_code
def yX10_areYears : MethodName := ⟨RX10, "areYears", "(I)Z"⟩
abbrev cX10_year : ByteArray := prog_12_method_60_code
def yX10_year : MethodName := ⟨RX10, "year", "(I)I"⟩
abbrev cX10_years : ByteArray := prog_12_method_61_code
def yX10_years : MethodName := ⟨RX10, "years", "(I)I"⟩
abbrev cX10_copies : ByteArray := prog_12_method_62_code
def yX10_copies : MethodName := ⟨RX10, "copies", "([I[II)V"⟩
abbrev cX10_begins : ByteArray := prog_12_method_63_code
def yX10_begins : MethodName := ⟨RX10, "begins", "()V"⟩
abbrev cX10_again : ByteArray := prog_12_method_64_code
def yX10_again : MethodName := ⟨RX10, "again", "()V"⟩
abbrev cX10_tried : ByteArray := prog_12_method_65_code
def yX10_tried : MethodName := ⟨RX10, "tried", "(II)I"⟩
abbrev cX10_askedBy : ByteArray := prog_12_method_66_code
def yX10_askedBy : MethodName := ⟨RX10, "askedBy", "(III)I"⟩
abbrev cX10_wayBy : ByteArray := prog_12_method_67_code
def yX10_wayBy : MethodName := ⟨RX10, "wayBy", "(III)I"⟩
abbrev cX10_laysWays : ByteArray := prog_12_method_68_code
def yX10_laysWays : MethodName := ⟨RX10, "laysWays", "(I)V"⟩
abbrev cX10_chain : ByteArray := prog_12_method_69_code
def yX10_chain : MethodName := ⟨RX10, "chain", "(II)I"⟩
abbrev cX10_isSafe : ByteArray := prog_12_method_70_code
def yX10_isSafe : MethodName := ⟨RX10, "isSafe", "(III)Z"⟩
abbrev cX10_pricesOf : ByteArray := prog_12_method_71_code
def yX10_pricesOf : MethodName := ⟨RX10, "pricesOf", "(II)I"⟩
abbrev cX10_safe : ByteArray := prog_12_method_72_code
def yX10_safe : MethodName := ⟨RX10, "safe", "(III)I"⟩
abbrev cX10_cut : ByteArray := prog_12_method_73_code
def yX10_cut : MethodName := ⟨RX10, "cut", "(I)I"⟩
abbrev cX10_soonest : ByteArray := prog_12_method_74_code
def yX10_soonest : MethodName := ⟨RX10, "soonest", "(I)I"⟩
abbrev cX10_canChoose : ByteArray := prog_12_method_75_code
def yX10_canChoose : MethodName := ⟨RX10, "canChoose", "(II)Z"⟩
abbrev cX10_tells : ByteArray := prog_12_method_76_code
def yX10_tells : MethodName := ⟨RX10, "tells", "(II)V"⟩
abbrev cX10_endsAs : ByteArray := prog_12_method_77_code
def yX10_endsAs : MethodName := ⟨RX10, "endsAs", "(III)I"⟩
abbrev cX10_plays : ByteArray := prog_12_method_78_code
def yX10_plays : MethodName := ⟨RX10, "plays", "(III)V"⟩
abbrev cX10_against : ByteArray := prog_12_method_79_code
def yX10_against : MethodName := ⟨RX10, "against", "(IIII)I"⟩
abbrev cX10_joined : ByteArray := prog_12_method_80_code
def yX10_joined : MethodName := ⟨RX10, "joined", "(II)I"⟩
abbrev cX10_heldBy : ByteArray := prog_12_method_81_code
def yX10_heldBy : MethodName := ⟨RX10, "heldBy", "(I)I"⟩
abbrev cX10_whom : ByteArray := prog_12_method_82_code
def yX10_whom : MethodName := ⟨RX10, "whom", "(III)I"⟩
abbrev cX10_sure : ByteArray := prog_12_method_83_code
def yX10_sure : MethodName := ⟨RX10, "sure", "(I)I"⟩
abbrev cX10_found : ByteArray := prog_12_method_84_code
def yX10_found : MethodName := ⟨RX10, "found", "(I)I"⟩
abbrev cX10_explains : ByteArray := prog_12_method_85_code
def yX10_explains : MethodName := ⟨RX10, "explains", "(I)Z"⟩
abbrev cX10_least : ByteArray := prog_12_method_86_code
def yX10_least : MethodName := ⟨RX10, "least", "()I"⟩
abbrev cX10_sideBySide : ByteArray := prog_12_method_87_code
def yX10_sideBySide : MethodName := ⟨RX10, "sideBySide", "(I)I"⟩
abbrev cX10_seed : ByteArray := prog_12_method_88_code
def yX10_seed : MethodName := ⟨RX10, "seed", "(I)Z"⟩
abbrev cX10_keep : ByteArray := prog_12_method_89_code
def yX10_keep : MethodName := ⟨RX10, "keep", "()I"⟩
abbrev cX10_undo : ByteArray := prog_12_method_90_code
def yX10_undo : MethodName := ⟨RX10, "undo", "()Z"⟩
abbrev cX10_tapeNumber : ByteArray := prog_12_method_91_code
def yX10_tapeNumber : MethodName := ⟨RX10, "tapeNumber", "(I)I"⟩
abbrev cX10_check : ByteArray := prog_12_method_92_code
def yX10_check : MethodName := ⟨RX10, "check", "(I)I"⟩
abbrev cX10_count : ByteArray := prog_12_method_93_code
def yX10_count : MethodName := ⟨RX10, "count", "(I)I"⟩
def RJ11 : String := "java/lang/Character"
def TJ11 : u_T := fun k => match k with
  | _ => ("", "", "", false)
def tyJ11 : Nat → FieldType := fun k => match k with
  | _ => .int
abbrev wsJ110 : List Cond := u_ws RJ11 TJ11 0
theorem nmJ11 : ∀ a, a < 0 → ∀ b, b < 0 → a ≠ b → (TJ11 a).2.1 ≠ (TJ11 b).2.1 := by decide +kernel
theorem tyJ11_ok : ∀ k, k < 0 → parseFieldDescriptor (TJ11 k).2.2.1 = some (tyJ11 k) := by decide +kernel
abbrev cJ11_isValidCodePoint_9a6ad : ByteArray := prog_13_method_11_code
def yJ11_isValidCodePoint_9a6ad : MethodName := ⟨RJ11, "isValidCodePoint", "(I)Z"⟩
abbrev cJ11_highSurrogate_5068e : ByteArray := prog_13_method_28_code
def yJ11_highSurrogate_5068e : MethodName := ⟨RJ11, "highSurrogate", "(I)C"⟩
abbrev cJ11_lowSurrogate_5068e : ByteArray := prog_13_method_29_code
def yJ11_lowSurrogate_5068e : MethodName := ⟨RJ11, "lowSurrogate", "(I)C"⟩
def RJ6 : String := "java/lang/Integer"
def TJ6 : u_T := fun k => match k with
  | _ => ("", "", "", false)
def tyJ6 : Nat → FieldType := fun k => match k with
  | _ => .int
abbrev wsJ60 : List Cond := u_ws RJ6 TJ6 0
theorem nmJ6 : ∀ a, a < 0 → ∀ b, b < 0 → a ≠ b → (TJ6 a).2.1 ≠ (TJ6 b).2.1 := by decide +kernel
theorem tyJ6_ok : ∀ k, k < 0 → parseFieldDescriptor (TJ6 k).2.2.1 = some (tyJ6 k) := by decide +kernel
abbrev cJ6_bitCount_0f7a4 : ByteArray := prog_14_method_49_code
def yJ6_bitCount_0f7a4 : MethodName := ⟨RJ6, "bitCount", "(I)I"⟩
def RJ9 : String := "java/lang/Math"
def TJ9 : u_T := fun k => match k with
  | _ => ("", "", "", false)
def tyJ9 : Nat → FieldType := fun k => match k with
  | _ => .int
abbrev wsJ90 : List Cond := u_ws RJ9 TJ9 0
theorem nmJ9 : ∀ a, a < 0 → ∀ b, b < 0 → a ≠ b → (TJ9 a).2.1 ≠ (TJ9 b).2.1 := by decide +kernel
theorem tyJ9_ok : ∀ k, k < 0 → parseFieldDescriptor (TJ9 k).2.2.1 = some (tyJ9 k) := by decide +kernel
abbrev cJ9_max_7cf53 : ByteArray := prog_15_method_65_code
def yJ9_max_7cf53 : MethodName := ⟨RJ9, "max", "(II)I"⟩
abbrev cJ9_min_7cf53 : ByteArray := prog_15_method_69_code
def yJ9_min_7cf53 : MethodName := ⟨RJ9, "min", "(II)I"⟩
def RJ0 : String := "java/lang/String"
def TJ0 : u_T := fun k => match k with
  | _ => ("", "", "", false)
def tyJ0 : Nat → FieldType := fun k => match k with
  | _ => .int
abbrev wsJ00 : List Cond := u_ws RJ0 TJ0 0
theorem nmJ0 : ∀ a, a < 0 → ∀ b, b < 0 → a ≠ b → (TJ0 a).2.1 ≠ (TJ0 b).2.1 := by decide +kernel
theorem tyJ0_ok : ∀ k, k < 0 → parseFieldDescriptor (TJ0 k).2.2.1 = some (tyJ0 k) := by decide +kernel
abbrev cJ0_length_8abf5 : ByteArray := prog_16_method_54_code
def yJ0_length_8abf5 : MethodName := ⟨RJ0, "length", "()I"⟩
abbrev cJ0_indexOf_0f7a4 : ByteArray := prog_16_method_79_code
def yJ0_indexOf_0f7a4 : MethodName := ⟨RJ0, "indexOf", "(I)I"⟩
abbrev cJ0_indexOf_7cf53 : ByteArray := prog_16_method_80_code
def yJ0_indexOf_7cf53 : MethodName := ⟨RJ0, "indexOf", "(II)I"⟩
abbrev cJ0_coder_7d493 : ByteArray := prog_16_method_152_code
def yJ0_coder_7d493 : MethodName := ⟨RJ0, "coder", "()B"⟩
abbrev cJ0_isLatin1_aae02 : ByteArray := prog_16_method_154_code
def yJ0_isLatin1_aae02 : MethodName := ⟨RJ0, "isLatin1", "()Z"⟩
abbrev cJ0_checkBoundsBeginEnd_23922 : ByteArray := prog_16_method_158_code
def yJ0_checkBoundsBeginEnd_23922 : MethodName := ⟨RJ0, "checkBoundsBeginEnd", "(III)V"⟩
def RJ1 : String := "java/lang/StringLatin1"
def TJ1 : u_T := fun k => match k with
  | _ => ("", "", "", false)
def tyJ1 : Nat → FieldType := fun k => match k with
  | _ => .int
abbrev wsJ10 : List Cond := u_ws RJ1 TJ1 0
theorem nmJ1 : ∀ a, a < 0 → ∀ b, b < 0 → a ≠ b → (TJ1 a).2.1 ≠ (TJ1 b).2.1 := by decide +kernel
theorem tyJ1_ok : ∀ k, k < 0 → parseFieldDescriptor (TJ1 k).2.2.1 = some (tyJ1 k) := by decide +kernel
abbrev cJ1_canEncode_9a6ad : ByteArray := prog_17_method_4_code
def yJ1_canEncode_9a6ad : MethodName := ⟨RJ1, "canEncode", "(I)Z"⟩
abbrev cJ1_indexOf_4cfef : ByteArray := prog_17_method_22_code
def yJ1_indexOf_4cfef : MethodName := ⟨RJ1, "indexOf", "([BIII)I"⟩
abbrev cJ1_indexOfChar_4cfef : ByteArray := prog_17_method_23_code
def yJ1_indexOfChar_4cfef : MethodName := ⟨RJ1, "indexOfChar", "([BIII)I"⟩
def RJ2 : String := "java/lang/StringUTF16"
def TJ2 : u_T := fun k => match k with
  | _ => ("", "", "", false)
def tyJ2 : Nat → FieldType := fun k => match k with
  | _ => .int
abbrev wsJ20 : List Cond := u_ws RJ2 TJ2 0
theorem nmJ2 : ∀ a, a < 0 → ∀ b, b < 0 → a ≠ b → (TJ2 a).2.1 ≠ (TJ2 b).2.1 := by decide +kernel
theorem tyJ2_ok : ∀ k, k < 0 → parseFieldDescriptor (TJ2 k).2.2.1 = some (tyJ2 k) := by decide +kernel
abbrev cJ2_getChar_3b067 : ByteArray := prog_18_method_5_code
def yJ2_getChar_3b067 : MethodName := ⟨RJ2, "getChar", "([BI)C"⟩
abbrev cJ2_length_9d52b : ByteArray := prog_18_method_6_code
def yJ2_length_9d52b : MethodName := ⟨RJ2, "length", "([B)I"⟩
abbrev cJ2_indexOf_4cfef : ByteArray := prog_18_method_40_code
def yJ2_indexOf_4cfef : MethodName := ⟨RJ2, "indexOf", "([BIII)I"⟩
abbrev cJ2_indexOfChar_4cfef : ByteArray := prog_18_method_47_code
def yJ2_indexOfChar_4cfef : MethodName := ⟨RJ2, "indexOfChar", "([BIII)I"⟩
abbrev cJ2_indexOfCharUnsafe_4cfef : ByteArray := prog_18_method_48_code
def yJ2_indexOfCharUnsafe_4cfef : MethodName := ⟨RJ2, "indexOfCharUnsafe", "([BIII)I"⟩
abbrev cJ2_indexOfSupplementary_4cfef : ByteArray := prog_18_method_49_code
def yJ2_indexOfSupplementary_4cfef : MethodName := ⟨RJ2, "indexOfSupplementary", "([BIII)I"⟩
abbrev cJ2_checkBoundsBeginEnd_d044e : ByteArray := prog_18_method_93_code
def yJ2_checkBoundsBeginEnd_d044e : MethodName := ⟨RJ2, "checkBoundsBeginEnd", "(II[B)V"⟩
def RJ10 : String := "java/lang/System"
def TJ10 : u_T := fun k => match k with
  | _ => ("", "", "", false)
def tyJ10 : Nat → FieldType := fun k => match k with
  | _ => .int
abbrev wsJ100 : List Cond := u_ws RJ10 TJ10 0
theorem nmJ10 : ∀ a, a < 0 → ∀ b, b < 0 → a ≠ b → (TJ10 a).2.1 ≠ (TJ10 b).2.1 := by decide +kernel
theorem tyJ10_ok : ∀ k, k < 0 → parseFieldDescriptor (TJ10 k).2.2.1 = some (tyJ10 k) := by decide +kernel
def RJ3 : String := "jdk/internal/util/Preconditions"
def TJ3 : u_T := fun k => match k with
  | _ => ("", "", "", false)
def tyJ3 : Nat → FieldType := fun k => match k with
  | _ => .int
abbrev wsJ30 : List Cond := u_ws RJ3 TJ3 0
theorem nmJ3 : ∀ a, a < 0 → ∀ b, b < 0 → a ≠ b → (TJ3 a).2.1 ≠ (TJ3 b).2.1 := by decide +kernel
theorem tyJ3_ok : ∀ k, k < 0 → parseFieldDescriptor (TJ3 k).2.2.1 = some (tyJ3 k) := by decide +kernel
abbrev cJ3_checkFromToIndex_8c36e : ByteArray := prog_20_method_12_code
def yJ3_checkFromToIndex_8c36e : MethodName := ⟨RJ3, "checkFromToIndex", "(IIILjava/util/function/BiFunction;)I"⟩
def RL : String := "TallerWitnessLaw"
abbrev cL_law : ByteArray := code
def yL_law : MethodName := ⟨RL, "law", "([I)Z"⟩
abbrev vwCl : List vw_C := [(RX0, TX0, 5), (RX1, TX1, 3), (RX2, TX2, 9), (RX3, TX3, 5), (RX4, TX4, 1), (RX5, TX5, 5), (RX6, TX6, 9), (RX7, TX7, 2), (RX8, TX8, 14), (RX9, TX9, 14), (RX10, TX10, 66)]
abbrev iX0_init : MethodName × ByteArray × Nat × Option FieldType := (yX0_init, cX0_init, 2, none)
abbrev iX0_search : MethodName × ByteArray × Nat × Option FieldType := (yX0_search, cX0_search, 5, (some .boolean))
abbrev iX0_chooseNext : MethodName × ByteArray × Nat × Option FieldType := (yX0_chooseNext, cX0_chooseNext, 7, none)
abbrev iX0_leastPrice : MethodName × ByteArray × Nat × Option FieldType := (yX0_leastPrice, cX0_leastPrice, 1, (some .int))
abbrev iX0_length : MethodName × ByteArray × Nat × Option FieldType := (yX0_length, cX0_length, 1, (some .int))
abbrev iX0_personAt : MethodName × ByteArray × Nat × Option FieldType := (yX0_personAt, cX0_personAt, 4, (some .int))
abbrev iX1_init : MethodName × ByteArray × Nat × Option FieldType := (yX1_init, cX1_init, 2, none)
abbrev iX1_outcomeFor : MethodName × ByteArray × Nat × Option FieldType := (yX1_outcomeFor, cX1_outcomeFor, 5, (some .int))
abbrev iX1_play : MethodName × ByteArray × Nat × Option FieldType := (yX1_play, cX1_play, 9, (some .int))
abbrev iX1_standing : MethodName × ByteArray × Nat × Option FieldType := (yX1_standing, cX1_standing, 3, (some .int))
abbrev iX2_init : MethodName × ByteArray × Nat × Option FieldType := (yX2_init, cX2_init, 1, none)
abbrev iX2_clear : MethodName × ByteArray × Nat × Option FieldType := (yX2_clear, cX2_clear, 1, none)
abbrev iX2_copyFrom : MethodName × ByteArray × Nat × Option FieldType := (yX2_copyFrom, cX2_copyFrom, 2, none)
abbrev iX2_addSign : MethodName × ByteArray × Nat × Option FieldType := (yX2_addSign, cX2_addSign, 4, (some .int))
abbrev iX2_leapToHere : MethodName × ByteArray × Nat × Option FieldType := (yX2_leapToHere, cX2_leapToHere, 2, none)
abbrev iX2_beginClause : MethodName × ByteArray × Nat × Option FieldType := (yX2_beginClause, cX2_beginClause, 2, none)
abbrev iX2_beginCondition : MethodName × ByteArray × Nat × Option FieldType := (yX2_beginCondition, cX2_beginCondition, 1, none)
abbrev iX2_endClause : MethodName × ByteArray × Nat × Option FieldType := (yX2_endClause, cX2_endClause, 1, none)
abbrev iX2_anyHolds : MethodName × ByteArray × Nat × Option FieldType := (yX2_anyHolds, cX2_anyHolds, 4, (some .boolean))
abbrev iX2_firstWorth : MethodName × ByteArray × Nat × Option FieldType := (yX2_firstWorth, cX2_firstWorth, 6, (some .int))
abbrev iX2_worth : MethodName × ByteArray × Nat × Option FieldType := (yX2_worth, cX2_worth, 9, (some .int))
abbrev iX2_isRefused : MethodName × ByteArray × Nat × Option FieldType := (yX2_isRefused, cX2_isRefused, 2, (some .boolean))
abbrev iX2_combined : MethodName × ByteArray × Nat × Option FieldType := (yX2_combined, cX2_combined, 3, (some .int))
abbrev iX3_init : MethodName × ByteArray × Nat × Option FieldType := (yX3_init, cX3_init, 3, none)
abbrev iX3_readText : MethodName × ByteArray × Nat × Option FieldType := (yX3_readText, cX3_readText, 3, (some .int))
abbrev iX3_readClause : MethodName × ByteArray × Nat × Option FieldType := (yX3_readClause, cX3_readClause, 2, none)
abbrev iX3_readChoice : MethodName × ByteArray × Nat × Option FieldType := (yX3_readChoice, cX3_readChoice, 4, none)
abbrev iX3_readPart : MethodName × ByteArray × Nat × Option FieldType := (yX3_readPart, cX3_readPart, 4, none)
abbrev iX3_readPiece : MethodName × ByteArray × Nat × Option FieldType := (yX3_readPiece, cX3_readPiece, 2, none)
abbrev iX3_readComparison : MethodName × ByteArray × Nat × Option FieldType := (yX3_readComparison, cX3_readComparison, 3, none)
abbrev iX3_readSum : MethodName × ByteArray × Nat × Option FieldType := (yX3_readSum, cX3_readSum, 4, none)
abbrev iX3_readTerm : MethodName × ByteArray × Nat × Option FieldType := (yX3_readTerm, cX3_readTerm, 4, none)
abbrev iX3_readFactor : MethodName × ByteArray × Nat × Option FieldType := (yX3_readFactor, cX3_readFactor, 2, none)
abbrev iX3_readNumber : MethodName × ByteArray × Nat × Option FieldType := (yX3_readNumber, cX3_readNumber, 3, none)
abbrev iX3_opens : MethodName × ByteArray × Nat × Option FieldType := (yX3_opens, cX3_opens, 2, none)
abbrev iX3_pass : MethodName × ByteArray × Nat × Option FieldType := (yX3_pass, cX3_pass, 2, none)
abbrev iX3_sign : MethodName × ByteArray × Nat × Option FieldType := (yX3_sign, cX3_sign, 1, (some .int))
abbrev iX3_isNext : MethodName × ByteArray × Nat × Option FieldType := (yX3_isNext, cX3_isNext, 2, (some .boolean))
abbrev iX3_fail : MethodName × ByteArray × Nat × Option FieldType := (yX3_fail, cX3_fail, 2, none)
abbrev iX4_init : MethodName × ByteArray × Nat × Option FieldType := (yX4_init, cX4_init, 1, none)
abbrev iX4_tellSwearer : MethodName × ByteArray × Nat × Option FieldType := (yX4_tellSwearer, cX4_tellSwearer, 3, none)
abbrev iX4_tellSwornTo : MethodName × ByteArray × Nat × Option FieldType := (yX4_tellSwornTo, cX4_tellSwornTo, 3, none)
abbrev iX4_tellTime : MethodName × ByteArray × Nat × Option FieldType := (yX4_tellTime, cX4_tellTime, 3, none)
abbrev iX5_init : MethodName × ByteArray × Nat × Option FieldType := (yX5_init, cX5_init, 2, none)
abbrev iX5_search : MethodName × ByteArray × Nat × Option FieldType := (yX5_search, cX5_search, 8, (some .boolean))
abbrev iX5_whoCouldSwear : MethodName × ByteArray × Nat × Option FieldType := (yX5_whoCouldSwear, cX5_whoCouldSwear, 4, (some .int))
abbrev iX5_isBetter : MethodName × ByteArray × Nat × Option FieldType := (yX5_isBetter, cX5_isBetter, 3, (some .boolean))
abbrev iX5_priceOfAll : MethodName × ByteArray × Nat × Option FieldType := (yX5_priceOfAll, cX5_priceOfAll, 6, (some .int))
abbrev iX6_init : MethodName × ByteArray × Nat × Option FieldType := (yX6_init, cX6_init, 3, none)
abbrev iX6_reckon : MethodName × ByteArray × Nat × Option FieldType := (yX6_reckon, cX6_reckon, 5, none)
abbrev iX6_reckonPrices : MethodName × ByteArray × Nat × Option FieldType := (yX6_reckonPrices, cX6_reckonPrices, 3, none)
abbrev iX6_leads : MethodName × ByteArray × Nat × Option FieldType := (yX6_leads, cX6_leads, 3, (some .boolean))
abbrev iX6_priceByLaw : MethodName × ByteArray × Nat × Option FieldType := (yX6_priceByLaw, cX6_priceByLaw, 4, (some .int))
abbrev iX6_priceOf : MethodName × ByteArray × Nat × Option FieldType := (yX6_priceOf, cX6_priceOf, 3, (some .int))
abbrev iX6_leastAsked : MethodName × ByteArray × Nat × Option FieldType := (yX6_leastAsked, cX6_leastAsked, 6, (some .int))
abbrev iX6_reachFrom : MethodName × ByteArray × Nat × Option FieldType := (yX6_reachFrom, cX6_reachFrom, 6, (some .int))
abbrev iX6_comesToTop : MethodName × ByteArray × Nat × Option FieldType := (yX6_comesToTop, cX6_comesToTop, 3, (some .boolean))
abbrev iX6_heldOaths : MethodName × ByteArray × Nat × Option FieldType := (yX6_heldOaths, cX6_heldOaths, 5, (some .int))
abbrev iX6_outlasts : MethodName × ByteArray × Nat × Option FieldType := (yX6_outlasts, cX6_outlasts, 9, (some .boolean))
abbrev iX6_withHelpers : MethodName × ByteArray × Nat × Option FieldType := (yX6_withHelpers, cX6_withHelpers, 6, (some .int))
abbrev iX6_orderUpward : MethodName × ByteArray × Nat × Option FieldType := (yX6_orderUpward, cX6_orderUpward, 4, none)
abbrev iX6_isLet : MethodName × ByteArray × Nat × Option FieldType := (yX6_isLet, cX6_isLet, 3, (some .boolean))
abbrev iX7_init : MethodName × ByteArray × Nat × Option FieldType := (yX7_init, cX7_init, 1, none)
abbrev iX7_addWord : MethodName × ByteArray × Nat × Option FieldType := (yX7_addWord, cX7_addWord, 3, none)
abbrev iX7_wordAt : MethodName × ByteArray × Nat × Option FieldType := (yX7_wordAt, cX7_wordAt, 5, (some .int))
abbrev iX8_init : MethodName × ByteArray × Nat × Option FieldType := (yX8_init, cX8_init, 1, none)
abbrev iX8_copyFrom : MethodName × ByteArray × Nat × Option FieldType := (yX8_copyFrom, cX8_copyFrom, 2, none)
abbrev iX8_addPerson : MethodName × ByteArray × Nat × Option FieldType := (yX8_addPerson, cX8_addPerson, 6, (some .int))
abbrev iX8_addOath : MethodName × ByteArray × Nat × Option FieldType := (yX8_addOath, cX8_addOath, 3, (some .int))
abbrev iX8_isPerson : MethodName × ByteArray × Nat × Option FieldType := (yX8_isPerson, cX8_isPerson, 2, (some .boolean))
abbrev iX8_isOath : MethodName × ByteArray × Nat × Option FieldType := (yX8_isOath, cX8_isOath, 2, (some .boolean))
abbrev iX8_lives : MethodName × ByteArray × Nat × Option FieldType := (yX8_lives, cX8_lives, 2, (some .boolean))
abbrev iX8_heightOf : MethodName × ByteArray × Nat × Option FieldType := (yX8_heightOf, cX8_heightOf, 4, (some .int))
abbrev iX8_tallestOne : MethodName × ByteArray × Nat × Option FieldType := (yX8_tallestOne, cX8_tallestOne, 4, (some .int))
abbrev iX8_nextDraw : MethodName × ByteArray × Nat × Option FieldType := (yX8_nextDraw, cX8_nextDraw, 1, (some .int))
abbrev iX8_passYear : MethodName × ByteArray × Nat × Option FieldType := (yX8_passYear, cX8_passYear, 4, (some .int))
abbrev iX8_growOlder : MethodName × ByteArray × Nat × Option FieldType := (yX8_growOlder, cX8_growOlder, 2, none)
abbrev iX8_growTaller : MethodName × ByteArray × Nat × Option FieldType := (yX8_growTaller, cX8_growTaller, 4, none)
abbrev iX8_whoDies : MethodName × ByteArray × Nat × Option FieldType := (yX8_whoDies, cX8_whoDies, 4, (some .int))
abbrev iX9_init : MethodName × ByteArray × Nat × Option FieldType := (yX9_init, cX9_init, 2, none)
abbrev iX9_person : MethodName × ByteArray × Nat × Option FieldType := (yX9_person, cX9_person, 6, (some .int))
abbrev iX9_heels : MethodName × ByteArray × Nat × Option FieldType := (yX9_heels, cX9_heels, 3, (some .boolean))
abbrev iX9_dies : MethodName × ByteArray × Nat × Option FieldType := (yX9_dies, cX9_dies, 2, (some .boolean))
abbrev iX9_feed : MethodName × ByteArray × Nat × Option FieldType := (yX9_feed, cX9_feed, 6, (some .int))
abbrev iX9_law : MethodName × ByteArray × Nat × Option FieldType := (yX9_law, cX9_law, 4, (some .int))
abbrev iX9_tall : MethodName × ByteArray × Nat × Option FieldType := (yX9_tall, cX9_tall, 2, (some .int))
abbrev iX9_top : MethodName × ByteArray × Nat × Option FieldType := (yX9_top, cX9_top, 1, (some .int))
abbrev iX9_step : MethodName × ByteArray × Nat × Option FieldType := (yX9_step, cX9_step, 3, (some .int))
abbrev iX9_oath : MethodName × ByteArray × Nat × Option FieldType := (yX9_oath, cX9_oath, 3, (some .int))
abbrev iX9_swear : MethodName × ByteArray × Nat × Option FieldType := (yX9_swear, cX9_swear, 4, (some .int))
abbrev iX9_holds : MethodName × ByteArray × Nat × Option FieldType := (yX9_holds, cX9_holds, 2, (some .int))
abbrev iX9_year : MethodName × ByteArray × Nat × Option FieldType := (yX9_year, cX9_year, 2, (some .int))
abbrev iX9_years : MethodName × ByteArray × Nat × Option FieldType := (yX9_years, cX9_years, 2, (some .int))
abbrev iX9_tried : MethodName × ByteArray × Nat × Option FieldType := (yX9_tried, cX9_tried, 4, (some .int))
abbrev iX9_chain : MethodName × ByteArray × Nat × Option FieldType := (yX9_chain, cX9_chain, 3, (some .int))
abbrev iX9_safe : MethodName × ByteArray × Nat × Option FieldType := (yX9_safe, cX9_safe, 4, (some .int))
abbrev iX9_cut : MethodName × ByteArray × Nat × Option FieldType := (yX9_cut, cX9_cut, 2, (some .int))
abbrev iX9_soonest : MethodName × ByteArray × Nat × Option FieldType := (yX9_soonest, cX9_soonest, 3, (some .int))
abbrev iX9_against : MethodName × ByteArray × Nat × Option FieldType := (yX9_against, cX9_against, 7, (some .int))
abbrev iX9_whom : MethodName × ByteArray × Nat × Option FieldType := (yX9_whom, cX9_whom, 11, (some .int))
abbrev iX9_sure : MethodName × ByteArray × Nat × Option FieldType := (yX9_sure, cX9_sure, 2, (some .int))
abbrev iX9_found : MethodName × ByteArray × Nat × Option FieldType := (yX9_found, cX9_found, 3, (some .int))
abbrev iX9_least : MethodName × ByteArray × Nat × Option FieldType := (yX9_least, cX9_least, 5, (some .int))
abbrev iX9_sideBySide : MethodName × ByteArray × Nat × Option FieldType := (yX9_sideBySide, cX9_sideBySide, 4, (some .int))
abbrev iX9_seed : MethodName × ByteArray × Nat × Option FieldType := (yX9_seed, cX9_seed, 2, (some .boolean))
abbrev iX9_keep : MethodName × ByteArray × Nat × Option FieldType := (yX9_keep, cX9_keep, 1, (some .int))
abbrev iX9_undo : MethodName × ByteArray × Nat × Option FieldType := (yX9_undo, cX9_undo, 1, (some .boolean))
abbrev iX9_check : MethodName × ByteArray × Nat × Option FieldType := (yX9_check, cX9_check, 3, (some .int))
abbrev iX9_count : MethodName × ByteArray × Nat × Option FieldType := (yX9_count, cX9_count, 2, (some .int))
abbrev iX9_countWhole : MethodName × ByteArray × Nat × Option FieldType := (yX9_countWhole, cX9_countWhole, 2, (some .int))
abbrev iX9_runYears : MethodName × ByteArray × Nat × Option FieldType := (yX9_runYears, cX9_runYears, 5, (some .int))
abbrev iX9_heldBy : MethodName × ByteArray × Nat × Option FieldType := (yX9_heldBy, cX9_heldBy, 3, (some .int))
abbrev iX9_explainsAll : MethodName × ByteArray × Nat × Option FieldType := (yX9_explainsAll, cX9_explainsAll, 3, (some .boolean))
abbrev iX9_within : MethodName × ByteArray × Nat × Option FieldType := (yX9_within, cX9_within, 3, (some .boolean))
abbrev iX9_has : MethodName × ByteArray × Nat × Option FieldType := (yX9_has, cX9_has, 2, (some .boolean))
abbrev iX9_nextSubset : MethodName × ByteArray × Nat × Option FieldType := (yX9_nextSubset, cX9_nextSubset, 2, (some .int))
abbrev iX10_init : MethodName × ByteArray × Nat × Option FieldType := (yX10_init, cX10_init, 1, none)
abbrev iX10_in : MethodName × ByteArray × Nat × Option FieldType := (yX10_in, cX10_in, 3, (some .boolean))
abbrev iX10_min : MethodName × ByteArray × Nat × Option FieldType := (yX10_min, cX10_min, 2, (some .int))
abbrev iX10_has : MethodName × ByteArray × Nat × Option FieldType := (yX10_has, cX10_has, 2, (some .boolean))
abbrev iX10_bits : MethodName × ByteArray × Nat × Option FieldType := (yX10_bits, cX10_bits, 3, (some .int))
abbrev iX10_isPerson : MethodName × ByteArray × Nat × Option FieldType := (yX10_isPerson, cX10_isPerson, 2, (some .boolean))
abbrev iX10_lives : MethodName × ByteArray × Nat × Option FieldType := (yX10_lives, cX10_lives, 2, (some .boolean))
abbrev iX10_person : MethodName × ByteArray × Nat × Option FieldType := (yX10_person, cX10_person, 5, (some .int))
abbrev iX10_heels : MethodName × ByteArray × Nat × Option FieldType := (yX10_heels, cX10_heels, 3, (some .boolean))
abbrev iX10_dies : MethodName × ByteArray × Nat × Option FieldType := (yX10_dies, cX10_dies, 2, (some .boolean))
abbrev iX10_tallOf : MethodName × ByteArray × Nat × Option FieldType := (yX10_tallOf, cX10_tallOf, 3, (some .int))
abbrev iX10_tall : MethodName × ByteArray × Nat × Option FieldType := (yX10_tall, cX10_tall, 2, (some .int))
abbrev iX10_topOf : MethodName × ByteArray × Nat × Option FieldType := (yX10_topOf, cX10_topOf, 3, (some .int))
abbrev iX10_top : MethodName × ByteArray × Nat × Option FieldType := (yX10_top, cX10_top, 1, (some .int))
abbrev iX10_types : MethodName × ByteArray × Nat × Option FieldType := (yX10_types, cX10_types, 3, none)
abbrev iX10_feed : MethodName × ByteArray × Nat × Option FieldType := (yX10_feed, cX10_feed, 6, (some .int))
abbrev iX10_here : MethodName × ByteArray × Nat × Option FieldType := (yX10_here, cX10_here, 1, (some .int))
abbrev iX10_isDigit : MethodName × ByteArray × Nat × Option FieldType := (yX10_isDigit, cX10_isDigit, 1, (some .boolean))
abbrev iX10_wrongAt : MethodName × ByteArray × Nat × Option FieldType := (yX10_wrongAt, cX10_wrongAt, 3, (some .boolean))
abbrev iX10_takes : MethodName × ByteArray × Nat × Option FieldType := (yX10_takes, cX10_takes, 2, (some .boolean))
abbrev iX10_readsNumber : MethodName × ByteArray × Nat × Option FieldType := (yX10_readsNumber, cX10_readsNumber, 2, (some .boolean))
abbrev iX10_notes : MethodName × ByteArray × Nat × Option FieldType := (yX10_notes, cX10_notes, 3, none)
abbrev iX10_opens : MethodName × ByteArray × Nat × Option FieldType := (yX10_opens, cX10_opens, 2, (some .boolean))
abbrev iX10_waitTop : MethodName × ByteArray × Nat × Option FieldType := (yX10_waitTop, cX10_waitTop, 1, (some .int))
abbrev iX10_factOf : MethodName × ByteArray × Nat × Option FieldType := (yX10_factOf, cX10_factOf, 1, (some .int))
abbrev iX10_sumSign : MethodName × ByteArray × Nat × Option FieldType := (yX10_sumSign, cX10_sumSign, 1, (some .int))
abbrev iX10_closesSums : MethodName × ByteArray × Nat × Option FieldType := (yX10_closesSums, cX10_closesSums, 2, none)
abbrev iX10_readsFactor : MethodName × ByteArray × Nat × Option FieldType := (yX10_readsFactor, cX10_readsFactor, 2, (some .boolean))
abbrev iX10_hasOpenSum : MethodName × ByteArray × Nat × Option FieldType := (yX10_hasOpenSum, cX10_hasOpenSum, 3, (some .boolean))
abbrev iX10_readsSum : MethodName × ByteArray × Nat × Option FieldType := (yX10_readsSum, cX10_readsSum, 3, (some .boolean))
abbrev iX10_endsPiece : MethodName × ByteArray × Nat × Option FieldType := (yX10_endsPiece, cX10_endsPiece, 1, none)
abbrev iX10_lands : MethodName × ByteArray × Nat × Option FieldType := (yX10_lands, cX10_lands, 3, none)
abbrev iX10_jumps : MethodName × ByteArray × Nat × Option FieldType := (yX10_jumps, cX10_jumps, 2, none)
abbrev iX10_readsCompared : MethodName × ByteArray × Nat × Option FieldType := (yX10_readsCompared, cX10_readsCompared, 2, (some .boolean))
abbrev iX10_readsCondition : MethodName × ByteArray × Nat × Option FieldType := (yX10_readsCondition, cX10_readsCondition, 1, (some .boolean))
abbrev iX10_readsClause : MethodName × ByteArray × Nat × Option FieldType := (yX10_readsClause, cX10_readsClause, 2, (some .boolean))
abbrev iX10_law : MethodName × ByteArray × Nat × Option FieldType := (yX10_law, cX10_law, 5, (some .int))
abbrev iX10_reckon : MethodName × ByteArray × Nat × Option FieldType := (yX10_reckon, cX10_reckon, 3, (some .int))
abbrev iX10_comesTo : MethodName × ByteArray × Nat × Option FieldType := (yX10_comesTo, cX10_comesTo, 8, (some .int))
abbrev iX10_byLaw : MethodName × ByteArray × Nat × Option FieldType := (yX10_byLaw, cX10_byLaw, 6, (some .int))
abbrev iX10_anyBy : MethodName × ByteArray × Nat × Option FieldType := (yX10_anyBy, cX10_anyBy, 4, (some .boolean))
abbrev iX10_feels : MethodName × ByteArray × Nat × Option FieldType := (yX10_feels, cX10_feels, 3, none)
abbrev iX10_stepBy : MethodName × ByteArray × Nat × Option FieldType := (yX10_stepBy, cX10_stepBy, 4, (some .int))
abbrev iX10_laysSteps : MethodName × ByteArray × Nat × Option FieldType := (yX10_laysSteps, cX10_laysSteps, 4, none)
abbrev iX10_isStep : MethodName × ByteArray × Nat × Option FieldType := (yX10_isStep, cX10_isStep, 3, (some .boolean))
abbrev iX10_step : MethodName × ByteArray × Nat × Option FieldType := (yX10_step, cX10_step, 4, (some .int))
abbrev iX10_isOath : MethodName × ByteArray × Nat × Option FieldType := (yX10_isOath, cX10_isOath, 2, (some .boolean))
abbrev iX10_oath : MethodName × ByteArray × Nat × Option FieldType := (yX10_oath, cX10_oath, 3, (some .int))
abbrev iX10_leastBy : MethodName × ByteArray × Nat × Option FieldType := (yX10_leastBy, cX10_leastBy, 5, (some .int))
abbrev iX10_swear : MethodName × ByteArray × Nat × Option FieldType := (yX10_swear, cX10_swear, 4, (some .int))
abbrev iX10_reach : MethodName × ByteArray × Nat × Option FieldType := (yX10_reach, cX10_reach, 7, (some .int))
abbrev iX10_holdsBy : MethodName × ByteArray × Nat × Option FieldType := (yX10_holdsBy, cX10_holdsBy, 3, (some .boolean))
abbrev iX10_holdsNow : MethodName × ByteArray × Nat × Option FieldType := (yX10_holdsNow, cX10_holdsNow, 2, (some .boolean))
abbrev iX10_holds : MethodName × ByteArray × Nat × Option FieldType := (yX10_holds, cX10_holds, 2, (some .int))
abbrev iX10_holding : MethodName × ByteArray × Nat × Option FieldType := (yX10_holding, cX10_holding, 4, (some .int))
abbrev iX10_passes : MethodName × ByteArray × Nat × Option FieldType := (yX10_passes, cX10_passes, 4, (some .int))
abbrev iX10_draws : MethodName × ByteArray × Nat × Option FieldType := (yX10_draws, cX10_draws, 1, (some .int))
abbrev iX10_runs : MethodName × ByteArray × Nat × Option FieldType := (yX10_runs, cX10_runs, 4, (some .int))
abbrev iX10_areYears : MethodName × ByteArray × Nat × Option FieldType := (yX10_areYears, cX10_areYears, 1, (some .boolean))
abbrev iX10_year : MethodName × ByteArray × Nat × Option FieldType := (yX10_year, cX10_year, 2, (some .int))
abbrev iX10_years : MethodName × ByteArray × Nat × Option FieldType := (yX10_years, cX10_years, 2, (some .int))
abbrev iX10_copies : MethodName × ByteArray × Nat × Option FieldType := (yX10_copies, cX10_copies, 4, none)
abbrev iX10_begins : MethodName × ByteArray × Nat × Option FieldType := (yX10_begins, cX10_begins, 1, none)
abbrev iX10_again : MethodName × ByteArray × Nat × Option FieldType := (yX10_again, cX10_again, 1, none)
abbrev iX10_tried : MethodName × ByteArray × Nat × Option FieldType := (yX10_tried, cX10_tried, 4, (some .int))
abbrev iX10_askedBy : MethodName × ByteArray × Nat × Option FieldType := (yX10_askedBy, cX10_askedBy, 4, (some .int))
abbrev iX10_wayBy : MethodName × ByteArray × Nat × Option FieldType := (yX10_wayBy, cX10_wayBy, 4, (some .int))
abbrev iX10_laysWays : MethodName × ByteArray × Nat × Option FieldType := (yX10_laysWays, cX10_laysWays, 6, none)
abbrev iX10_chain : MethodName × ByteArray × Nat × Option FieldType := (yX10_chain, cX10_chain, 7, (some .int))
abbrev iX10_isSafe : MethodName × ByteArray × Nat × Option FieldType := (yX10_isSafe, cX10_isSafe, 9, (some .boolean))
abbrev iX10_pricesOf : MethodName × ByteArray × Nat × Option FieldType := (yX10_pricesOf, cX10_pricesOf, 6, (some .int))
abbrev iX10_safe : MethodName × ByteArray × Nat × Option FieldType := (yX10_safe, cX10_safe, 9, (some .int))
abbrev iX10_cut : MethodName × ByteArray × Nat × Option FieldType := (yX10_cut, cX10_cut, 3, (some .int))
abbrev iX10_soonest : MethodName × ByteArray × Nat × Option FieldType := (yX10_soonest, cX10_soonest, 4, (some .int))
abbrev iX10_canChoose : MethodName × ByteArray × Nat × Option FieldType := (yX10_canChoose, cX10_canChoose, 3, (some .boolean))
abbrev iX10_tells : MethodName × ByteArray × Nat × Option FieldType := (yX10_tells, cX10_tells, 4, none)
abbrev iX10_endsAs : MethodName × ByteArray × Nat × Option FieldType := (yX10_endsAs, cX10_endsAs, 4, (some .int))
abbrev iX10_plays : MethodName × ByteArray × Nat × Option FieldType := (yX10_plays, cX10_plays, 5, none)
abbrev iX10_against : MethodName × ByteArray × Nat × Option FieldType := (yX10_against, cX10_against, 5, (some .int))
abbrev iX10_joined : MethodName × ByteArray × Nat × Option FieldType := (yX10_joined, cX10_joined, 6, (some .int))
abbrev iX10_heldBy : MethodName × ByteArray × Nat × Option FieldType := (yX10_heldBy, cX10_heldBy, 4, (some .int))
abbrev iX10_whom : MethodName × ByteArray × Nat × Option FieldType := (yX10_whom, cX10_whom, 8, (some .int))
abbrev iX10_sure : MethodName × ByteArray × Nat × Option FieldType := (yX10_sure, cX10_sure, 2, (some .int))
abbrev iX10_found : MethodName × ByteArray × Nat × Option FieldType := (yX10_found, cX10_found, 2, (some .int))
abbrev iX10_explains : MethodName × ByteArray × Nat × Option FieldType := (yX10_explains, cX10_explains, 3, (some .boolean))
abbrev iX10_least : MethodName × ByteArray × Nat × Option FieldType := (yX10_least, cX10_least, 3, (some .int))
abbrev iX10_sideBySide : MethodName × ByteArray × Nat × Option FieldType := (yX10_sideBySide, cX10_sideBySide, 3, (some .int))
abbrev iX10_seed : MethodName × ByteArray × Nat × Option FieldType := (yX10_seed, cX10_seed, 2, (some .boolean))
abbrev iX10_keep : MethodName × ByteArray × Nat × Option FieldType := (yX10_keep, cX10_keep, 1, (some .int))
abbrev iX10_undo : MethodName × ByteArray × Nat × Option FieldType := (yX10_undo, cX10_undo, 1, (some .boolean))
abbrev iX10_tapeNumber : MethodName × ByteArray × Nat × Option FieldType := (yX10_tapeNumber, cX10_tapeNumber, 4, (some .int))
abbrev iX10_check : MethodName × ByteArray × Nat × Option FieldType := (yX10_check, cX10_check, 3, (some .int))
abbrev iX10_count : MethodName × ByteArray × Nat × Option FieldType := (yX10_count, cX10_count, 2, (some .int))
abbrev iJ11_isValidCodePoint_9a6ad : MethodName × ByteArray × Nat × Option FieldType := (yJ11_isValidCodePoint_9a6ad, cJ11_isValidCodePoint_9a6ad, 2, (some .boolean))
abbrev iJ11_highSurrogate_5068e : MethodName × ByteArray × Nat × Option FieldType := (yJ11_highSurrogate_5068e, cJ11_highSurrogate_5068e, 1, (some .char))
abbrev iJ11_lowSurrogate_5068e : MethodName × ByteArray × Nat × Option FieldType := (yJ11_lowSurrogate_5068e, cJ11_lowSurrogate_5068e, 1, (some .char))
abbrev iJ6_bitCount_0f7a4 : MethodName × ByteArray × Nat × Option FieldType := (yJ6_bitCount_0f7a4, cJ6_bitCount_0f7a4, 1, (some .int))
abbrev iJ9_max_7cf53 : MethodName × ByteArray × Nat × Option FieldType := (yJ9_max_7cf53, cJ9_max_7cf53, 2, (some .int))
abbrev iJ9_min_7cf53 : MethodName × ByteArray × Nat × Option FieldType := (yJ9_min_7cf53, cJ9_min_7cf53, 2, (some .int))
abbrev iJ0_length_8abf5 : MethodName × ByteArray × Nat × Option FieldType := (yJ0_length_8abf5, cJ0_length_8abf5, 1, (some .int))
abbrev iJ0_indexOf_0f7a4 : MethodName × ByteArray × Nat × Option FieldType := (yJ0_indexOf_0f7a4, cJ0_indexOf_0f7a4, 2, (some .int))
abbrev iJ0_indexOf_7cf53 : MethodName × ByteArray × Nat × Option FieldType := (yJ0_indexOf_7cf53, cJ0_indexOf_7cf53, 3, (some .int))
abbrev iJ0_coder_7d493 : MethodName × ByteArray × Nat × Option FieldType := (yJ0_coder_7d493, cJ0_coder_7d493, 1, (some .byte))
abbrev iJ0_isLatin1_aae02 : MethodName × ByteArray × Nat × Option FieldType := (yJ0_isLatin1_aae02, cJ0_isLatin1_aae02, 1, (some .boolean))
abbrev iJ0_checkBoundsBeginEnd_23922 : MethodName × ByteArray × Nat × Option FieldType := (yJ0_checkBoundsBeginEnd_23922, cJ0_checkBoundsBeginEnd_23922, 3, none)
abbrev iJ1_canEncode_9a6ad : MethodName × ByteArray × Nat × Option FieldType := (yJ1_canEncode_9a6ad, cJ1_canEncode_9a6ad, 1, (some .boolean))
abbrev iJ1_indexOf_4cfef : MethodName × ByteArray × Nat × Option FieldType := (yJ1_indexOf_4cfef, cJ1_indexOf_4cfef, 4, (some .int))
abbrev iJ1_indexOfChar_4cfef : MethodName × ByteArray × Nat × Option FieldType := (yJ1_indexOfChar_4cfef, cJ1_indexOfChar_4cfef, 6, (some .int))
abbrev iJ2_getChar_3b067 : MethodName × ByteArray × Nat × Option FieldType := (yJ2_getChar_3b067, cJ2_getChar_3b067, 2, (some .char))
abbrev iJ2_length_9d52b : MethodName × ByteArray × Nat × Option FieldType := (yJ2_length_9d52b, cJ2_length_9d52b, 1, (some .int))
abbrev iJ2_indexOf_4cfef : MethodName × ByteArray × Nat × Option FieldType := (yJ2_indexOf_4cfef, cJ2_indexOf_4cfef, 4, (some .int))
abbrev iJ2_indexOfChar_4cfef : MethodName × ByteArray × Nat × Option FieldType := (yJ2_indexOfChar_4cfef, cJ2_indexOfChar_4cfef, 4, (some .int))
abbrev iJ2_indexOfCharUnsafe_4cfef : MethodName × ByteArray × Nat × Option FieldType := (yJ2_indexOfCharUnsafe_4cfef, cJ2_indexOfCharUnsafe_4cfef, 5, (some .int))
abbrev iJ2_indexOfSupplementary_4cfef : MethodName × ByteArray × Nat × Option FieldType := (yJ2_indexOfSupplementary_4cfef, cJ2_indexOfSupplementary_4cfef, 7, (some .int))
abbrev iJ2_checkBoundsBeginEnd_d044e : MethodName × ByteArray × Nat × Option FieldType := (yJ2_checkBoundsBeginEnd_d044e, cJ2_checkBoundsBeginEnd_d044e, 3, none)
abbrev iJ3_checkFromToIndex_8c36e : MethodName × ByteArray × Nat × Option FieldType := (yJ3_checkFromToIndex_8c36e, cJ3_checkFromToIndex_8c36e, 4, (some .int))
abbrev Mem : Type := Nat → Nat → Int32
/-- a field of an object: a cell that never changes, an int, or a cell by its number -/
abbrev SD : Type := Nat ⊕ Bool
abbrev MI : Type := MethodName × ByteArray × Nat × Option FieldType
abbrev CD : Type := (Nat × List SD) ⊕ ((Bool × Nat) ⊕ List Nat)
/-- the cells of the two objects, by numbers: what each is -/
def cellL : List CD := [.inl (9, [.inl 1, .inl 12, .inl 23, .inl 34, .inl 36, .inl 53, .inl 61, .inl 62, .inl 69, .inl 73, .inl 74, .inl 76, .inr false, .inr false]),
  .inl (8, [.inl 2, .inl 3, .inl 4, .inl 5, .inl 6, .inl 7, .inl 8, .inr false, .inr false, .inr false, .inr false, .inr false, .inl 9, .inl 10]),
  .inr (.inl (false, 16)),
  .inr (.inl (false, 16)),
  .inr (.inl (false, 16)),
  .inr (.inl (false, 16)),
  .inr (.inl (false, 16)),
  .inr (.inl (false, 12)),
  .inr (.inl (false, 12)),
  .inr (.inl (false, 16)),
  .inl (4, [.inl 11]),
  .inr (.inl (false, 12)),
  .inl (8, [.inl 13, .inl 14, .inl 15, .inl 16, .inl 17, .inl 18, .inl 19, .inr false, .inr false, .inr false, .inr false, .inr false, .inl 20, .inl 21]),
  .inr (.inl (false, 16)),
  .inr (.inl (false, 16)),
  .inr (.inl (false, 16)),
  .inr (.inl (false, 16)),
  .inr (.inl (false, 16)),
  .inr (.inl (false, 12)),
  .inr (.inl (false, 12)),
  .inr (.inl (false, 16)),
  .inl (4, [.inl 22]),
  .inr (.inl (false, 12)),
  .inl (8, [.inl 24, .inl 25, .inl 26, .inl 27, .inl 28, .inl 29, .inl 30, .inr false, .inr false, .inr false, .inr false, .inr false, .inl 31, .inl 32]),
  .inr (.inl (false, 16)),
  .inr (.inl (false, 16)),
  .inr (.inl (false, 16)),
  .inr (.inl (false, 16)),
  .inr (.inl (false, 16)),
  .inr (.inl (false, 12)),
  .inr (.inl (false, 12)),
  .inr (.inl (false, 16)),
  .inl (4, [.inl 33]),
  .inr (.inl (false, 12)),
  .inl (7, [.inl 35, .inr false]),
  .inr (.inl (false, 200)),
  .inr (.inr [37, 45]),
  .inl (2, [.inr false, .inr false, .inl 38, .inl 39, .inl 40, .inl 41, .inl 42, .inl 43, .inl 44]),
  .inr (.inl (false, 160)),
  .inr (.inl (false, 160)),
  .inr (.inl (false, 12)),
  .inr (.inl (false, 12)),
  .inr (.inl (false, 12)),
  .inr (.inl (false, 12)),
  .inr (.inl (false, 32)),
  .inl (2, [.inr false, .inr false, .inl 46, .inl 47, .inl 48, .inl 49, .inl 50, .inl 51, .inl 52]),
  .inr (.inl (false, 160)),
  .inr (.inl (false, 160)),
  .inr (.inl (false, 12)),
  .inr (.inl (false, 12)),
  .inr (.inl (false, 12)),
  .inr (.inl (false, 12)),
  .inr (.inl (false, 32)),
  .inl (2, [.inr false, .inr false, .inl 54, .inl 55, .inl 56, .inl 57, .inl 58, .inl 59, .inl 60]),
  .inr (.inl (false, 160)),
  .inr (.inl (false, 160)),
  .inr (.inl (false, 12)),
  .inr (.inl (false, 12)),
  .inr (.inl (false, 12)),
  .inr (.inl (false, 12)),
  .inr (.inl (false, 32)),
  .inl (3, [.inl 34, .inl 53, .inr false, .inr false, .inr false]),
  .inl (6, [.inl 63, .inl 64, .inl 65, .inl 66, .inl 67, .inr true, .inr true, .inr false, .inr false]),
  .inr (.inl (false, 16)),
  .inr (.inl (false, 16)),
  .inr (.inl (false, 16)),
  .inr (.inl (false, 256)),
  .inl (4, [.inl 68]),
  .inr (.inl (false, 12)),
  .inl (0, [.inl 62, .inl 70, .inl 71, .inl 72, .inr false]),
  .inr (.inl (false, 16)),
  .inr (.inl (false, 16)),
  .inr (.inl (false, 16)),
  .inl (5, [.inl 62, .inr false, .inr false, .inr false, .inr false]),
  .inl (1, [.inl 62, .inl 75, .inr false]),
  .inr (.inl (false, 2)),
  .inr (.inl (false, 12)),
  .inl (10, [.inr false, .inr false, .inr false, .inr false, .inl 78, .inl 79, .inl 80, .inl 81, .inl 82, .inl 83, .inr false, .inr false, .inr false, .inr false, .inr false, .inr false, .inr false, .inr false, .inr false, .inl 84, .inl 85, .inl 86, .inl 87, .inl 88, .inl 89, .inl 90, .inl 91, .inl 92, .inl 93, .inl 94, .inl 95, .inl 96, .inl 97, .inl 98, .inr false, .inl 99, .inl 100, .inl 101, .inl 102, .inr false, .inr false, .inr false, .inl 103, .inl 104, .inl 105, .inl 106, .inl 107, .inl 108, .inl 109, .inr false, .inr false, .inl 110, .inr false, .inr false, .inr false, .inr false, .inr false, .inr false, .inl 111, .inl 112, .inl 113, .inl 114, .inl 115, .inl 116, .inl 117, .inl 118]),
  .inr (.inl (false, 16)),
  .inr (.inl (false, 16)),
  .inr (.inl (false, 16)),
  .inr (.inl (false, 16)),
  .inr (.inl (false, 16)),
  .inr (.inl (true, 200)),
  .inr (.inl (false, 180)),
  .inr (.inl (false, 180)),
  .inr (.inl (false, 12)),
  .inr (.inl (false, 12)),
  .inr (.inl (false, 12)),
  .inr (.inl (false, 12)),
  .inr (.inl (false, 360)),
  .inr (.inl (false, 2)),
  .inr (.inl (false, 24)),
  .inr (.inl (false, 24)),
  .inr (.inl (false, 24)),
  .inr (.inl (false, 24)),
  .inr (.inl (false, 180)),
  .inr (.inl (false, 12)),
  .inr (.inl (false, 256)),
  .inr (.inl (false, 12)),
  .inr (.inl (false, 12)),
  .inr (.inl (false, 12)),
  .inr (.inl (false, 16)),
  .inr (.inl (false, 16)),
  .inr (.inl (false, 16)),
  .inr (.inl (false, 16)),
  .inr (.inl (false, 5)),
  .inr (.inl (false, 5)),
  .inr (.inl (false, 5)),
  .inr (.inl (false, 5)),
  .inr (.inl (false, 12)),
  .inr (.inl (false, 16)),
  .inr (.inl (false, 16)),
  .inr (.inl (false, 16)),
  .inr (.inl (false, 16)),
  .inr (.inl (false, 16)),
  .inr (.inl (false, 12)),
  .inr (.inl (false, 12)),
  .inr (.inl (false, 12))]
def K0 : Nat := 119
def cellD (k : Nat) : CD := cellL.getD k (.inr (.inr []))
theorem ce_0 : cellD 0 = .inl (9, [.inl 1, .inl 12, .inl 23, .inl 34, .inl 36, .inl 53, .inl 61, .inl 62, .inl 69, .inl 73, .inl 74, .inl 76, .inr false, .inr false]) := rfl
theorem ce_1 : cellD 1 = .inl (8, [.inl 2, .inl 3, .inl 4, .inl 5, .inl 6, .inl 7, .inl 8, .inr false, .inr false, .inr false, .inr false, .inr false, .inl 9, .inl 10]) := rfl
theorem ce_2 : cellD 2 = .inr (.inl (false, 16)) := rfl
theorem ce_3 : cellD 3 = .inr (.inl (false, 16)) := rfl
theorem ce_4 : cellD 4 = .inr (.inl (false, 16)) := rfl
theorem ce_5 : cellD 5 = .inr (.inl (false, 16)) := rfl
theorem ce_6 : cellD 6 = .inr (.inl (false, 16)) := rfl
theorem ce_7 : cellD 7 = .inr (.inl (false, 12)) := rfl
theorem ce_8 : cellD 8 = .inr (.inl (false, 12)) := rfl
theorem ce_9 : cellD 9 = .inr (.inl (false, 16)) := rfl
theorem ce_10 : cellD 10 = .inl (4, [.inl 11]) := rfl
theorem ce_11 : cellD 11 = .inr (.inl (false, 12)) := rfl
theorem ce_12 : cellD 12 = .inl (8, [.inl 13, .inl 14, .inl 15, .inl 16, .inl 17, .inl 18, .inl 19, .inr false, .inr false, .inr false, .inr false, .inr false, .inl 20, .inl 21]) := rfl
theorem ce_13 : cellD 13 = .inr (.inl (false, 16)) := rfl
theorem ce_14 : cellD 14 = .inr (.inl (false, 16)) := rfl
theorem ce_15 : cellD 15 = .inr (.inl (false, 16)) := rfl
theorem ce_16 : cellD 16 = .inr (.inl (false, 16)) := rfl
theorem ce_17 : cellD 17 = .inr (.inl (false, 16)) := rfl
theorem ce_18 : cellD 18 = .inr (.inl (false, 12)) := rfl
theorem ce_19 : cellD 19 = .inr (.inl (false, 12)) := rfl
theorem ce_20 : cellD 20 = .inr (.inl (false, 16)) := rfl
theorem ce_21 : cellD 21 = .inl (4, [.inl 22]) := rfl
theorem ce_22 : cellD 22 = .inr (.inl (false, 12)) := rfl
theorem ce_23 : cellD 23 = .inl (8, [.inl 24, .inl 25, .inl 26, .inl 27, .inl 28, .inl 29, .inl 30, .inr false, .inr false, .inr false, .inr false, .inr false, .inl 31, .inl 32]) := rfl
theorem ce_24 : cellD 24 = .inr (.inl (false, 16)) := rfl
theorem ce_25 : cellD 25 = .inr (.inl (false, 16)) := rfl
theorem ce_26 : cellD 26 = .inr (.inl (false, 16)) := rfl
theorem ce_27 : cellD 27 = .inr (.inl (false, 16)) := rfl
theorem ce_28 : cellD 28 = .inr (.inl (false, 16)) := rfl
theorem ce_29 : cellD 29 = .inr (.inl (false, 12)) := rfl
theorem ce_30 : cellD 30 = .inr (.inl (false, 12)) := rfl
theorem ce_31 : cellD 31 = .inr (.inl (false, 16)) := rfl
theorem ce_32 : cellD 32 = .inl (4, [.inl 33]) := rfl
theorem ce_33 : cellD 33 = .inr (.inl (false, 12)) := rfl
theorem ce_34 : cellD 34 = .inl (7, [.inl 35, .inr false]) := rfl
theorem ce_35 : cellD 35 = .inr (.inl (false, 200)) := rfl
theorem ce_36 : cellD 36 = .inr (.inr [37, 45]) := rfl
theorem ce_37 : cellD 37 = .inl (2, [.inr false, .inr false, .inl 38, .inl 39, .inl 40, .inl 41, .inl 42, .inl 43, .inl 44]) := rfl
theorem ce_38 : cellD 38 = .inr (.inl (false, 160)) := rfl
theorem ce_39 : cellD 39 = .inr (.inl (false, 160)) := rfl
theorem ce_40 : cellD 40 = .inr (.inl (false, 12)) := rfl
theorem ce_41 : cellD 41 = .inr (.inl (false, 12)) := rfl
theorem ce_42 : cellD 42 = .inr (.inl (false, 12)) := rfl
theorem ce_43 : cellD 43 = .inr (.inl (false, 12)) := rfl
theorem ce_44 : cellD 44 = .inr (.inl (false, 32)) := rfl
theorem ce_45 : cellD 45 = .inl (2, [.inr false, .inr false, .inl 46, .inl 47, .inl 48, .inl 49, .inl 50, .inl 51, .inl 52]) := rfl
theorem ce_46 : cellD 46 = .inr (.inl (false, 160)) := rfl
theorem ce_47 : cellD 47 = .inr (.inl (false, 160)) := rfl
theorem ce_48 : cellD 48 = .inr (.inl (false, 12)) := rfl
theorem ce_49 : cellD 49 = .inr (.inl (false, 12)) := rfl
theorem ce_50 : cellD 50 = .inr (.inl (false, 12)) := rfl
theorem ce_51 : cellD 51 = .inr (.inl (false, 12)) := rfl
theorem ce_52 : cellD 52 = .inr (.inl (false, 32)) := rfl
theorem ce_53 : cellD 53 = .inl (2, [.inr false, .inr false, .inl 54, .inl 55, .inl 56, .inl 57, .inl 58, .inl 59, .inl 60]) := rfl
theorem ce_54 : cellD 54 = .inr (.inl (false, 160)) := rfl
theorem ce_55 : cellD 55 = .inr (.inl (false, 160)) := rfl
theorem ce_56 : cellD 56 = .inr (.inl (false, 12)) := rfl
theorem ce_57 : cellD 57 = .inr (.inl (false, 12)) := rfl
theorem ce_58 : cellD 58 = .inr (.inl (false, 12)) := rfl
theorem ce_59 : cellD 59 = .inr (.inl (false, 12)) := rfl
theorem ce_60 : cellD 60 = .inr (.inl (false, 32)) := rfl
theorem ce_61 : cellD 61 = .inl (3, [.inl 34, .inl 53, .inr false, .inr false, .inr false]) := rfl
theorem ce_62 : cellD 62 = .inl (6, [.inl 63, .inl 64, .inl 65, .inl 66, .inl 67, .inr true, .inr true, .inr false, .inr false]) := rfl
theorem ce_63 : cellD 63 = .inr (.inl (false, 16)) := rfl
theorem ce_64 : cellD 64 = .inr (.inl (false, 16)) := rfl
theorem ce_65 : cellD 65 = .inr (.inl (false, 16)) := rfl
theorem ce_66 : cellD 66 = .inr (.inl (false, 256)) := rfl
theorem ce_67 : cellD 67 = .inl (4, [.inl 68]) := rfl
theorem ce_68 : cellD 68 = .inr (.inl (false, 12)) := rfl
theorem ce_69 : cellD 69 = .inl (0, [.inl 62, .inl 70, .inl 71, .inl 72, .inr false]) := rfl
theorem ce_70 : cellD 70 = .inr (.inl (false, 16)) := rfl
theorem ce_71 : cellD 71 = .inr (.inl (false, 16)) := rfl
theorem ce_72 : cellD 72 = .inr (.inl (false, 16)) := rfl
theorem ce_73 : cellD 73 = .inl (5, [.inl 62, .inr false, .inr false, .inr false, .inr false]) := rfl
theorem ce_74 : cellD 74 = .inl (1, [.inl 62, .inl 75, .inr false]) := rfl
theorem ce_75 : cellD 75 = .inr (.inl (false, 2)) := rfl
theorem ce_76 : cellD 76 = .inr (.inl (false, 12)) := rfl
theorem ce_77 : cellD 77 = .inl (10, [.inr false, .inr false, .inr false, .inr false, .inl 78, .inl 79, .inl 80, .inl 81, .inl 82, .inl 83, .inr false, .inr false, .inr false, .inr false, .inr false, .inr false, .inr false, .inr false, .inr false, .inl 84, .inl 85, .inl 86, .inl 87, .inl 88, .inl 89, .inl 90, .inl 91, .inl 92, .inl 93, .inl 94, .inl 95, .inl 96, .inl 97, .inl 98, .inr false, .inl 99, .inl 100, .inl 101, .inl 102, .inr false, .inr false, .inr false, .inl 103, .inl 104, .inl 105, .inl 106, .inl 107, .inl 108, .inl 109, .inr false, .inr false, .inl 110, .inr false, .inr false, .inr false, .inr false, .inr false, .inr false, .inl 111, .inl 112, .inl 113, .inl 114, .inl 115, .inl 116, .inl 117, .inl 118]) := rfl
theorem ce_78 : cellD 78 = .inr (.inl (false, 16)) := rfl
theorem ce_79 : cellD 79 = .inr (.inl (false, 16)) := rfl
theorem ce_80 : cellD 80 = .inr (.inl (false, 16)) := rfl
theorem ce_81 : cellD 81 = .inr (.inl (false, 16)) := rfl
theorem ce_82 : cellD 82 = .inr (.inl (false, 16)) := rfl
theorem ce_83 : cellD 83 = .inr (.inl (true, 200)) := rfl
theorem ce_84 : cellD 84 = .inr (.inl (false, 180)) := rfl
theorem ce_85 : cellD 85 = .inr (.inl (false, 180)) := rfl
theorem ce_86 : cellD 86 = .inr (.inl (false, 12)) := rfl
theorem ce_87 : cellD 87 = .inr (.inl (false, 12)) := rfl
theorem ce_88 : cellD 88 = .inr (.inl (false, 12)) := rfl
theorem ce_89 : cellD 89 = .inr (.inl (false, 12)) := rfl
theorem ce_90 : cellD 90 = .inr (.inl (false, 360)) := rfl
theorem ce_91 : cellD 91 = .inr (.inl (false, 2)) := rfl
theorem ce_92 : cellD 92 = .inr (.inl (false, 24)) := rfl
theorem ce_93 : cellD 93 = .inr (.inl (false, 24)) := rfl
theorem ce_94 : cellD 94 = .inr (.inl (false, 24)) := rfl
theorem ce_95 : cellD 95 = .inr (.inl (false, 24)) := rfl
theorem ce_96 : cellD 96 = .inr (.inl (false, 180)) := rfl
theorem ce_97 : cellD 97 = .inr (.inl (false, 12)) := rfl
theorem ce_98 : cellD 98 = .inr (.inl (false, 256)) := rfl
theorem ce_99 : cellD 99 = .inr (.inl (false, 12)) := rfl
theorem ce_100 : cellD 100 = .inr (.inl (false, 12)) := rfl
theorem ce_101 : cellD 101 = .inr (.inl (false, 12)) := rfl
theorem ce_102 : cellD 102 = .inr (.inl (false, 16)) := rfl
theorem ce_103 : cellD 103 = .inr (.inl (false, 16)) := rfl
theorem ce_104 : cellD 104 = .inr (.inl (false, 16)) := rfl
theorem ce_105 : cellD 105 = .inr (.inl (false, 16)) := rfl
theorem ce_106 : cellD 106 = .inr (.inl (false, 5)) := rfl
theorem ce_107 : cellD 107 = .inr (.inl (false, 5)) := rfl
theorem ce_108 : cellD 108 = .inr (.inl (false, 5)) := rfl
theorem ce_109 : cellD 109 = .inr (.inl (false, 5)) := rfl
theorem ce_110 : cellD 110 = .inr (.inl (false, 12)) := rfl
theorem ce_111 : cellD 111 = .inr (.inl (false, 16)) := rfl
theorem ce_112 : cellD 112 = .inr (.inl (false, 16)) := rfl
theorem ce_113 : cellD 113 = .inr (.inl (false, 16)) := rfl
theorem ce_114 : cellD 114 = .inr (.inl (false, 16)) := rfl
theorem ce_115 : cellD 115 = .inr (.inl (false, 16)) := rfl
theorem ce_116 : cellD 116 = .inr (.inl (false, 12)) := rfl
theorem ce_117 : cellD 117 = .inr (.inl (false, 12)) := rfl
theorem ce_118 : cellD 118 = .inr (.inl (false, 12)) := rfl
end
section
/-- the words of the tables that stay -/
def TT : List Cond := lw_tbl.filter goodWord
theorem tt_of {w : Cond} (h : w ∈ lw_tbl) (hg : goodWord w = true) : w ∈ TT := List.mem_filter.mpr ⟨h, hg⟩
theorem tt_in {w : Cond} (h : w ∈ TT) : w ∈ lw_tbl := (List.mem_filter.mp h).1
theorem tt_good {w : Cond} (h : w ∈ TT) : goodWord w = true := (List.mem_filter.mp h).2
theorem tP {w : Cond} (h : w ∈ k2_sels lw_privs) (hg : goodWord w = true) : w ∈ TT := tt_of (List.mem_append_left _ h) hg
theorem tT1 {w : Cond} (h : w ∈ tables_1_1) (hg : goodWord w = true) : w ∈ TT := tt_of (List.mem_append_right _ (List.mem_append_left _ h)) hg
theorem tT2 {w : Cond} (h : w ∈ tables_1_2) (hg : goodWord w = true) : w ∈ TT := tt_of (List.mem_append_right _ (List.mem_append_right _ (List.mem_append_left _ h))) hg
theorem tT3 {w : Cond} (h : w ∈ tables_1_3) (hg : goodWord w = true) : w ∈ TT := tt_of (List.mem_append_right _ (List.mem_append_right _ (List.mem_append_right _ (List.mem_append_left _ h)))) hg
theorem tT4 {w : Cond} (h : w ∈ tables_1_4) (hg : goodWord w = true) : w ∈ TT := tt_of (List.mem_append_right _ (List.mem_append_right _ (List.mem_append_right _ (List.mem_append_right _ (List.mem_append_left _ h))))) hg
theorem tT5 {w : Cond} (h : w ∈ tables_1_5) (hg : goodWord w = true) : w ∈ TT := tt_of (List.mem_append_right _ (List.mem_append_right _ (List.mem_append_right _ (List.mem_append_right _ (List.mem_append_right _ (List.mem_append_left _ h)))))) hg
theorem tT6 {w : Cond} (h : w ∈ tables_1_6) (hg : goodWord w = true) : w ∈ TT := tt_of (List.mem_append_right _ (List.mem_append_right _ (List.mem_append_right _ (List.mem_append_right _ (List.mem_append_right _ (List.mem_append_right _ (List.mem_append_left _ h))))))) hg
theorem tT7 {w : Cond} (h : w ∈ tables_1_7) (hg : goodWord w = true) : w ∈ TT := tt_of (List.mem_append_right _ (List.mem_append_right _ (List.mem_append_right _ (List.mem_append_right _ (List.mem_append_right _ (List.mem_append_right _ (List.mem_append_right _ (h)))))))) hg
/-- a class of the worlds: its fields' words stand -/
def CLk (ci : Nat) (C : String) (F : u_T) (N : Nat) (ty : Nat → FieldType) : Prop := vwCl[ci]? = some (C, F, N) ∧ (∀ w ∈ u_ws C F N, w ∈ TT) ∧ (∀ k, k < N → parseFieldDescriptor (F k).2.2.1 = some (ty k)) ∧ ∀ a, a < N → ∀ b, b < N → a ≠ b → (F a).2.1 ≠ (F b).2.1
/-- a field's link, to read -/
def FLk (own : String) (idx ci j : Nat) : Prop := ∃ (C : String) (F : u_T) (N : Nat) (ty : Nat → FieldType), CLk ci C F N ty ∧ j < N ∧ Cond.fieldLink own idx C (F j).2.1 (F j).2.2.1 ∈ TT ∧ (F j).1 = C
/-- a field's link, to write -/
def FPk (own : String) (idx ci j : Nat) (t : FieldType) : Prop := ∃ (C : String) (F : u_T) (N : Nat) (ty : Nat → FieldType), CLk ci C F N ty ∧ j < N ∧ Cond.fieldLink own idx C (F j).2.1 (F j).2.2.1 ∈ TT ∧ (F j).1 = C ∧ (F j).2.2.2 = false ∧ ty j = t
def MDk (mi : MI) (n : Nat) : Prop := Cond.initialized mi.1.cls ∈ TT ∧ Cond.code mi.1 mi.2.1 mi.2.2.1 mi.2.2.2 ∈ TT ∧ (mi.1.cls ≠ "java/lang/invoke/MethodHandle" ∧ mi.1.cls ≠ "java/lang/invoke/VarHandle" ∧ (parseMethodDescriptor mi.1.desc).map (fun d => d.parameters.length) = some n) ∧ mi.2.2.1 ≤ 45 ∧ plainName mi.1.cls = true
/-- an instance method, a static one -/
def MVk (mi : MI) (n : Nat) : Prop := MDk mi n ∧ Cond.instanceMethod mi.1 ∈ TT ∧ Cond.selects mi.1.cls mi.1 mi.1 ∈ TT
def MSk (mi : MI) (n : Nat) : Prop := MDk mi n ∧ Cond.static mi.1 ∈ TT
theorem uX0 : ∀ w ∈ u_ws RX0 TX0 5, w ∈ TT := by
  intro w h
  obtain ⟨k, hk, rfl⟩ := List.mem_map.mp h
  have hk : k < 5 := List.mem_range.mp hk
  match k, hk with
  | 0, _ => exact tT2 (List.mem_of_getElem? (i := 11) (by decide +kernel)) (by decide +kernel)
  | 1, _ => exact tT2 (List.mem_of_getElem? (i := 13) (by decide +kernel)) (by decide +kernel)
  | 2, _ => exact tT2 (List.mem_of_getElem? (i := 15) (by decide +kernel)) (by decide +kernel)
  | 3, _ => exact tT2 (List.mem_of_getElem? (i := 17) (by decide +kernel)) (by decide +kernel)
  | 4, _ => exact tT2 (List.mem_of_getElem? (i := 19) (by decide +kernel)) (by decide +kernel)
  | k + 5, h => exact absurd h (by omega)
theorem clX0 : CLk 0 RX0 TX0 5 tyX0 := ⟨rfl, uX0, tyX0_ok, nmX0⟩
theorem uX1 : ∀ w ∈ u_ws RX1 TX1 3, w ∈ TT := by
  intro w h
  obtain ⟨k, hk, rfl⟩ := List.mem_map.mp h
  have hk : k < 3 := List.mem_range.mp hk
  match k, hk with
  | 0, _ => exact tT2 (List.mem_of_getElem? (i := 56) (by decide +kernel)) (by decide +kernel)
  | 1, _ => exact tT2 (List.mem_of_getElem? (i := 58) (by decide +kernel)) (by decide +kernel)
  | 2, _ => exact tT2 (List.mem_of_getElem? (i := 60) (by decide +kernel)) (by decide +kernel)
  | k + 3, h => exact absurd h (by omega)
theorem clX1 : CLk 1 RX1 TX1 3 tyX1 := ⟨rfl, uX1, tyX1_ok, nmX1⟩
theorem uX2 : ∀ w ∈ u_ws RX2 TX2 9, w ∈ TT := by
  intro w h
  obtain ⟨k, hk, rfl⟩ := List.mem_map.mp h
  have hk : k < 9 := List.mem_range.mp hk
  match k, hk with
  | 0, _ => exact tT1 (List.mem_of_getElem? (i := 158) (by decide +kernel)) (by decide +kernel)
  | 1, _ => exact tT1 (List.mem_of_getElem? (i := 160) (by decide +kernel)) (by decide +kernel)
  | 2, _ => exact tT1 (List.mem_of_getElem? (i := 162) (by decide +kernel)) (by decide +kernel)
  | 3, _ => exact tT1 (List.mem_of_getElem? (i := 164) (by decide +kernel)) (by decide +kernel)
  | 4, _ => exact tT1 (List.mem_of_getElem? (i := 166) (by decide +kernel)) (by decide +kernel)
  | 5, _ => exact tT1 (List.mem_of_getElem? (i := 168) (by decide +kernel)) (by decide +kernel)
  | 6, _ => exact tT1 (List.mem_of_getElem? (i := 170) (by decide +kernel)) (by decide +kernel)
  | 7, _ => exact tT1 (List.mem_of_getElem? (i := 172) (by decide +kernel)) (by decide +kernel)
  | 8, _ => exact tT1 (List.mem_of_getElem? (i := 174) (by decide +kernel)) (by decide +kernel)
  | k + 9, h => exact absurd h (by omega)
theorem clX2 : CLk 2 RX2 TX2 9 tyX2 := ⟨rfl, uX2, tyX2_ok, nmX2⟩
theorem uX3 : ∀ w ∈ u_ws RX3 TX3 5, w ∈ TT := by
  intro w h
  obtain ⟨k, hk, rfl⟩ := List.mem_map.mp h
  have hk : k < 5 := List.mem_range.mp hk
  match k, hk with
  | 0, _ => exact tT1 (List.mem_of_getElem? (i := 188) (by decide +kernel)) (by decide +kernel)
  | 1, _ => exact tT1 (List.mem_of_getElem? (i := 190) (by decide +kernel)) (by decide +kernel)
  | 2, _ => exact tT1 (List.mem_of_getElem? (i := 192) (by decide +kernel)) (by decide +kernel)
  | 3, _ => exact tT1 (List.mem_of_getElem? (i := 194) (by decide +kernel)) (by decide +kernel)
  | 4, _ => exact tT1 (List.mem_of_getElem? (i := 196) (by decide +kernel)) (by decide +kernel)
  | k + 5, h => exact absurd h (by omega)
theorem clX3 : CLk 3 RX3 TX3 5 tyX3 := ⟨rfl, uX3, tyX3_ok, nmX3⟩
theorem uX4 : ∀ w ∈ u_ws RX4 TX4 1, w ∈ TT := by
  intro w h
  obtain ⟨k, hk, rfl⟩ := List.mem_map.mp h
  have hk : k < 1 := List.mem_range.mp hk
  match k, hk with
  | 0, _ => exact tT1 (List.mem_of_getElem? (i := 54) (by decide +kernel)) (by decide +kernel)
  | k + 1, h => exact absurd h (by omega)
theorem clX4 : CLk 4 RX4 TX4 1 tyX4 := ⟨rfl, uX4, tyX4_ok, nmX4⟩
theorem uX5 : ∀ w ∈ u_ws RX5 TX5 5, w ∈ TT := by
  intro w h
  obtain ⟨k, hk, rfl⟩ := List.mem_map.mp h
  have hk : k < 5 := List.mem_range.mp hk
  match k, hk with
  | 0, _ => exact tT2 (List.mem_of_getElem? (i := 35) (by decide +kernel)) (by decide +kernel)
  | 1, _ => exact tT2 (List.mem_of_getElem? (i := 37) (by decide +kernel)) (by decide +kernel)
  | 2, _ => exact tT2 (List.mem_of_getElem? (i := 39) (by decide +kernel)) (by decide +kernel)
  | 3, _ => exact tT2 (List.mem_of_getElem? (i := 41) (by decide +kernel)) (by decide +kernel)
  | 4, _ => exact tT2 (List.mem_of_getElem? (i := 43) (by decide +kernel)) (by decide +kernel)
  | k + 5, h => exact absurd h (by omega)
theorem clX5 : CLk 5 RX5 TX5 5 tyX5 := ⟨rfl, uX5, tyX5_ok, nmX5⟩
theorem uX6 : ∀ w ∈ u_ws RX6 TX6 9, w ∈ TT := by
  intro w h
  obtain ⟨k, hk, rfl⟩ := List.mem_map.mp h
  have hk : k < 9 := List.mem_range.mp hk
  match k, hk with
  | 0, _ => exact tT1 (List.mem_of_getElem? (i := 221) (by decide +kernel)) (by decide +kernel)
  | 1, _ => exact tT1 (List.mem_of_getElem? (i := 223) (by decide +kernel)) (by decide +kernel)
  | 2, _ => exact tT1 (List.mem_of_getElem? (i := 225) (by decide +kernel)) (by decide +kernel)
  | 3, _ => exact tT1 (List.mem_of_getElem? (i := 227) (by decide +kernel)) (by decide +kernel)
  | 4, _ => exact tT1 (List.mem_of_getElem? (i := 229) (by decide +kernel)) (by decide +kernel)
  | 5, _ => exact tT1 (List.mem_of_getElem? (i := 231) (by decide +kernel)) (by decide +kernel)
  | 6, _ => exact tT1 (List.mem_of_getElem? (i := 233) (by decide +kernel)) (by decide +kernel)
  | 7, _ => exact tT1 (List.mem_of_getElem? (i := 235) (by decide +kernel)) (by decide +kernel)
  | 8, _ => exact tT1 (List.mem_of_getElem? (i := 237) (by decide +kernel)) (by decide +kernel)
  | k + 9, h => exact absurd h (by omega)
theorem clX6 : CLk 6 RX6 TX6 9 tyX6 := ⟨rfl, uX6, tyX6_ok, nmX6⟩
theorem uX7 : ∀ w ∈ u_ws RX7 TX7 2, w ∈ TT := by
  intro w h
  obtain ⟨k, hk, rfl⟩ := List.mem_map.mp h
  have hk : k < 2 := List.mem_range.mp hk
  match k, hk with
  | 0, _ => exact tT1 (List.mem_of_getElem? (i := 135) (by decide +kernel)) (by decide +kernel)
  | 1, _ => exact tT1 (List.mem_of_getElem? (i := 137) (by decide +kernel)) (by decide +kernel)
  | k + 2, h => exact absurd h (by omega)
theorem clX7 : CLk 7 RX7 TX7 2 tyX7 := ⟨rfl, uX7, tyX7_ok, nmX7⟩
theorem uX8 : ∀ w ∈ u_ws RX8 TX8 14, w ∈ TT := by
  intro w h
  obtain ⟨k, hk, rfl⟩ := List.mem_map.mp h
  have hk : k < 14 := List.mem_range.mp hk
  match k, hk with
  | 0, _ => exact tT1 (List.mem_of_getElem? (i := 96) (by decide +kernel)) (by decide +kernel)
  | 1, _ => exact tT1 (List.mem_of_getElem? (i := 98) (by decide +kernel)) (by decide +kernel)
  | 2, _ => exact tT1 (List.mem_of_getElem? (i := 100) (by decide +kernel)) (by decide +kernel)
  | 3, _ => exact tT1 (List.mem_of_getElem? (i := 102) (by decide +kernel)) (by decide +kernel)
  | 4, _ => exact tT1 (List.mem_of_getElem? (i := 104) (by decide +kernel)) (by decide +kernel)
  | 5, _ => exact tT1 (List.mem_of_getElem? (i := 106) (by decide +kernel)) (by decide +kernel)
  | 6, _ => exact tT1 (List.mem_of_getElem? (i := 108) (by decide +kernel)) (by decide +kernel)
  | 7, _ => exact tT1 (List.mem_of_getElem? (i := 110) (by decide +kernel)) (by decide +kernel)
  | 8, _ => exact tT1 (List.mem_of_getElem? (i := 112) (by decide +kernel)) (by decide +kernel)
  | 9, _ => exact tT1 (List.mem_of_getElem? (i := 114) (by decide +kernel)) (by decide +kernel)
  | 10, _ => exact tT1 (List.mem_of_getElem? (i := 116) (by decide +kernel)) (by decide +kernel)
  | 11, _ => exact tT1 (List.mem_of_getElem? (i := 118) (by decide +kernel)) (by decide +kernel)
  | 12, _ => exact tT1 (List.mem_of_getElem? (i := 120) (by decide +kernel)) (by decide +kernel)
  | 13, _ => exact tT1 (List.mem_of_getElem? (i := 122) (by decide +kernel)) (by decide +kernel)
  | k + 14, h => exact absurd h (by omega)
theorem clX8 : CLk 8 RX8 TX8 14 tyX8 := ⟨rfl, uX8, tyX8_ok, nmX8⟩
theorem uX9 : ∀ w ∈ u_ws RX9 TX9 14, w ∈ TT := by
  intro w h
  obtain ⟨k, hk, rfl⟩ := List.mem_map.mp h
  have hk : k < 14 := List.mem_range.mp hk
  match k, hk with
  | 0, _ => exact tT2 (List.mem_of_getElem? (i := 77) (by decide +kernel)) (by decide +kernel)
  | 1, _ => exact tT2 (List.mem_of_getElem? (i := 79) (by decide +kernel)) (by decide +kernel)
  | 2, _ => exact tT2 (List.mem_of_getElem? (i := 81) (by decide +kernel)) (by decide +kernel)
  | 3, _ => exact tT2 (List.mem_of_getElem? (i := 83) (by decide +kernel)) (by decide +kernel)
  | 4, _ => exact tT2 (List.mem_of_getElem? (i := 85) (by decide +kernel)) (by decide +kernel)
  | 5, _ => exact tT2 (List.mem_of_getElem? (i := 87) (by decide +kernel)) (by decide +kernel)
  | 6, _ => exact tT2 (List.mem_of_getElem? (i := 89) (by decide +kernel)) (by decide +kernel)
  | 7, _ => exact tT2 (List.mem_of_getElem? (i := 91) (by decide +kernel)) (by decide +kernel)
  | 8, _ => exact tT2 (List.mem_of_getElem? (i := 93) (by decide +kernel)) (by decide +kernel)
  | 9, _ => exact tT2 (List.mem_of_getElem? (i := 95) (by decide +kernel)) (by decide +kernel)
  | 10, _ => exact tT2 (List.mem_of_getElem? (i := 97) (by decide +kernel)) (by decide +kernel)
  | 11, _ => exact tT2 (List.mem_of_getElem? (i := 99) (by decide +kernel)) (by decide +kernel)
  | 12, _ => exact tT2 (List.mem_of_getElem? (i := 101) (by decide +kernel)) (by decide +kernel)
  | 13, _ => exact tT2 (List.mem_of_getElem? (i := 103) (by decide +kernel)) (by decide +kernel)
  | k + 14, h => exact absurd h (by omega)
theorem clX9 : CLk 9 RX9 TX9 14 tyX9 := ⟨rfl, uX9, tyX9_ok, nmX9⟩
theorem uX10 : ∀ w ∈ u_ws RX10 TX10 66, w ∈ TT := by
  intro w h
  obtain ⟨k, hk, rfl⟩ := List.mem_map.mp h
  have hk : k < 66 := List.mem_range.mp hk
  match k, hk with
  | 0, _ => exact tT5 (List.mem_of_getElem? (i := 10) (by decide +kernel)) (by decide +kernel)
  | 1, _ => exact tT5 (List.mem_of_getElem? (i := 12) (by decide +kernel)) (by decide +kernel)
  | 2, _ => exact tT5 (List.mem_of_getElem? (i := 14) (by decide +kernel)) (by decide +kernel)
  | 3, _ => exact tT5 (List.mem_of_getElem? (i := 16) (by decide +kernel)) (by decide +kernel)
  | 4, _ => exact tT5 (List.mem_of_getElem? (i := 18) (by decide +kernel)) (by decide +kernel)
  | 5, _ => exact tT5 (List.mem_of_getElem? (i := 20) (by decide +kernel)) (by decide +kernel)
  | 6, _ => exact tT5 (List.mem_of_getElem? (i := 22) (by decide +kernel)) (by decide +kernel)
  | 7, _ => exact tT5 (List.mem_of_getElem? (i := 24) (by decide +kernel)) (by decide +kernel)
  | 8, _ => exact tT5 (List.mem_of_getElem? (i := 26) (by decide +kernel)) (by decide +kernel)
  | 9, _ => exact tT5 (List.mem_of_getElem? (i := 28) (by decide +kernel)) (by decide +kernel)
  | 10, _ => exact tT5 (List.mem_of_getElem? (i := 30) (by decide +kernel)) (by decide +kernel)
  | 11, _ => exact tT5 (List.mem_of_getElem? (i := 32) (by decide +kernel)) (by decide +kernel)
  | 12, _ => exact tT5 (List.mem_of_getElem? (i := 34) (by decide +kernel)) (by decide +kernel)
  | 13, _ => exact tT5 (List.mem_of_getElem? (i := 36) (by decide +kernel)) (by decide +kernel)
  | 14, _ => exact tT5 (List.mem_of_getElem? (i := 38) (by decide +kernel)) (by decide +kernel)
  | 15, _ => exact tT5 (List.mem_of_getElem? (i := 40) (by decide +kernel)) (by decide +kernel)
  | 16, _ => exact tT5 (List.mem_of_getElem? (i := 42) (by decide +kernel)) (by decide +kernel)
  | 17, _ => exact tT5 (List.mem_of_getElem? (i := 44) (by decide +kernel)) (by decide +kernel)
  | 18, _ => exact tT5 (List.mem_of_getElem? (i := 46) (by decide +kernel)) (by decide +kernel)
  | 19, _ => exact tT5 (List.mem_of_getElem? (i := 48) (by decide +kernel)) (by decide +kernel)
  | 20, _ => exact tT5 (List.mem_of_getElem? (i := 50) (by decide +kernel)) (by decide +kernel)
  | 21, _ => exact tT5 (List.mem_of_getElem? (i := 52) (by decide +kernel)) (by decide +kernel)
  | 22, _ => exact tT5 (List.mem_of_getElem? (i := 54) (by decide +kernel)) (by decide +kernel)
  | 23, _ => exact tT5 (List.mem_of_getElem? (i := 56) (by decide +kernel)) (by decide +kernel)
  | 24, _ => exact tT5 (List.mem_of_getElem? (i := 58) (by decide +kernel)) (by decide +kernel)
  | 25, _ => exact tT5 (List.mem_of_getElem? (i := 60) (by decide +kernel)) (by decide +kernel)
  | 26, _ => exact tT5 (List.mem_of_getElem? (i := 62) (by decide +kernel)) (by decide +kernel)
  | 27, _ => exact tT5 (List.mem_of_getElem? (i := 64) (by decide +kernel)) (by decide +kernel)
  | 28, _ => exact tT5 (List.mem_of_getElem? (i := 66) (by decide +kernel)) (by decide +kernel)
  | 29, _ => exact tT5 (List.mem_of_getElem? (i := 68) (by decide +kernel)) (by decide +kernel)
  | 30, _ => exact tT5 (List.mem_of_getElem? (i := 70) (by decide +kernel)) (by decide +kernel)
  | 31, _ => exact tT5 (List.mem_of_getElem? (i := 72) (by decide +kernel)) (by decide +kernel)
  | 32, _ => exact tT5 (List.mem_of_getElem? (i := 74) (by decide +kernel)) (by decide +kernel)
  | 33, _ => exact tT5 (List.mem_of_getElem? (i := 76) (by decide +kernel)) (by decide +kernel)
  | 34, _ => exact tT5 (List.mem_of_getElem? (i := 78) (by decide +kernel)) (by decide +kernel)
  | 35, _ => exact tT5 (List.mem_of_getElem? (i := 80) (by decide +kernel)) (by decide +kernel)
  | 36, _ => exact tT5 (List.mem_of_getElem? (i := 82) (by decide +kernel)) (by decide +kernel)
  | 37, _ => exact tT5 (List.mem_of_getElem? (i := 84) (by decide +kernel)) (by decide +kernel)
  | 38, _ => exact tT5 (List.mem_of_getElem? (i := 86) (by decide +kernel)) (by decide +kernel)
  | 39, _ => exact tT5 (List.mem_of_getElem? (i := 88) (by decide +kernel)) (by decide +kernel)
  | 40, _ => exact tT5 (List.mem_of_getElem? (i := 90) (by decide +kernel)) (by decide +kernel)
  | 41, _ => exact tT5 (List.mem_of_getElem? (i := 92) (by decide +kernel)) (by decide +kernel)
  | 42, _ => exact tT5 (List.mem_of_getElem? (i := 94) (by decide +kernel)) (by decide +kernel)
  | 43, _ => exact tT5 (List.mem_of_getElem? (i := 96) (by decide +kernel)) (by decide +kernel)
  | 44, _ => exact tT5 (List.mem_of_getElem? (i := 98) (by decide +kernel)) (by decide +kernel)
  | 45, _ => exact tT5 (List.mem_of_getElem? (i := 100) (by decide +kernel)) (by decide +kernel)
  | 46, _ => exact tT5 (List.mem_of_getElem? (i := 102) (by decide +kernel)) (by decide +kernel)
  | 47, _ => exact tT5 (List.mem_of_getElem? (i := 104) (by decide +kernel)) (by decide +kernel)
  | 48, _ => exact tT5 (List.mem_of_getElem? (i := 106) (by decide +kernel)) (by decide +kernel)
  | 49, _ => exact tT5 (List.mem_of_getElem? (i := 108) (by decide +kernel)) (by decide +kernel)
  | 50, _ => exact tT5 (List.mem_of_getElem? (i := 110) (by decide +kernel)) (by decide +kernel)
  | 51, _ => exact tT5 (List.mem_of_getElem? (i := 112) (by decide +kernel)) (by decide +kernel)
  | 52, _ => exact tT5 (List.mem_of_getElem? (i := 114) (by decide +kernel)) (by decide +kernel)
  | 53, _ => exact tT5 (List.mem_of_getElem? (i := 116) (by decide +kernel)) (by decide +kernel)
  | 54, _ => exact tT5 (List.mem_of_getElem? (i := 118) (by decide +kernel)) (by decide +kernel)
  | 55, _ => exact tT5 (List.mem_of_getElem? (i := 120) (by decide +kernel)) (by decide +kernel)
  | 56, _ => exact tT5 (List.mem_of_getElem? (i := 122) (by decide +kernel)) (by decide +kernel)
  | 57, _ => exact tT5 (List.mem_of_getElem? (i := 124) (by decide +kernel)) (by decide +kernel)
  | 58, _ => exact tT5 (List.mem_of_getElem? (i := 126) (by decide +kernel)) (by decide +kernel)
  | 59, _ => exact tT5 (List.mem_of_getElem? (i := 128) (by decide +kernel)) (by decide +kernel)
  | 60, _ => exact tT5 (List.mem_of_getElem? (i := 130) (by decide +kernel)) (by decide +kernel)
  | 61, _ => exact tT5 (List.mem_of_getElem? (i := 132) (by decide +kernel)) (by decide +kernel)
  | 62, _ => exact tT5 (List.mem_of_getElem? (i := 134) (by decide +kernel)) (by decide +kernel)
  | 63, _ => exact tT5 (List.mem_of_getElem? (i := 136) (by decide +kernel)) (by decide +kernel)
  | 64, _ => exact tT5 (List.mem_of_getElem? (i := 138) (by decide +kernel)) (by decide +kernel)
  | 65, _ => exact tT5 (List.mem_of_getElem? (i := 140) (by decide +kernel)) (by decide +kernel)
  | k + 66, h => exact absurd h (by omega)
theorem clX10 : CLk 10 RX10 TX10 66 tyX10 := ⟨rfl, uX10, tyX10_ok, nmX10⟩
theorem kX0_search : MVk iX0_search 2 := ⟨⟨tT1 (List.mem_of_getElem? (i := 9) (by decide +kernel)) (by decide +kernel), tT4 (List.mem_of_getElem? (i := 46) (by decide +kernel)) (by decide +kernel), ⟨by decide +kernel, by decide +kernel, by decide +kernel⟩, by decide +kernel, by decide +kernel⟩, tT4 (List.mem_of_getElem? (i := 44) (by decide +kernel)) (by decide +kernel), tT4 (List.mem_of_getElem? (i := 45) (by decide +kernel)) (by decide +kernel)⟩
theorem kX0_chooseNext : MVk iX0_chooseNext 2 := ⟨⟨tT1 (List.mem_of_getElem? (i := 9) (by decide +kernel)) (by decide +kernel), tT4 (List.mem_of_getElem? (i := 50) (by decide +kernel)) (by decide +kernel), ⟨by decide +kernel, by decide +kernel, by decide +kernel⟩, by decide +kernel, by decide +kernel⟩, tT4 (List.mem_of_getElem? (i := 49) (by decide +kernel)) (by decide +kernel), tP (List.mem_of_getElem? (i := 23) (by decide +kernel)) (by decide +kernel)⟩
theorem kX0_leastPrice : MVk iX0_leastPrice 0 := ⟨⟨tT1 (List.mem_of_getElem? (i := 9) (by decide +kernel)) (by decide +kernel), tT4 (List.mem_of_getElem? (i := 57) (by decide +kernel)) (by decide +kernel), ⟨by decide +kernel, by decide +kernel, by decide +kernel⟩, by decide +kernel, by decide +kernel⟩, tT4 (List.mem_of_getElem? (i := 55) (by decide +kernel)) (by decide +kernel), tT4 (List.mem_of_getElem? (i := 56) (by decide +kernel)) (by decide +kernel)⟩
theorem kX0_length : MVk iX0_length 0 := ⟨⟨tT1 (List.mem_of_getElem? (i := 9) (by decide +kernel)) (by decide +kernel), tT4 (List.mem_of_getElem? (i := 61) (by decide +kernel)) (by decide +kernel), ⟨by decide +kernel, by decide +kernel, by decide +kernel⟩, by decide +kernel, by decide +kernel⟩, tT4 (List.mem_of_getElem? (i := 59) (by decide +kernel)) (by decide +kernel), tT4 (List.mem_of_getElem? (i := 60) (by decide +kernel)) (by decide +kernel)⟩
theorem kX0_personAt : MVk iX0_personAt 1 := ⟨⟨tT1 (List.mem_of_getElem? (i := 9) (by decide +kernel)) (by decide +kernel), tT4 (List.mem_of_getElem? (i := 65) (by decide +kernel)) (by decide +kernel), ⟨by decide +kernel, by decide +kernel, by decide +kernel⟩, by decide +kernel, by decide +kernel⟩, tT4 (List.mem_of_getElem? (i := 63) (by decide +kernel)) (by decide +kernel), tT4 (List.mem_of_getElem? (i := 64) (by decide +kernel)) (by decide +kernel)⟩
theorem kX1_outcomeFor : MVk iX1_outcomeFor 4 := ⟨⟨tT1 (List.mem_of_getElem? (i := 11) (by decide +kernel)) (by decide +kernel), tT4 (List.mem_of_getElem? (i := 113) (by decide +kernel)) (by decide +kernel), ⟨by decide +kernel, by decide +kernel, by decide +kernel⟩, by decide +kernel, by decide +kernel⟩, tT4 (List.mem_of_getElem? (i := 111) (by decide +kernel)) (by decide +kernel), tT4 (List.mem_of_getElem? (i := 112) (by decide +kernel)) (by decide +kernel)⟩
theorem kX1_play : MVk iX1_play 4 := ⟨⟨tT1 (List.mem_of_getElem? (i := 11) (by decide +kernel)) (by decide +kernel), tT4 (List.mem_of_getElem? (i := 117) (by decide +kernel)) (by decide +kernel), ⟨by decide +kernel, by decide +kernel, by decide +kernel⟩, by decide +kernel, by decide +kernel⟩, tT4 (List.mem_of_getElem? (i := 116) (by decide +kernel)) (by decide +kernel), tP (List.mem_of_getElem? (i := 27) (by decide +kernel)) (by decide +kernel)⟩
theorem kX1_standing : MVk iX1_standing 2 := ⟨⟨tT1 (List.mem_of_getElem? (i := 11) (by decide +kernel)) (by decide +kernel), tT4 (List.mem_of_getElem? (i := 121) (by decide +kernel)) (by decide +kernel), ⟨by decide +kernel, by decide +kernel, by decide +kernel⟩, by decide +kernel, by decide +kernel⟩, tT4 (List.mem_of_getElem? (i := 120) (by decide +kernel)) (by decide +kernel), tP (List.mem_of_getElem? (i := 28) (by decide +kernel)) (by decide +kernel)⟩
theorem kX2_clear : MVk iX2_clear 0 := ⟨⟨tT1 (List.mem_of_getElem? (i := 6) (by decide +kernel)) (by decide +kernel), tT2 (List.mem_of_getElem? (i := 158) (by decide +kernel)) (by decide +kernel), ⟨by decide +kernel, by decide +kernel, by decide +kernel⟩, by decide +kernel, by decide +kernel⟩, tT2 (List.mem_of_getElem? (i := 156) (by decide +kernel)) (by decide +kernel), tT2 (List.mem_of_getElem? (i := 157) (by decide +kernel)) (by decide +kernel)⟩
theorem kX2_copyFrom : MVk iX2_copyFrom 1 := ⟨⟨tT1 (List.mem_of_getElem? (i := 6) (by decide +kernel)) (by decide +kernel), tT3 (List.mem_of_getElem? (i := 85) (by decide +kernel)) (by decide +kernel), ⟨by decide +kernel, by decide +kernel, by decide +kernel⟩, by decide +kernel, by decide +kernel⟩, tT3 (List.mem_of_getElem? (i := 83) (by decide +kernel)) (by decide +kernel), tT3 (List.mem_of_getElem? (i := 84) (by decide +kernel)) (by decide +kernel)⟩
theorem kX2_addSign : MVk iX2_addSign 2 := ⟨⟨tT1 (List.mem_of_getElem? (i := 6) (by decide +kernel)) (by decide +kernel), tT3 (List.mem_of_getElem? (i := 45) (by decide +kernel)) (by decide +kernel), ⟨by decide +kernel, by decide +kernel, by decide +kernel⟩, by decide +kernel, by decide +kernel⟩, tT3 (List.mem_of_getElem? (i := 43) (by decide +kernel)) (by decide +kernel), tT3 (List.mem_of_getElem? (i := 44) (by decide +kernel)) (by decide +kernel)⟩
theorem kX2_leapToHere : MVk iX2_leapToHere 1 := ⟨⟨tT1 (List.mem_of_getElem? (i := 6) (by decide +kernel)) (by decide +kernel), tT3 (List.mem_of_getElem? (i := 76) (by decide +kernel)) (by decide +kernel), ⟨by decide +kernel, by decide +kernel, by decide +kernel⟩, by decide +kernel, by decide +kernel⟩, tT3 (List.mem_of_getElem? (i := 74) (by decide +kernel)) (by decide +kernel), tT3 (List.mem_of_getElem? (i := 75) (by decide +kernel)) (by decide +kernel)⟩
theorem kX2_beginClause : MVk iX2_beginClause 1 := ⟨⟨tT1 (List.mem_of_getElem? (i := 6) (by decide +kernel)) (by decide +kernel), tT3 (List.mem_of_getElem? (i := 15) (by decide +kernel)) (by decide +kernel), ⟨by decide +kernel, by decide +kernel, by decide +kernel⟩, by decide +kernel, by decide +kernel⟩, tT3 (List.mem_of_getElem? (i := 13) (by decide +kernel)) (by decide +kernel), tT3 (List.mem_of_getElem? (i := 14) (by decide +kernel)) (by decide +kernel)⟩
theorem kX2_beginCondition : MVk iX2_beginCondition 0 := ⟨⟨tT1 (List.mem_of_getElem? (i := 6) (by decide +kernel)) (by decide +kernel), tT3 (List.mem_of_getElem? (i := 52) (by decide +kernel)) (by decide +kernel), ⟨by decide +kernel, by decide +kernel, by decide +kernel⟩, by decide +kernel, by decide +kernel⟩, tT3 (List.mem_of_getElem? (i := 50) (by decide +kernel)) (by decide +kernel), tT3 (List.mem_of_getElem? (i := 51) (by decide +kernel)) (by decide +kernel)⟩
theorem kX2_endClause : MVk iX2_endClause 0 := ⟨⟨tT1 (List.mem_of_getElem? (i := 6) (by decide +kernel)) (by decide +kernel), tT3 (List.mem_of_getElem? (i := 81) (by decide +kernel)) (by decide +kernel), ⟨by decide +kernel, by decide +kernel, by decide +kernel⟩, by decide +kernel, by decide +kernel⟩, tT3 (List.mem_of_getElem? (i := 79) (by decide +kernel)) (by decide +kernel), tT3 (List.mem_of_getElem? (i := 80) (by decide +kernel)) (by decide +kernel)⟩
theorem kX2_anyHolds : MVk iX2_anyHolds 2 := ⟨⟨tT1 (List.mem_of_getElem? (i := 6) (by decide +kernel)) (by decide +kernel), tT3 (List.mem_of_getElem? (i := 142) (by decide +kernel)) (by decide +kernel), ⟨by decide +kernel, by decide +kernel, by decide +kernel⟩, by decide +kernel, by decide +kernel⟩, tT3 (List.mem_of_getElem? (i := 140) (by decide +kernel)) (by decide +kernel), tT3 (List.mem_of_getElem? (i := 141) (by decide +kernel)) (by decide +kernel)⟩
theorem kX2_firstWorth : MVk iX2_firstWorth 3 := ⟨⟨tT1 (List.mem_of_getElem? (i := 6) (by decide +kernel)) (by decide +kernel), tT3 (List.mem_of_getElem? (i := 167) (by decide +kernel)) (by decide +kernel), ⟨by decide +kernel, by decide +kernel, by decide +kernel⟩, by decide +kernel, by decide +kernel⟩, tT3 (List.mem_of_getElem? (i := 165) (by decide +kernel)) (by decide +kernel), tT3 (List.mem_of_getElem? (i := 166) (by decide +kernel)) (by decide +kernel)⟩
theorem kX2_worth : MVk iX2_worth 3 := ⟨⟨tT1 (List.mem_of_getElem? (i := 6) (by decide +kernel)) (by decide +kernel), tT3 (List.mem_of_getElem? (i := 146) (by decide +kernel)) (by decide +kernel), ⟨by decide +kernel, by decide +kernel, by decide +kernel⟩, by decide +kernel, by decide +kernel⟩, tT3 (List.mem_of_getElem? (i := 145) (by decide +kernel)) (by decide +kernel), tP (List.mem_of_getElem? (i := 16) (by decide +kernel)) (by decide +kernel)⟩
theorem kX2_isRefused : MSk iX2_isRefused 2 := ⟨⟨tT1 (List.mem_of_getElem? (i := 6) (by decide +kernel)) (by decide +kernel), tT3 (List.mem_of_getElem? (i := 151) (by decide +kernel)) (by decide +kernel), ⟨by decide +kernel, by decide +kernel, by decide +kernel⟩, by decide +kernel, by decide +kernel⟩, tT3 (List.mem_of_getElem? (i := 150) (by decide +kernel)) (by decide +kernel)⟩
theorem kX2_combined : MSk iX2_combined 3 := ⟨⟨tT1 (List.mem_of_getElem? (i := 6) (by decide +kernel)) (by decide +kernel), tT3 (List.mem_of_getElem? (i := 154) (by decide +kernel)) (by decide +kernel), ⟨by decide +kernel, by decide +kernel, by decide +kernel⟩, by decide +kernel, by decide +kernel⟩, tT3 (List.mem_of_getElem? (i := 153) (by decide +kernel)) (by decide +kernel)⟩
theorem kX3_readText : MVk iX3_readText 1 := ⟨⟨tT1 (List.mem_of_getElem? (i := 7) (by decide +kernel)) (by decide +kernel), tT2 (List.mem_of_getElem? (i := 151) (by decide +kernel)) (by decide +kernel), ⟨by decide +kernel, by decide +kernel, by decide +kernel⟩, by decide +kernel, by decide +kernel⟩, tT2 (List.mem_of_getElem? (i := 149) (by decide +kernel)) (by decide +kernel), tT2 (List.mem_of_getElem? (i := 150) (by decide +kernel)) (by decide +kernel)⟩
theorem kX3_readClause : MVk iX3_readClause 0 := ⟨⟨tT1 (List.mem_of_getElem? (i := 7) (by decide +kernel)) (by decide +kernel), tT2 (List.mem_of_getElem? (i := 162) (by decide +kernel)) (by decide +kernel), ⟨by decide +kernel, by decide +kernel, by decide +kernel⟩, by decide +kernel, by decide +kernel⟩, tT2 (List.mem_of_getElem? (i := 161) (by decide +kernel)) (by decide +kernel), tP (List.mem_of_getElem? (i := 0) (by decide +kernel)) (by decide +kernel)⟩
theorem kX3_readChoice : MVk iX3_readChoice 1 := ⟨⟨tT1 (List.mem_of_getElem? (i := 7) (by decide +kernel)) (by decide +kernel), tT3 (List.mem_of_getElem? (i := 56) (by decide +kernel)) (by decide +kernel), ⟨by decide +kernel, by decide +kernel, by decide +kernel⟩, by decide +kernel, by decide +kernel⟩, tT3 (List.mem_of_getElem? (i := 55) (by decide +kernel)) (by decide +kernel), tP (List.mem_of_getElem? (i := 10) (by decide +kernel)) (by decide +kernel)⟩
theorem kX3_readPart : MVk iX3_readPart 1 := ⟨⟨tT1 (List.mem_of_getElem? (i := 7) (by decide +kernel)) (by decide +kernel), tT3 (List.mem_of_getElem? (i := 60) (by decide +kernel)) (by decide +kernel), ⟨by decide +kernel, by decide +kernel, by decide +kernel⟩, by decide +kernel, by decide +kernel⟩, tT3 (List.mem_of_getElem? (i := 59) (by decide +kernel)) (by decide +kernel), tP (List.mem_of_getElem? (i := 11) (by decide +kernel)) (by decide +kernel)⟩
theorem kX3_readPiece : MVk iX3_readPiece 1 := ⟨⟨tT1 (List.mem_of_getElem? (i := 7) (by decide +kernel)) (by decide +kernel), tT3 (List.mem_of_getElem? (i := 64) (by decide +kernel)) (by decide +kernel), ⟨by decide +kernel, by decide +kernel, by decide +kernel⟩, by decide +kernel, by decide +kernel⟩, tT3 (List.mem_of_getElem? (i := 63) (by decide +kernel)) (by decide +kernel), tP (List.mem_of_getElem? (i := 12) (by decide +kernel)) (by decide +kernel)⟩
theorem kX3_readComparison : MVk iX3_readComparison 1 := ⟨⟨tT1 (List.mem_of_getElem? (i := 7) (by decide +kernel)) (by decide +kernel), tT3 (List.mem_of_getElem? (i := 70) (by decide +kernel)) (by decide +kernel), ⟨by decide +kernel, by decide +kernel, by decide +kernel⟩, by decide +kernel, by decide +kernel⟩, tT3 (List.mem_of_getElem? (i := 69) (by decide +kernel)) (by decide +kernel), tP (List.mem_of_getElem? (i := 13) (by decide +kernel)) (by decide +kernel)⟩
theorem kX3_readSum : MVk iX3_readSum 1 := ⟨⟨tT1 (List.mem_of_getElem? (i := 7) (by decide +kernel)) (by decide +kernel), tT3 (List.mem_of_getElem? (i := 19) (by decide +kernel)) (by decide +kernel), ⟨by decide +kernel, by decide +kernel, by decide +kernel⟩, by decide +kernel, by decide +kernel⟩, tT3 (List.mem_of_getElem? (i := 18) (by decide +kernel)) (by decide +kernel), tP (List.mem_of_getElem? (i := 4) (by decide +kernel)) (by decide +kernel)⟩
theorem kX3_readTerm : MVk iX3_readTerm 1 := ⟨⟨tT1 (List.mem_of_getElem? (i := 7) (by decide +kernel)) (by decide +kernel), tT3 (List.mem_of_getElem? (i := 23) (by decide +kernel)) (by decide +kernel), ⟨by decide +kernel, by decide +kernel, by decide +kernel⟩, by decide +kernel, by decide +kernel⟩, tT3 (List.mem_of_getElem? (i := 22) (by decide +kernel)) (by decide +kernel), tP (List.mem_of_getElem? (i := 5) (by decide +kernel)) (by decide +kernel)⟩
theorem kX3_readFactor : MVk iX3_readFactor 1 := ⟨⟨tT1 (List.mem_of_getElem? (i := 7) (by decide +kernel)) (by decide +kernel), tT3 (List.mem_of_getElem? (i := 27) (by decide +kernel)) (by decide +kernel), ⟨by decide +kernel, by decide +kernel, by decide +kernel⟩, by decide +kernel, by decide +kernel⟩, tT3 (List.mem_of_getElem? (i := 26) (by decide +kernel)) (by decide +kernel), tP (List.mem_of_getElem? (i := 6) (by decide +kernel)) (by decide +kernel)⟩
theorem kX3_readNumber : MVk iX3_readNumber 0 := ⟨⟨tT1 (List.mem_of_getElem? (i := 7) (by decide +kernel)) (by decide +kernel), tT3 (List.mem_of_getElem? (i := 41) (by decide +kernel)) (by decide +kernel), ⟨by decide +kernel, by decide +kernel, by decide +kernel⟩, by decide +kernel, by decide +kernel⟩, tT3 (List.mem_of_getElem? (i := 40) (by decide +kernel)) (by decide +kernel), tP (List.mem_of_getElem? (i := 9) (by decide +kernel)) (by decide +kernel)⟩
theorem kX3_opens : MVk iX3_opens 1 := ⟨⟨tT1 (List.mem_of_getElem? (i := 7) (by decide +kernel)) (by decide +kernel), tT3 (List.mem_of_getElem? (i := 32) (by decide +kernel)) (by decide +kernel), ⟨by decide +kernel, by decide +kernel, by decide +kernel⟩, by decide +kernel, by decide +kernel⟩, tT3 (List.mem_of_getElem? (i := 31) (by decide +kernel)) (by decide +kernel), tP (List.mem_of_getElem? (i := 7) (by decide +kernel)) (by decide +kernel)⟩
theorem kX3_pass : MVk iX3_pass 1 := ⟨⟨tT1 (List.mem_of_getElem? (i := 7) (by decide +kernel)) (by decide +kernel), tT3 (List.mem_of_getElem? (i := 36) (by decide +kernel)) (by decide +kernel), ⟨by decide +kernel, by decide +kernel, by decide +kernel⟩, by decide +kernel, by decide +kernel⟩, tT3 (List.mem_of_getElem? (i := 35) (by decide +kernel)) (by decide +kernel), tP (List.mem_of_getElem? (i := 8) (by decide +kernel)) (by decide +kernel)⟩
theorem kX3_sign : MVk iX3_sign 0 := ⟨⟨tT1 (List.mem_of_getElem? (i := 7) (by decide +kernel)) (by decide +kernel), tT3 (List.mem_of_getElem? (i := 11) (by decide +kernel)) (by decide +kernel), ⟨by decide +kernel, by decide +kernel, by decide +kernel⟩, by decide +kernel, by decide +kernel⟩, tT3 (List.mem_of_getElem? (i := 10) (by decide +kernel)) (by decide +kernel), tP (List.mem_of_getElem? (i := 3) (by decide +kernel)) (by decide +kernel)⟩
theorem kX3_isNext : MVk iX3_isNext 1 := ⟨⟨tT1 (List.mem_of_getElem? (i := 7) (by decide +kernel)) (by decide +kernel), tT2 (List.mem_of_getElem? (i := 167) (by decide +kernel)) (by decide +kernel), ⟨by decide +kernel, by decide +kernel, by decide +kernel⟩, by decide +kernel, by decide +kernel⟩, tT2 (List.mem_of_getElem? (i := 166) (by decide +kernel)) (by decide +kernel), tP (List.mem_of_getElem? (i := 1) (by decide +kernel)) (by decide +kernel)⟩
theorem kX3_fail : MVk iX3_fail 1 := ⟨⟨tT1 (List.mem_of_getElem? (i := 7) (by decide +kernel)) (by decide +kernel), tT3 (List.mem_of_getElem? (i := 6) (by decide +kernel)) (by decide +kernel), ⟨by decide +kernel, by decide +kernel, by decide +kernel⟩, by decide +kernel, by decide +kernel⟩, tT3 (List.mem_of_getElem? (i := 5) (by decide +kernel)) (by decide +kernel), tP (List.mem_of_getElem? (i := 2) (by decide +kernel)) (by decide +kernel)⟩
theorem kX4_tellSwearer : MVk iX4_tellSwearer 2 := ⟨⟨tT1 (List.mem_of_getElem? (i := 3) (by decide +kernel)) (by decide +kernel), tT3 (List.mem_of_getElem? (i := 133) (by decide +kernel)) (by decide +kernel), ⟨by decide +kernel, by decide +kernel, by decide +kernel⟩, by decide +kernel, by decide +kernel⟩, tT3 (List.mem_of_getElem? (i := 131) (by decide +kernel)) (by decide +kernel), tT3 (List.mem_of_getElem? (i := 132) (by decide +kernel)) (by decide +kernel)⟩
theorem kX4_tellSwornTo : MVk iX4_tellSwornTo 2 := ⟨⟨tT1 (List.mem_of_getElem? (i := 3) (by decide +kernel)) (by decide +kernel), tT3 (List.mem_of_getElem? (i := 138) (by decide +kernel)) (by decide +kernel), ⟨by decide +kernel, by decide +kernel, by decide +kernel⟩, by decide +kernel, by decide +kernel⟩, tT3 (List.mem_of_getElem? (i := 136) (by decide +kernel)) (by decide +kernel), tT3 (List.mem_of_getElem? (i := 137) (by decide +kernel)) (by decide +kernel)⟩
theorem kX4_tellTime : MVk iX4_tellTime 2 := ⟨⟨tT1 (List.mem_of_getElem? (i := 3) (by decide +kernel)) (by decide +kernel), tT3 (List.mem_of_getElem? (i := 119) (by decide +kernel)) (by decide +kernel), ⟨by decide +kernel, by decide +kernel, by decide +kernel⟩, by decide +kernel, by decide +kernel⟩, tT3 (List.mem_of_getElem? (i := 117) (by decide +kernel)) (by decide +kernel), tT3 (List.mem_of_getElem? (i := 118) (by decide +kernel)) (by decide +kernel)⟩
theorem kX5_search : MVk iX5_search 3 := ⟨⟨tT1 (List.mem_of_getElem? (i := 10) (by decide +kernel)) (by decide +kernel), tT4 (List.mem_of_getElem? (i := 73) (by decide +kernel)) (by decide +kernel), ⟨by decide +kernel, by decide +kernel, by decide +kernel⟩, by decide +kernel, by decide +kernel⟩, tT4 (List.mem_of_getElem? (i := 71) (by decide +kernel)) (by decide +kernel), tT4 (List.mem_of_getElem? (i := 72) (by decide +kernel)) (by decide +kernel)⟩
theorem kX5_whoCouldSwear : MVk iX5_whoCouldSwear 1 := ⟨⟨tT1 (List.mem_of_getElem? (i := 10) (by decide +kernel)) (by decide +kernel), tT4 (List.mem_of_getElem? (i := 77) (by decide +kernel)) (by decide +kernel), ⟨by decide +kernel, by decide +kernel, by decide +kernel⟩, by decide +kernel, by decide +kernel⟩, tT4 (List.mem_of_getElem? (i := 76) (by decide +kernel)) (by decide +kernel), tP (List.mem_of_getElem? (i := 24) (by decide +kernel)) (by decide +kernel)⟩
theorem kX5_isBetter : MVk iX5_isBetter 2 := ⟨⟨tT1 (List.mem_of_getElem? (i := 10) (by decide +kernel)) (by decide +kernel), tT4 (List.mem_of_getElem? (i := 88) (by decide +kernel)) (by decide +kernel), ⟨by decide +kernel, by decide +kernel, by decide +kernel⟩, by decide +kernel, by decide +kernel⟩, tT4 (List.mem_of_getElem? (i := 87) (by decide +kernel)) (by decide +kernel), tP (List.mem_of_getElem? (i := 26) (by decide +kernel)) (by decide +kernel)⟩
theorem kX5_priceOfAll : MVk iX5_priceOfAll 2 := ⟨⟨tT1 (List.mem_of_getElem? (i := 10) (by decide +kernel)) (by decide +kernel), tT4 (List.mem_of_getElem? (i := 83) (by decide +kernel)) (by decide +kernel), ⟨by decide +kernel, by decide +kernel, by decide +kernel⟩, by decide +kernel, by decide +kernel⟩, tT4 (List.mem_of_getElem? (i := 82) (by decide +kernel)) (by decide +kernel), tP (List.mem_of_getElem? (i := 25) (by decide +kernel)) (by decide +kernel)⟩
theorem kX6_reckon : MVk iX6_reckon 2 := ⟨⟨tT1 (List.mem_of_getElem? (i := 8) (by decide +kernel)) (by decide +kernel), tT3 (List.mem_of_getElem? (i := 114) (by decide +kernel)) (by decide +kernel), ⟨by decide +kernel, by decide +kernel, by decide +kernel⟩, by decide +kernel, by decide +kernel⟩, tT3 (List.mem_of_getElem? (i := 112) (by decide +kernel)) (by decide +kernel), tT3 (List.mem_of_getElem? (i := 113) (by decide +kernel)) (by decide +kernel)⟩
theorem kX6_reckonPrices : MVk iX6_reckonPrices 0 := ⟨⟨tT1 (List.mem_of_getElem? (i := 8) (by decide +kernel)) (by decide +kernel), tT3 (List.mem_of_getElem? (i := 188) (by decide +kernel)) (by decide +kernel), ⟨by decide +kernel, by decide +kernel, by decide +kernel⟩, by decide +kernel, by decide +kernel⟩, tT3 (List.mem_of_getElem? (i := 186) (by decide +kernel)) (by decide +kernel), tT3 (List.mem_of_getElem? (i := 187) (by decide +kernel)) (by decide +kernel)⟩
theorem kX6_leads : MVk iX6_leads 2 := ⟨⟨tT1 (List.mem_of_getElem? (i := 8) (by decide +kernel)) (by decide +kernel), tT3 (List.mem_of_getElem? (i := 158) (by decide +kernel)) (by decide +kernel), ⟨by decide +kernel, by decide +kernel, by decide +kernel⟩, by decide +kernel, by decide +kernel⟩, tT3 (List.mem_of_getElem? (i := 156) (by decide +kernel)) (by decide +kernel), tT3 (List.mem_of_getElem? (i := 157) (by decide +kernel)) (by decide +kernel)⟩
theorem kX6_priceByLaw : MVk iX6_priceByLaw 2 := ⟨⟨tT1 (List.mem_of_getElem? (i := 8) (by decide +kernel)) (by decide +kernel), tT3 (List.mem_of_getElem? (i := 163) (by decide +kernel)) (by decide +kernel), ⟨by decide +kernel, by decide +kernel, by decide +kernel⟩, by decide +kernel, by decide +kernel⟩, tT3 (List.mem_of_getElem? (i := 161) (by decide +kernel)) (by decide +kernel), tT3 (List.mem_of_getElem? (i := 162) (by decide +kernel)) (by decide +kernel)⟩
theorem kX6_priceOf : MVk iX6_priceOf 2 := ⟨⟨tT1 (List.mem_of_getElem? (i := 8) (by decide +kernel)) (by decide +kernel), tT3 (List.mem_of_getElem? (i := 198) (by decide +kernel)) (by decide +kernel), ⟨by decide +kernel, by decide +kernel, by decide +kernel⟩, by decide +kernel, by decide +kernel⟩, tT3 (List.mem_of_getElem? (i := 196) (by decide +kernel)) (by decide +kernel), tT3 (List.mem_of_getElem? (i := 197) (by decide +kernel)) (by decide +kernel)⟩
theorem kX6_leastAsked : MVk iX6_leastAsked 2 := ⟨⟨tT1 (List.mem_of_getElem? (i := 8) (by decide +kernel)) (by decide +kernel), tT3 (List.mem_of_getElem? (i := 194) (by decide +kernel)) (by decide +kernel), ⟨by decide +kernel, by decide +kernel, by decide +kernel⟩, by decide +kernel, by decide +kernel⟩, tT3 (List.mem_of_getElem? (i := 192) (by decide +kernel)) (by decide +kernel), tT3 (List.mem_of_getElem? (i := 193) (by decide +kernel)) (by decide +kernel)⟩
theorem kX6_reachFrom : MVk iX6_reachFrom 2 := ⟨⟨tT1 (List.mem_of_getElem? (i := 8) (by decide +kernel)) (by decide +kernel), tT3 (List.mem_of_getElem? (i := 211) (by decide +kernel)) (by decide +kernel), ⟨by decide +kernel, by decide +kernel, by decide +kernel⟩, by decide +kernel, by decide +kernel⟩, tT3 (List.mem_of_getElem? (i := 209) (by decide +kernel)) (by decide +kernel), tT3 (List.mem_of_getElem? (i := 210) (by decide +kernel)) (by decide +kernel)⟩
theorem kX6_comesToTop : MVk iX6_comesToTop 2 := ⟨⟨tT1 (List.mem_of_getElem? (i := 8) (by decide +kernel)) (by decide +kernel), tT3 (List.mem_of_getElem? (i := 207) (by decide +kernel)) (by decide +kernel), ⟨by decide +kernel, by decide +kernel, by decide +kernel⟩, by decide +kernel, by decide +kernel⟩, tT3 (List.mem_of_getElem? (i := 205) (by decide +kernel)) (by decide +kernel), tT3 (List.mem_of_getElem? (i := 206) (by decide +kernel)) (by decide +kernel)⟩
theorem kX6_heldOaths : MVk iX6_heldOaths 1 := ⟨⟨tT1 (List.mem_of_getElem? (i := 8) (by decide +kernel)) (by decide +kernel), tT4 (List.mem_of_getElem? (i := 32) (by decide +kernel)) (by decide +kernel), ⟨by decide +kernel, by decide +kernel, by decide +kernel⟩, by decide +kernel, by decide +kernel⟩, tT4 (List.mem_of_getElem? (i := 30) (by decide +kernel)) (by decide +kernel), tT4 (List.mem_of_getElem? (i := 31) (by decide +kernel)) (by decide +kernel)⟩
theorem kX6_outlasts : MVk iX6_outlasts 3 := ⟨⟨tT1 (List.mem_of_getElem? (i := 8) (by decide +kernel)) (by decide +kernel), tT4 (List.mem_of_getElem? (i := 92) (by decide +kernel)) (by decide +kernel), ⟨by decide +kernel, by decide +kernel, by decide +kernel⟩, by decide +kernel, by decide +kernel⟩, tT4 (List.mem_of_getElem? (i := 90) (by decide +kernel)) (by decide +kernel), tT4 (List.mem_of_getElem? (i := 91) (by decide +kernel)) (by decide +kernel)⟩
theorem kX6_withHelpers : MVk iX6_withHelpers 2 := ⟨⟨tT1 (List.mem_of_getElem? (i := 8) (by decide +kernel)) (by decide +kernel), tT4 (List.mem_of_getElem? (i := 36) (by decide +kernel)) (by decide +kernel), ⟨by decide +kernel, by decide +kernel, by decide +kernel⟩, by decide +kernel, by decide +kernel⟩, tT4 (List.mem_of_getElem? (i := 35) (by decide +kernel)) (by decide +kernel), tP (List.mem_of_getElem? (i := 22) (by decide +kernel)) (by decide +kernel)⟩
theorem kX6_orderUpward : MVk iX6_orderUpward 0 := ⟨⟨tT1 (List.mem_of_getElem? (i := 8) (by decide +kernel)) (by decide +kernel), tT3 (List.mem_of_getElem? (i := 123) (by decide +kernel)) (by decide +kernel), ⟨by decide +kernel, by decide +kernel, by decide +kernel⟩, by decide +kernel, by decide +kernel⟩, tT3 (List.mem_of_getElem? (i := 122) (by decide +kernel)) (by decide +kernel), tP (List.mem_of_getElem? (i := 14) (by decide +kernel)) (by decide +kernel)⟩
theorem kX6_isLet : MVk iX6_isLet 2 := ⟨⟨tT1 (List.mem_of_getElem? (i := 8) (by decide +kernel)) (by decide +kernel), tT3 (List.mem_of_getElem? (i := 129) (by decide +kernel)) (by decide +kernel), ⟨by decide +kernel, by decide +kernel, by decide +kernel⟩, by decide +kernel, by decide +kernel⟩, tT3 (List.mem_of_getElem? (i := 128) (by decide +kernel)) (by decide +kernel), tP (List.mem_of_getElem? (i := 15) (by decide +kernel)) (by decide +kernel)⟩
theorem kX7_addWord : MVk iX7_addWord 1 := ⟨⟨tT1 (List.mem_of_getElem? (i := 5) (by decide +kernel)) (by decide +kernel), tT2 (List.mem_of_getElem? (i := 143) (by decide +kernel)) (by decide +kernel), ⟨by decide +kernel, by decide +kernel, by decide +kernel⟩, by decide +kernel, by decide +kernel⟩, tT2 (List.mem_of_getElem? (i := 141) (by decide +kernel)) (by decide +kernel), tT2 (List.mem_of_getElem? (i := 142) (by decide +kernel)) (by decide +kernel)⟩
theorem kX7_wordAt : MVk iX7_wordAt 1 := ⟨⟨tT1 (List.mem_of_getElem? (i := 5) (by decide +kernel)) (by decide +kernel), tT4 (List.mem_of_getElem? (i := 169) (by decide +kernel)) (by decide +kernel), ⟨by decide +kernel, by decide +kernel, by decide +kernel⟩, by decide +kernel, by decide +kernel⟩, tT4 (List.mem_of_getElem? (i := 167) (by decide +kernel)) (by decide +kernel), tT4 (List.mem_of_getElem? (i := 168) (by decide +kernel)) (by decide +kernel)⟩
theorem kX8_copyFrom : MVk iX8_copyFrom 1 := ⟨⟨tT1 (List.mem_of_getElem? (i := 2) (by decide +kernel)) (by decide +kernel), tT4 (List.mem_of_getElem? (i := 23) (by decide +kernel)) (by decide +kernel), ⟨by decide +kernel, by decide +kernel, by decide +kernel⟩, by decide +kernel, by decide +kernel⟩, tT4 (List.mem_of_getElem? (i := 21) (by decide +kernel)) (by decide +kernel), tT4 (List.mem_of_getElem? (i := 22) (by decide +kernel)) (by decide +kernel)⟩
theorem kX8_addPerson : MVk iX8_addPerson 4 := ⟨⟨tT1 (List.mem_of_getElem? (i := 2) (by decide +kernel)) (by decide +kernel), tT2 (List.mem_of_getElem? (i := 116) (by decide +kernel)) (by decide +kernel), ⟨by decide +kernel, by decide +kernel, by decide +kernel⟩, by decide +kernel, by decide +kernel⟩, tT2 (List.mem_of_getElem? (i := 114) (by decide +kernel)) (by decide +kernel), tT2 (List.mem_of_getElem? (i := 115) (by decide +kernel)) (by decide +kernel)⟩
theorem kX8_addOath : MVk iX8_addOath 1 := ⟨⟨tT1 (List.mem_of_getElem? (i := 2) (by decide +kernel)) (by decide +kernel), tT3 (List.mem_of_getElem? (i := 175) (by decide +kernel)) (by decide +kernel), ⟨by decide +kernel, by decide +kernel, by decide +kernel⟩, by decide +kernel, by decide +kernel⟩, tT3 (List.mem_of_getElem? (i := 173) (by decide +kernel)) (by decide +kernel), tT3 (List.mem_of_getElem? (i := 174) (by decide +kernel)) (by decide +kernel)⟩
theorem kX8_isPerson : MVk iX8_isPerson 1 := ⟨⟨tT1 (List.mem_of_getElem? (i := 2) (by decide +kernel)) (by decide +kernel), tT2 (List.mem_of_getElem? (i := 128) (by decide +kernel)) (by decide +kernel), ⟨by decide +kernel, by decide +kernel, by decide +kernel⟩, by decide +kernel, by decide +kernel⟩, tT2 (List.mem_of_getElem? (i := 126) (by decide +kernel)) (by decide +kernel), tT2 (List.mem_of_getElem? (i := 127) (by decide +kernel)) (by decide +kernel)⟩
theorem kX8_isOath : MVk iX8_isOath 1 := ⟨⟨tT1 (List.mem_of_getElem? (i := 2) (by decide +kernel)) (by decide +kernel), tT3 (List.mem_of_getElem? (i := 183) (by decide +kernel)) (by decide +kernel), ⟨by decide +kernel, by decide +kernel, by decide +kernel⟩, by decide +kernel, by decide +kernel⟩, tT3 (List.mem_of_getElem? (i := 181) (by decide +kernel)) (by decide +kernel), tT3 (List.mem_of_getElem? (i := 182) (by decide +kernel)) (by decide +kernel)⟩
theorem kX8_lives : MVk iX8_lives 1 := ⟨⟨tT1 (List.mem_of_getElem? (i := 2) (by decide +kernel)) (by decide +kernel), tT2 (List.mem_of_getElem? (i := 124) (by decide +kernel)) (by decide +kernel), ⟨by decide +kernel, by decide +kernel, by decide +kernel⟩, by decide +kernel, by decide +kernel⟩, tT2 (List.mem_of_getElem? (i := 122) (by decide +kernel)) (by decide +kernel), tT2 (List.mem_of_getElem? (i := 123) (by decide +kernel)) (by decide +kernel)⟩
theorem kX8_heightOf : MVk iX8_heightOf 1 := ⟨⟨tT1 (List.mem_of_getElem? (i := 2) (by decide +kernel)) (by decide +kernel), tT3 (List.mem_of_getElem? (i := 97) (by decide +kernel)) (by decide +kernel), ⟨by decide +kernel, by decide +kernel, by decide +kernel⟩, by decide +kernel, by decide +kernel⟩, tT3 (List.mem_of_getElem? (i := 95) (by decide +kernel)) (by decide +kernel), tT3 (List.mem_of_getElem? (i := 96) (by decide +kernel)) (by decide +kernel)⟩
theorem kX8_tallestOne : MVk iX8_tallestOne 0 := ⟨⟨tT1 (List.mem_of_getElem? (i := 2) (by decide +kernel)) (by decide +kernel), tT3 (List.mem_of_getElem? (i := 105) (by decide +kernel)) (by decide +kernel), ⟨by decide +kernel, by decide +kernel, by decide +kernel⟩, by decide +kernel, by decide +kernel⟩, tT3 (List.mem_of_getElem? (i := 103) (by decide +kernel)) (by decide +kernel), tT3 (List.mem_of_getElem? (i := 104) (by decide +kernel)) (by decide +kernel)⟩
theorem kX8_nextDraw : MVk iX8_nextDraw 0 := ⟨⟨tT1 (List.mem_of_getElem? (i := 2) (by decide +kernel)) (by decide +kernel), tT4 (List.mem_of_getElem? (i := 14) (by decide +kernel)) (by decide +kernel), ⟨by decide +kernel, by decide +kernel, by decide +kernel⟩, by decide +kernel, by decide +kernel⟩, tT4 (List.mem_of_getElem? (i := 12) (by decide +kernel)) (by decide +kernel), tT4 (List.mem_of_getElem? (i := 13) (by decide +kernel)) (by decide +kernel)⟩
theorem kX8_passYear : MVk iX8_passYear 2 := ⟨⟨tT1 (List.mem_of_getElem? (i := 2) (by decide +kernel)) (by decide +kernel), tT3 (List.mem_of_getElem? (i := 219) (by decide +kernel)) (by decide +kernel), ⟨by decide +kernel, by decide +kernel, by decide +kernel⟩, by decide +kernel, by decide +kernel⟩, tT3 (List.mem_of_getElem? (i := 217) (by decide +kernel)) (by decide +kernel), tT3 (List.mem_of_getElem? (i := 218) (by decide +kernel)) (by decide +kernel)⟩
theorem kX8_growOlder : MVk iX8_growOlder 0 := ⟨⟨tT1 (List.mem_of_getElem? (i := 2) (by decide +kernel)) (by decide +kernel), tT3 (List.mem_of_getElem? (i := 224) (by decide +kernel)) (by decide +kernel), ⟨by decide +kernel, by decide +kernel, by decide +kernel⟩, by decide +kernel, by decide +kernel⟩, tT3 (List.mem_of_getElem? (i := 223) (by decide +kernel)) (by decide +kernel), tP (List.mem_of_getElem? (i := 17) (by decide +kernel)) (by decide +kernel)⟩
theorem kX8_growTaller : MVk iX8_growTaller 1 := ⟨⟨tT1 (List.mem_of_getElem? (i := 2) (by decide +kernel)) (by decide +kernel), tT3 (List.mem_of_getElem? (i := 229) (by decide +kernel)) (by decide +kernel), ⟨by decide +kernel, by decide +kernel, by decide +kernel⟩, by decide +kernel, by decide +kernel⟩, tT3 (List.mem_of_getElem? (i := 228) (by decide +kernel)) (by decide +kernel), tP (List.mem_of_getElem? (i := 18) (by decide +kernel)) (by decide +kernel)⟩
theorem kX8_whoDies : MVk iX8_whoDies 1 := ⟨⟨tT1 (List.mem_of_getElem? (i := 2) (by decide +kernel)) (by decide +kernel), tT3 (List.mem_of_getElem? (i := 235) (by decide +kernel)) (by decide +kernel), ⟨by decide +kernel, by decide +kernel, by decide +kernel⟩, by decide +kernel, by decide +kernel⟩, tT3 (List.mem_of_getElem? (i := 234) (by decide +kernel)) (by decide +kernel), tP (List.mem_of_getElem? (i := 19) (by decide +kernel)) (by decide +kernel)⟩
theorem kX9_person : MVk iX9_person 4 := ⟨⟨tT1 (List.mem_of_getElem? (i := 1) (by decide +kernel)) (by decide +kernel), tT2 (List.mem_of_getElem? (i := 109) (by decide +kernel)) (by decide +kernel), ⟨by decide +kernel, by decide +kernel, by decide +kernel⟩, by decide +kernel, by decide +kernel⟩, tT2 (List.mem_of_getElem? (i := 107) (by decide +kernel)) (by decide +kernel), tT2 (List.mem_of_getElem? (i := 108) (by decide +kernel)) (by decide +kernel)⟩
theorem kX9_heels : MVk iX9_heels 2 := ⟨⟨tT1 (List.mem_of_getElem? (i := 1) (by decide +kernel)) (by decide +kernel), tT2 (List.mem_of_getElem? (i := 120) (by decide +kernel)) (by decide +kernel), ⟨by decide +kernel, by decide +kernel, by decide +kernel⟩, by decide +kernel, by decide +kernel⟩, tT2 (List.mem_of_getElem? (i := 118) (by decide +kernel)) (by decide +kernel), tT2 (List.mem_of_getElem? (i := 119) (by decide +kernel)) (by decide +kernel)⟩
theorem kX9_dies : MVk iX9_dies 1 := ⟨⟨tT1 (List.mem_of_getElem? (i := 1) (by decide +kernel)) (by decide +kernel), tT2 (List.mem_of_getElem? (i := 135) (by decide +kernel)) (by decide +kernel), ⟨by decide +kernel, by decide +kernel, by decide +kernel⟩, by decide +kernel, by decide +kernel⟩, tT2 (List.mem_of_getElem? (i := 133) (by decide +kernel)) (by decide +kernel), tT2 (List.mem_of_getElem? (i := 134) (by decide +kernel)) (by decide +kernel)⟩
theorem kX9_feed : MVk iX9_feed 5 := ⟨⟨tT1 (List.mem_of_getElem? (i := 1) (by decide +kernel)) (by decide +kernel), tT2 (List.mem_of_getElem? (i := 139) (by decide +kernel)) (by decide +kernel), ⟨by decide +kernel, by decide +kernel, by decide +kernel⟩, by decide +kernel, by decide +kernel⟩, tT2 (List.mem_of_getElem? (i := 137) (by decide +kernel)) (by decide +kernel), tT2 (List.mem_of_getElem? (i := 138) (by decide +kernel)) (by decide +kernel)⟩
theorem kX9_law : MVk iX9_law 2 := ⟨⟨tT1 (List.mem_of_getElem? (i := 1) (by decide +kernel)) (by decide +kernel), tT2 (List.mem_of_getElem? (i := 147) (by decide +kernel)) (by decide +kernel), ⟨by decide +kernel, by decide +kernel, by decide +kernel⟩, by decide +kernel, by decide +kernel⟩, tT2 (List.mem_of_getElem? (i := 145) (by decide +kernel)) (by decide +kernel), tT2 (List.mem_of_getElem? (i := 146) (by decide +kernel)) (by decide +kernel)⟩
theorem kX9_tall : MVk iX9_tall 1 := ⟨⟨tT1 (List.mem_of_getElem? (i := 1) (by decide +kernel)) (by decide +kernel), tT3 (List.mem_of_getElem? (i := 92) (by decide +kernel)) (by decide +kernel), ⟨by decide +kernel, by decide +kernel, by decide +kernel⟩, by decide +kernel, by decide +kernel⟩, tT3 (List.mem_of_getElem? (i := 90) (by decide +kernel)) (by decide +kernel), tT3 (List.mem_of_getElem? (i := 91) (by decide +kernel)) (by decide +kernel)⟩
theorem kX9_top : MVk iX9_top 0 := ⟨⟨tT1 (List.mem_of_getElem? (i := 1) (by decide +kernel)) (by decide +kernel), tT3 (List.mem_of_getElem? (i := 101) (by decide +kernel)) (by decide +kernel), ⟨by decide +kernel, by decide +kernel, by decide +kernel⟩, by decide +kernel, by decide +kernel⟩, tT3 (List.mem_of_getElem? (i := 99) (by decide +kernel)) (by decide +kernel), tT3 (List.mem_of_getElem? (i := 100) (by decide +kernel)) (by decide +kernel)⟩
theorem kX9_step : MVk iX9_step 2 := ⟨⟨tT1 (List.mem_of_getElem? (i := 1) (by decide +kernel)) (by decide +kernel), tT3 (List.mem_of_getElem? (i := 110) (by decide +kernel)) (by decide +kernel), ⟨by decide +kernel, by decide +kernel, by decide +kernel⟩, by decide +kernel, by decide +kernel⟩, tT3 (List.mem_of_getElem? (i := 108) (by decide +kernel)) (by decide +kernel), tT3 (List.mem_of_getElem? (i := 109) (by decide +kernel)) (by decide +kernel)⟩
theorem kX9_oath : MVk iX9_oath 2 := ⟨⟨tT1 (List.mem_of_getElem? (i := 1) (by decide +kernel)) (by decide +kernel), tT3 (List.mem_of_getElem? (i := 171) (by decide +kernel)) (by decide +kernel), ⟨by decide +kernel, by decide +kernel, by decide +kernel⟩, by decide +kernel, by decide +kernel⟩, tT3 (List.mem_of_getElem? (i := 169) (by decide +kernel)) (by decide +kernel), tT3 (List.mem_of_getElem? (i := 170) (by decide +kernel)) (by decide +kernel)⟩
theorem kX9_swear : MVk iX9_swear 2 := ⟨⟨tT1 (List.mem_of_getElem? (i := 1) (by decide +kernel)) (by decide +kernel), tT3 (List.mem_of_getElem? (i := 179) (by decide +kernel)) (by decide +kernel), ⟨by decide +kernel, by decide +kernel, by decide +kernel⟩, by decide +kernel, by decide +kernel⟩, tT3 (List.mem_of_getElem? (i := 177) (by decide +kernel)) (by decide +kernel), tT3 (List.mem_of_getElem? (i := 178) (by decide +kernel)) (by decide +kernel)⟩
theorem kX9_holds : MVk iX9_holds 1 := ⟨⟨tT1 (List.mem_of_getElem? (i := 1) (by decide +kernel)) (by decide +kernel), tT3 (List.mem_of_getElem? (i := 203) (by decide +kernel)) (by decide +kernel), ⟨by decide +kernel, by decide +kernel, by decide +kernel⟩, by decide +kernel, by decide +kernel⟩, tT3 (List.mem_of_getElem? (i := 201) (by decide +kernel)) (by decide +kernel), tT3 (List.mem_of_getElem? (i := 202) (by decide +kernel)) (by decide +kernel)⟩
theorem kX9_year : MVk iX9_year 1 := ⟨⟨tT1 (List.mem_of_getElem? (i := 1) (by decide +kernel)) (by decide +kernel), tT3 (List.mem_of_getElem? (i := 215) (by decide +kernel)) (by decide +kernel), ⟨by decide +kernel, by decide +kernel, by decide +kernel⟩, by decide +kernel, by decide +kernel⟩, tT3 (List.mem_of_getElem? (i := 213) (by decide +kernel)) (by decide +kernel), tT3 (List.mem_of_getElem? (i := 214) (by decide +kernel)) (by decide +kernel)⟩
theorem kX9_years : MVk iX9_years 1 := ⟨⟨tT1 (List.mem_of_getElem? (i := 1) (by decide +kernel)) (by decide +kernel), tT4 (List.mem_of_getElem? (i := 6) (by decide +kernel)) (by decide +kernel), ⟨by decide +kernel, by decide +kernel, by decide +kernel⟩, by decide +kernel, by decide +kernel⟩, tT4 (List.mem_of_getElem? (i := 4) (by decide +kernel)) (by decide +kernel), tT4 (List.mem_of_getElem? (i := 5) (by decide +kernel)) (by decide +kernel)⟩
theorem kX9_tried : MVk iX9_tried 2 := ⟨⟨tT1 (List.mem_of_getElem? (i := 1) (by decide +kernel)) (by decide +kernel), tT4 (List.mem_of_getElem? (i := 19) (by decide +kernel)) (by decide +kernel), ⟨by decide +kernel, by decide +kernel, by decide +kernel⟩, by decide +kernel, by decide +kernel⟩, tT4 (List.mem_of_getElem? (i := 17) (by decide +kernel)) (by decide +kernel), tT4 (List.mem_of_getElem? (i := 18) (by decide +kernel)) (by decide +kernel)⟩
theorem kX9_chain : MVk iX9_chain 2 := ⟨⟨tT1 (List.mem_of_getElem? (i := 1) (by decide +kernel)) (by decide +kernel), tT4 (List.mem_of_getElem? (i := 42) (by decide +kernel)) (by decide +kernel), ⟨by decide +kernel, by decide +kernel, by decide +kernel⟩, by decide +kernel, by decide +kernel⟩, tT4 (List.mem_of_getElem? (i := 40) (by decide +kernel)) (by decide +kernel), tT4 (List.mem_of_getElem? (i := 41) (by decide +kernel)) (by decide +kernel)⟩
theorem kX9_safe : MVk iX9_safe 3 := ⟨⟨tT1 (List.mem_of_getElem? (i := 1) (by decide +kernel)) (by decide +kernel), tT4 (List.mem_of_getElem? (i := 69) (by decide +kernel)) (by decide +kernel), ⟨by decide +kernel, by decide +kernel, by decide +kernel⟩, by decide +kernel, by decide +kernel⟩, tT4 (List.mem_of_getElem? (i := 67) (by decide +kernel)) (by decide +kernel), tT4 (List.mem_of_getElem? (i := 68) (by decide +kernel)) (by decide +kernel)⟩
theorem kX9_cut : MVk iX9_cut 1 := ⟨⟨tT1 (List.mem_of_getElem? (i := 1) (by decide +kernel)) (by decide +kernel), tT4 (List.mem_of_getElem? (i := 99) (by decide +kernel)) (by decide +kernel), ⟨by decide +kernel, by decide +kernel, by decide +kernel⟩, by decide +kernel, by decide +kernel⟩, tT4 (List.mem_of_getElem? (i := 97) (by decide +kernel)) (by decide +kernel), tT4 (List.mem_of_getElem? (i := 98) (by decide +kernel)) (by decide +kernel)⟩
theorem kX9_soonest : MVk iX9_soonest 1 := ⟨⟨tT1 (List.mem_of_getElem? (i := 1) (by decide +kernel)) (by decide +kernel), tT4 (List.mem_of_getElem? (i := 105) (by decide +kernel)) (by decide +kernel), ⟨by decide +kernel, by decide +kernel, by decide +kernel⟩, by decide +kernel, by decide +kernel⟩, tT4 (List.mem_of_getElem? (i := 103) (by decide +kernel)) (by decide +kernel), tT4 (List.mem_of_getElem? (i := 104) (by decide +kernel)) (by decide +kernel)⟩
theorem kX9_against : MVk iX9_against 4 := ⟨⟨tT1 (List.mem_of_getElem? (i := 1) (by decide +kernel)) (by decide +kernel), tT4 (List.mem_of_getElem? (i := 109) (by decide +kernel)) (by decide +kernel), ⟨by decide +kernel, by decide +kernel, by decide +kernel⟩, by decide +kernel, by decide +kernel⟩, tT4 (List.mem_of_getElem? (i := 107) (by decide +kernel)) (by decide +kernel), tT4 (List.mem_of_getElem? (i := 108) (by decide +kernel)) (by decide +kernel)⟩
theorem kX9_whom : MVk iX9_whom 3 := ⟨⟨tT1 (List.mem_of_getElem? (i := 1) (by decide +kernel)) (by decide +kernel), tT4 (List.mem_of_getElem? (i := 127) (by decide +kernel)) (by decide +kernel), ⟨by decide +kernel, by decide +kernel, by decide +kernel⟩, by decide +kernel, by decide +kernel⟩, tT4 (List.mem_of_getElem? (i := 125) (by decide +kernel)) (by decide +kernel), tT4 (List.mem_of_getElem? (i := 126) (by decide +kernel)) (by decide +kernel)⟩
theorem kX9_sure : MVk iX9_sure 1 := ⟨⟨tT1 (List.mem_of_getElem? (i := 1) (by decide +kernel)) (by decide +kernel), tT4 (List.mem_of_getElem? (i := 132) (by decide +kernel)) (by decide +kernel), ⟨by decide +kernel, by decide +kernel, by decide +kernel⟩, by decide +kernel, by decide +kernel⟩, tT4 (List.mem_of_getElem? (i := 130) (by decide +kernel)) (by decide +kernel), tT4 (List.mem_of_getElem? (i := 131) (by decide +kernel)) (by decide +kernel)⟩
theorem kX9_found : MVk iX9_found 1 := ⟨⟨tT1 (List.mem_of_getElem? (i := 1) (by decide +kernel)) (by decide +kernel), tT4 (List.mem_of_getElem? (i := 137) (by decide +kernel)) (by decide +kernel), ⟨by decide +kernel, by decide +kernel, by decide +kernel⟩, by decide +kernel, by decide +kernel⟩, tT4 (List.mem_of_getElem? (i := 135) (by decide +kernel)) (by decide +kernel), tT4 (List.mem_of_getElem? (i := 136) (by decide +kernel)) (by decide +kernel)⟩
theorem kX9_least : MVk iX9_least 0 := ⟨⟨tT1 (List.mem_of_getElem? (i := 1) (by decide +kernel)) (by decide +kernel), tT4 (List.mem_of_getElem? (i := 141) (by decide +kernel)) (by decide +kernel), ⟨by decide +kernel, by decide +kernel, by decide +kernel⟩, by decide +kernel, by decide +kernel⟩, tT4 (List.mem_of_getElem? (i := 139) (by decide +kernel)) (by decide +kernel), tT4 (List.mem_of_getElem? (i := 140) (by decide +kernel)) (by decide +kernel)⟩
theorem kX9_sideBySide : MVk iX9_sideBySide 1 := ⟨⟨tT1 (List.mem_of_getElem? (i := 1) (by decide +kernel)) (by decide +kernel), tT4 (List.mem_of_getElem? (i := 149) (by decide +kernel)) (by decide +kernel), ⟨by decide +kernel, by decide +kernel, by decide +kernel⟩, by decide +kernel, by decide +kernel⟩, tT4 (List.mem_of_getElem? (i := 147) (by decide +kernel)) (by decide +kernel), tT4 (List.mem_of_getElem? (i := 148) (by decide +kernel)) (by decide +kernel)⟩
theorem kX9_seed : MVk iX9_seed 1 := ⟨⟨tT1 (List.mem_of_getElem? (i := 1) (by decide +kernel)) (by decide +kernel), tT4 (List.mem_of_getElem? (i := 153) (by decide +kernel)) (by decide +kernel), ⟨by decide +kernel, by decide +kernel, by decide +kernel⟩, by decide +kernel, by decide +kernel⟩, tT4 (List.mem_of_getElem? (i := 151) (by decide +kernel)) (by decide +kernel), tT4 (List.mem_of_getElem? (i := 152) (by decide +kernel)) (by decide +kernel)⟩
theorem kX9_keep : MVk iX9_keep 0 := ⟨⟨tT1 (List.mem_of_getElem? (i := 1) (by decide +kernel)) (by decide +kernel), tT4 (List.mem_of_getElem? (i := 157) (by decide +kernel)) (by decide +kernel), ⟨by decide +kernel, by decide +kernel, by decide +kernel⟩, by decide +kernel, by decide +kernel⟩, tT4 (List.mem_of_getElem? (i := 155) (by decide +kernel)) (by decide +kernel), tT4 (List.mem_of_getElem? (i := 156) (by decide +kernel)) (by decide +kernel)⟩
theorem kX9_undo : MVk iX9_undo 0 := ⟨⟨tT1 (List.mem_of_getElem? (i := 1) (by decide +kernel)) (by decide +kernel), tT4 (List.mem_of_getElem? (i := 161) (by decide +kernel)) (by decide +kernel), ⟨by decide +kernel, by decide +kernel, by decide +kernel⟩, by decide +kernel, by decide +kernel⟩, tT4 (List.mem_of_getElem? (i := 159) (by decide +kernel)) (by decide +kernel), tT4 (List.mem_of_getElem? (i := 160) (by decide +kernel)) (by decide +kernel)⟩
theorem kX9_check : MVk iX9_check 1 := ⟨⟨tT1 (List.mem_of_getElem? (i := 1) (by decide +kernel)) (by decide +kernel), tT4 (List.mem_of_getElem? (i := 165) (by decide +kernel)) (by decide +kernel), ⟨by decide +kernel, by decide +kernel, by decide +kernel⟩, by decide +kernel, by decide +kernel⟩, tT4 (List.mem_of_getElem? (i := 163) (by decide +kernel)) (by decide +kernel), tT4 (List.mem_of_getElem? (i := 164) (by decide +kernel)) (by decide +kernel)⟩
theorem kX9_count : MVk iX9_count 1 := ⟨⟨tT1 (List.mem_of_getElem? (i := 1) (by decide +kernel)) (by decide +kernel), tT4 (List.mem_of_getElem? (i := 173) (by decide +kernel)) (by decide +kernel), ⟨by decide +kernel, by decide +kernel, by decide +kernel⟩, by decide +kernel, by decide +kernel⟩, tT4 (List.mem_of_getElem? (i := 171) (by decide +kernel)) (by decide +kernel), tT4 (List.mem_of_getElem? (i := 172) (by decide +kernel)) (by decide +kernel)⟩
theorem kX9_countWhole : MVk iX9_countWhole 1 := ⟨⟨tT1 (List.mem_of_getElem? (i := 1) (by decide +kernel)) (by decide +kernel), tT4 (List.mem_of_getElem? (i := 177) (by decide +kernel)) (by decide +kernel), ⟨by decide +kernel, by decide +kernel, by decide +kernel⟩, by decide +kernel, by decide +kernel⟩, tT4 (List.mem_of_getElem? (i := 176) (by decide +kernel)) (by decide +kernel), tP (List.mem_of_getElem? (i := 30) (by decide +kernel)) (by decide +kernel)⟩
theorem kX9_runYears : MVk iX9_runYears 2 := ⟨⟨tT1 (List.mem_of_getElem? (i := 1) (by decide +kernel)) (by decide +kernel), tT4 (List.mem_of_getElem? (i := 10) (by decide +kernel)) (by decide +kernel), ⟨by decide +kernel, by decide +kernel, by decide +kernel⟩, by decide +kernel, by decide +kernel⟩, tT4 (List.mem_of_getElem? (i := 9) (by decide +kernel)) (by decide +kernel), tP (List.mem_of_getElem? (i := 20) (by decide +kernel)) (by decide +kernel)⟩
theorem kX9_heldBy : MVk iX9_heldBy 2 := ⟨⟨tT1 (List.mem_of_getElem? (i := 1) (by decide +kernel)) (by decide +kernel), tT4 (List.mem_of_getElem? (i := 28) (by decide +kernel)) (by decide +kernel), ⟨by decide +kernel, by decide +kernel, by decide +kernel⟩, by decide +kernel, by decide +kernel⟩, tT4 (List.mem_of_getElem? (i := 27) (by decide +kernel)) (by decide +kernel), tP (List.mem_of_getElem? (i := 21) (by decide +kernel)) (by decide +kernel)⟩
theorem kX9_explainsAll : MVk iX9_explainsAll 1 := ⟨⟨tT1 (List.mem_of_getElem? (i := 1) (by decide +kernel)) (by decide +kernel), tT4 (List.mem_of_getElem? (i := 145) (by decide +kernel)) (by decide +kernel), ⟨by decide +kernel, by decide +kernel, by decide +kernel⟩, by decide +kernel, by decide +kernel⟩, tT4 (List.mem_of_getElem? (i := 144) (by decide +kernel)) (by decide +kernel), tP (List.mem_of_getElem? (i := 29) (by decide +kernel)) (by decide +kernel)⟩
theorem kX9_within : MSk iX9_within 3 := ⟨⟨tT1 (List.mem_of_getElem? (i := 1) (by decide +kernel)) (by decide +kernel), tT2 (List.mem_of_getElem? (i := 112) (by decide +kernel)) (by decide +kernel), ⟨by decide +kernel, by decide +kernel, by decide +kernel⟩, by decide +kernel, by decide +kernel⟩, tT2 (List.mem_of_getElem? (i := 111) (by decide +kernel)) (by decide +kernel)⟩
theorem kX9_has : MSk iX9_has 2 := ⟨⟨tT1 (List.mem_of_getElem? (i := 1) (by decide +kernel)) (by decide +kernel), tT2 (List.mem_of_getElem? (i := 131) (by decide +kernel)) (by decide +kernel), ⟨by decide +kernel, by decide +kernel, by decide +kernel⟩, by decide +kernel, by decide +kernel⟩, tT2 (List.mem_of_getElem? (i := 130) (by decide +kernel)) (by decide +kernel)⟩
theorem kX9_nextSubset : MSk iX9_nextSubset 2 := ⟨⟨tT1 (List.mem_of_getElem? (i := 1) (by decide +kernel)) (by decide +kernel), tT4 (List.mem_of_getElem? (i := 95) (by decide +kernel)) (by decide +kernel), ⟨by decide +kernel, by decide +kernel, by decide +kernel⟩, by decide +kernel, by decide +kernel⟩, tT4 (List.mem_of_getElem? (i := 94) (by decide +kernel)) (by decide +kernel)⟩
theorem kX10_in : MSk iX10_in 3 := ⟨⟨tT1 (List.mem_of_getElem? (i := 12) (by decide +kernel)) (by decide +kernel), tT5 (List.mem_of_getElem? (i := 149) (by decide +kernel)) (by decide +kernel), ⟨by decide +kernel, by decide +kernel, by decide +kernel⟩, by decide +kernel, by decide +kernel⟩, tT5 (List.mem_of_getElem? (i := 148) (by decide +kernel)) (by decide +kernel)⟩
theorem kX10_min : MSk iX10_min 2 := ⟨⟨tT1 (List.mem_of_getElem? (i := 12) (by decide +kernel)) (by decide +kernel), tT6 (List.mem_of_getElem? (i := 86) (by decide +kernel)) (by decide +kernel), ⟨by decide +kernel, by decide +kernel, by decide +kernel⟩, by decide +kernel, by decide +kernel⟩, tT6 (List.mem_of_getElem? (i := 85) (by decide +kernel)) (by decide +kernel)⟩
theorem kX10_has : MSk iX10_has 2 := ⟨⟨tT1 (List.mem_of_getElem? (i := 12) (by decide +kernel)) (by decide +kernel), tT5 (List.mem_of_getElem? (i := 164) (by decide +kernel)) (by decide +kernel), ⟨by decide +kernel, by decide +kernel, by decide +kernel⟩, by decide +kernel, by decide +kernel⟩, tT5 (List.mem_of_getElem? (i := 163) (by decide +kernel)) (by decide +kernel)⟩
theorem kX10_bits : MSk iX10_bits 1 := ⟨⟨tT1 (List.mem_of_getElem? (i := 12) (by decide +kernel)) (by decide +kernel), tT6 (List.mem_of_getElem? (i := 117) (by decide +kernel)) (by decide +kernel), ⟨by decide +kernel, by decide +kernel, by decide +kernel⟩, by decide +kernel, by decide +kernel⟩, tT6 (List.mem_of_getElem? (i := 116) (by decide +kernel)) (by decide +kernel)⟩
theorem kX10_isPerson : MVk iX10_isPerson 1 := ⟨⟨tT1 (List.mem_of_getElem? (i := 12) (by decide +kernel)) (by decide +kernel), tT5 (List.mem_of_getElem? (i := 161) (by decide +kernel)) (by decide +kernel), ⟨by decide +kernel, by decide +kernel, by decide +kernel⟩, by decide +kernel, by decide +kernel⟩, tT5 (List.mem_of_getElem? (i := 160) (by decide +kernel)) (by decide +kernel), tP (List.mem_of_getElem? (i := 32) (by decide +kernel)) (by decide +kernel)⟩
theorem kX10_lives : MVk iX10_lives 1 := ⟨⟨tT1 (List.mem_of_getElem? (i := 12) (by decide +kernel)) (by decide +kernel), tT5 (List.mem_of_getElem? (i := 157) (by decide +kernel)) (by decide +kernel), ⟨by decide +kernel, by decide +kernel, by decide +kernel⟩, by decide +kernel, by decide +kernel⟩, tT5 (List.mem_of_getElem? (i := 156) (by decide +kernel)) (by decide +kernel), tP (List.mem_of_getElem? (i := 31) (by decide +kernel)) (by decide +kernel)⟩
theorem kX10_person : MVk iX10_person 4 := ⟨⟨tT1 (List.mem_of_getElem? (i := 12) (by decide +kernel)) (by decide +kernel), tT5 (List.mem_of_getElem? (i := 146) (by decide +kernel)) (by decide +kernel), ⟨by decide +kernel, by decide +kernel, by decide +kernel⟩, by decide +kernel, by decide +kernel⟩, tT5 (List.mem_of_getElem? (i := 144) (by decide +kernel)) (by decide +kernel), tT5 (List.mem_of_getElem? (i := 145) (by decide +kernel)) (by decide +kernel)⟩
theorem kX10_heels : MVk iX10_heels 2 := ⟨⟨tT1 (List.mem_of_getElem? (i := 12) (by decide +kernel)) (by decide +kernel), tT5 (List.mem_of_getElem? (i := 153) (by decide +kernel)) (by decide +kernel), ⟨by decide +kernel, by decide +kernel, by decide +kernel⟩, by decide +kernel, by decide +kernel⟩, tT5 (List.mem_of_getElem? (i := 151) (by decide +kernel)) (by decide +kernel), tT5 (List.mem_of_getElem? (i := 152) (by decide +kernel)) (by decide +kernel)⟩
theorem kX10_dies : MVk iX10_dies 1 := ⟨⟨tT1 (List.mem_of_getElem? (i := 12) (by decide +kernel)) (by decide +kernel), tT5 (List.mem_of_getElem? (i := 168) (by decide +kernel)) (by decide +kernel), ⟨by decide +kernel, by decide +kernel, by decide +kernel⟩, by decide +kernel, by decide +kernel⟩, tT5 (List.mem_of_getElem? (i := 166) (by decide +kernel)) (by decide +kernel), tT5 (List.mem_of_getElem? (i := 167) (by decide +kernel)) (by decide +kernel)⟩
theorem kX10_tallOf : MVk iX10_tallOf 1 := ⟨⟨tT1 (List.mem_of_getElem? (i := 12) (by decide +kernel)) (by decide +kernel), tT5 (List.mem_of_getElem? (i := 176) (by decide +kernel)) (by decide +kernel), ⟨by decide +kernel, by decide +kernel, by decide +kernel⟩, by decide +kernel, by decide +kernel⟩, tT5 (List.mem_of_getElem? (i := 175) (by decide +kernel)) (by decide +kernel), tP (List.mem_of_getElem? (i := 33) (by decide +kernel)) (by decide +kernel)⟩
theorem kX10_tall : MVk iX10_tall 1 := ⟨⟨tT1 (List.mem_of_getElem? (i := 12) (by decide +kernel)) (by decide +kernel), tT5 (List.mem_of_getElem? (i := 172) (by decide +kernel)) (by decide +kernel), ⟨by decide +kernel, by decide +kernel, by decide +kernel⟩, by decide +kernel, by decide +kernel⟩, tT5 (List.mem_of_getElem? (i := 170) (by decide +kernel)) (by decide +kernel), tT5 (List.mem_of_getElem? (i := 171) (by decide +kernel)) (by decide +kernel)⟩
theorem kX10_topOf : MVk iX10_topOf 0 := ⟨⟨tT1 (List.mem_of_getElem? (i := 12) (by decide +kernel)) (by decide +kernel), tT5 (List.mem_of_getElem? (i := 184) (by decide +kernel)) (by decide +kernel), ⟨by decide +kernel, by decide +kernel, by decide +kernel⟩, by decide +kernel, by decide +kernel⟩, tT5 (List.mem_of_getElem? (i := 183) (by decide +kernel)) (by decide +kernel), tP (List.mem_of_getElem? (i := 34) (by decide +kernel)) (by decide +kernel)⟩
theorem kX10_top : MVk iX10_top 0 := ⟨⟨tT1 (List.mem_of_getElem? (i := 12) (by decide +kernel)) (by decide +kernel), tT5 (List.mem_of_getElem? (i := 180) (by decide +kernel)) (by decide +kernel), ⟨by decide +kernel, by decide +kernel, by decide +kernel⟩, by decide +kernel, by decide +kernel⟩, tT5 (List.mem_of_getElem? (i := 178) (by decide +kernel)) (by decide +kernel), tT5 (List.mem_of_getElem? (i := 179) (by decide +kernel)) (by decide +kernel)⟩
theorem kX10_types : MVk iX10_types 1 := ⟨⟨tT1 (List.mem_of_getElem? (i := 12) (by decide +kernel)) (by decide +kernel), tT5 (List.mem_of_getElem? (i := 192) (by decide +kernel)) (by decide +kernel), ⟨by decide +kernel, by decide +kernel, by decide +kernel⟩, by decide +kernel, by decide +kernel⟩, tT5 (List.mem_of_getElem? (i := 191) (by decide +kernel)) (by decide +kernel), tP (List.mem_of_getElem? (i := 35) (by decide +kernel)) (by decide +kernel)⟩
theorem kX10_feed : MVk iX10_feed 5 := ⟨⟨tT1 (List.mem_of_getElem? (i := 12) (by decide +kernel)) (by decide +kernel), tT5 (List.mem_of_getElem? (i := 188) (by decide +kernel)) (by decide +kernel), ⟨by decide +kernel, by decide +kernel, by decide +kernel⟩, by decide +kernel, by decide +kernel⟩, tT5 (List.mem_of_getElem? (i := 186) (by decide +kernel)) (by decide +kernel), tT5 (List.mem_of_getElem? (i := 187) (by decide +kernel)) (by decide +kernel)⟩
theorem kX10_here : MVk iX10_here 0 := ⟨⟨tT1 (List.mem_of_getElem? (i := 12) (by decide +kernel)) (by decide +kernel), tT5 (List.mem_of_getElem? (i := 204) (by decide +kernel)) (by decide +kernel), ⟨by decide +kernel, by decide +kernel, by decide +kernel⟩, by decide +kernel, by decide +kernel⟩, tT5 (List.mem_of_getElem? (i := 203) (by decide +kernel)) (by decide +kernel), tP (List.mem_of_getElem? (i := 37) (by decide +kernel)) (by decide +kernel)⟩
theorem kX10_isDigit : MVk iX10_isDigit 0 := ⟨⟨tT1 (List.mem_of_getElem? (i := 12) (by decide +kernel)) (by decide +kernel), tT5 (List.mem_of_getElem? (i := 225) (by decide +kernel)) (by decide +kernel), ⟨by decide +kernel, by decide +kernel, by decide +kernel⟩, by decide +kernel, by decide +kernel⟩, tT5 (List.mem_of_getElem? (i := 224) (by decide +kernel)) (by decide +kernel), tP (List.mem_of_getElem? (i := 42) (by decide +kernel)) (by decide +kernel)⟩
theorem kX10_wrongAt : MVk iX10_wrongAt 2 := ⟨⟨tT1 (List.mem_of_getElem? (i := 12) (by decide +kernel)) (by decide +kernel), tT5 (List.mem_of_getElem? (i := 208) (by decide +kernel)) (by decide +kernel), ⟨by decide +kernel, by decide +kernel, by decide +kernel⟩, by decide +kernel, by decide +kernel⟩, tT5 (List.mem_of_getElem? (i := 207) (by decide +kernel)) (by decide +kernel), tP (List.mem_of_getElem? (i := 38) (by decide +kernel)) (by decide +kernel)⟩
theorem kX10_takes : MVk iX10_takes 1 := ⟨⟨tT1 (List.mem_of_getElem? (i := 12) (by decide +kernel)) (by decide +kernel), tT6 (List.mem_of_getElem? (i := 35) (by decide +kernel)) (by decide +kernel), ⟨by decide +kernel, by decide +kernel, by decide +kernel⟩, by decide +kernel, by decide +kernel⟩, tT6 (List.mem_of_getElem? (i := 34) (by decide +kernel)) (by decide +kernel), tP (List.mem_of_getElem? (i := 53) (by decide +kernel)) (by decide +kernel)⟩
theorem kX10_readsNumber : MVk iX10_readsNumber 0 := ⟨⟨tT1 (List.mem_of_getElem? (i := 12) (by decide +kernel)) (by decide +kernel), tT5 (List.mem_of_getElem? (i := 229) (by decide +kernel)) (by decide +kernel), ⟨by decide +kernel, by decide +kernel, by decide +kernel⟩, by decide +kernel, by decide +kernel⟩, tT5 (List.mem_of_getElem? (i := 228) (by decide +kernel)) (by decide +kernel), tP (List.mem_of_getElem? (i := 43) (by decide +kernel)) (by decide +kernel)⟩
theorem kX10_notes : MVk iX10_notes 2 := ⟨⟨tT1 (List.mem_of_getElem? (i := 12) (by decide +kernel)) (by decide +kernel), tT5 (List.mem_of_getElem? (i := 233) (by decide +kernel)) (by decide +kernel), ⟨by decide +kernel, by decide +kernel, by decide +kernel⟩, by decide +kernel, by decide +kernel⟩, tT5 (List.mem_of_getElem? (i := 232) (by decide +kernel)) (by decide +kernel), tP (List.mem_of_getElem? (i := 44) (by decide +kernel)) (by decide +kernel)⟩
theorem kX10_opens : MVk iX10_opens 1 := ⟨⟨tT1 (List.mem_of_getElem? (i := 12) (by decide +kernel)) (by decide +kernel), tT5 (List.mem_of_getElem? (i := 220) (by decide +kernel)) (by decide +kernel), ⟨by decide +kernel, by decide +kernel, by decide +kernel⟩, by decide +kernel, by decide +kernel⟩, tT5 (List.mem_of_getElem? (i := 219) (by decide +kernel)) (by decide +kernel), tP (List.mem_of_getElem? (i := 41) (by decide +kernel)) (by decide +kernel)⟩
theorem kX10_waitTop : MVk iX10_waitTop 0 := ⟨⟨tT1 (List.mem_of_getElem? (i := 12) (by decide +kernel)) (by decide +kernel), tT6 (List.mem_of_getElem? (i := 7) (by decide +kernel)) (by decide +kernel), ⟨by decide +kernel, by decide +kernel, by decide +kernel⟩, by decide +kernel, by decide +kernel⟩, tT6 (List.mem_of_getElem? (i := 6) (by decide +kernel)) (by decide +kernel), tP (List.mem_of_getElem? (i := 46) (by decide +kernel)) (by decide +kernel)⟩
theorem kX10_factOf : MSk iX10_factOf 1 := ⟨⟨tT1 (List.mem_of_getElem? (i := 12) (by decide +kernel)) (by decide +kernel), tT5 (List.mem_of_getElem? (i := 236) (by decide +kernel)) (by decide +kernel), ⟨by decide +kernel, by decide +kernel, by decide +kernel⟩, by decide +kernel, by decide +kernel⟩, tT5 (List.mem_of_getElem? (i := 235) (by decide +kernel)) (by decide +kernel)⟩
theorem kX10_sumSign : MSk iX10_sumSign 1 := ⟨⟨tT1 (List.mem_of_getElem? (i := 12) (by decide +kernel)) (by decide +kernel), tT5 (List.mem_of_getElem? (i := 239) (by decide +kernel)) (by decide +kernel), ⟨by decide +kernel, by decide +kernel, by decide +kernel⟩, by decide +kernel, by decide +kernel⟩, tT5 (List.mem_of_getElem? (i := 238) (by decide +kernel)) (by decide +kernel)⟩
theorem kX10_closesSums : MVk iX10_closesSums 1 := ⟨⟨tT1 (List.mem_of_getElem? (i := 12) (by decide +kernel)) (by decide +kernel), tT6 (List.mem_of_getElem? (i := 3) (by decide +kernel)) (by decide +kernel), ⟨by decide +kernel, by decide +kernel, by decide +kernel⟩, by decide +kernel, by decide +kernel⟩, tT6 (List.mem_of_getElem? (i := 2) (by decide +kernel)) (by decide +kernel), tP (List.mem_of_getElem? (i := 45) (by decide +kernel)) (by decide +kernel)⟩
theorem kX10_readsFactor : MVk iX10_readsFactor 0 := ⟨⟨tT1 (List.mem_of_getElem? (i := 12) (by decide +kernel)) (by decide +kernel), tT5 (List.mem_of_getElem? (i := 216) (by decide +kernel)) (by decide +kernel), ⟨by decide +kernel, by decide +kernel, by decide +kernel⟩, by decide +kernel, by decide +kernel⟩, tT5 (List.mem_of_getElem? (i := 215) (by decide +kernel)) (by decide +kernel), tP (List.mem_of_getElem? (i := 40) (by decide +kernel)) (by decide +kernel)⟩
theorem kX10_hasOpenSum : MVk iX10_hasOpenSum 1 := ⟨⟨tT1 (List.mem_of_getElem? (i := 12) (by decide +kernel)) (by decide +kernel), tT6 (List.mem_of_getElem? (i := 11) (by decide +kernel)) (by decide +kernel), ⟨by decide +kernel, by decide +kernel, by decide +kernel⟩, by decide +kernel, by decide +kernel⟩, tT6 (List.mem_of_getElem? (i := 10) (by decide +kernel)) (by decide +kernel), tP (List.mem_of_getElem? (i := 47) (by decide +kernel)) (by decide +kernel)⟩
theorem kX10_readsSum : MVk iX10_readsSum 0 := ⟨⟨tT1 (List.mem_of_getElem? (i := 12) (by decide +kernel)) (by decide +kernel), tT5 (List.mem_of_getElem? (i := 212) (by decide +kernel)) (by decide +kernel), ⟨by decide +kernel, by decide +kernel, by decide +kernel⟩, by decide +kernel, by decide +kernel⟩, tT5 (List.mem_of_getElem? (i := 211) (by decide +kernel)) (by decide +kernel), tP (List.mem_of_getElem? (i := 39) (by decide +kernel)) (by decide +kernel)⟩
theorem kX10_endsPiece : MVk iX10_endsPiece 0 := ⟨⟨tT1 (List.mem_of_getElem? (i := 12) (by decide +kernel)) (by decide +kernel), tT6 (List.mem_of_getElem? (i := 23) (by decide +kernel)) (by decide +kernel), ⟨by decide +kernel, by decide +kernel, by decide +kernel⟩, by decide +kernel, by decide +kernel⟩, tT6 (List.mem_of_getElem? (i := 22) (by decide +kernel)) (by decide +kernel), tP (List.mem_of_getElem? (i := 50) (by decide +kernel)) (by decide +kernel)⟩
theorem kX10_lands : MVk iX10_lands 1 := ⟨⟨tT1 (List.mem_of_getElem? (i := 12) (by decide +kernel)) (by decide +kernel), tT6 (List.mem_of_getElem? (i := 27) (by decide +kernel)) (by decide +kernel), ⟨by decide +kernel, by decide +kernel, by decide +kernel⟩, by decide +kernel, by decide +kernel⟩, tT6 (List.mem_of_getElem? (i := 26) (by decide +kernel)) (by decide +kernel), tP (List.mem_of_getElem? (i := 51) (by decide +kernel)) (by decide +kernel)⟩
theorem kX10_jumps : MVk iX10_jumps 1 := ⟨⟨tT1 (List.mem_of_getElem? (i := 12) (by decide +kernel)) (by decide +kernel), tT6 (List.mem_of_getElem? (i := 31) (by decide +kernel)) (by decide +kernel), ⟨by decide +kernel, by decide +kernel, by decide +kernel⟩, by decide +kernel, by decide +kernel⟩, tT6 (List.mem_of_getElem? (i := 30) (by decide +kernel)) (by decide +kernel), tP (List.mem_of_getElem? (i := 52) (by decide +kernel)) (by decide +kernel)⟩
theorem kX10_readsCompared : MVk iX10_readsCompared 0 := ⟨⟨tT1 (List.mem_of_getElem? (i := 12) (by decide +kernel)) (by decide +kernel), tT6 (List.mem_of_getElem? (i := 19) (by decide +kernel)) (by decide +kernel), ⟨by decide +kernel, by decide +kernel, by decide +kernel⟩, by decide +kernel, by decide +kernel⟩, tT6 (List.mem_of_getElem? (i := 18) (by decide +kernel)) (by decide +kernel), tP (List.mem_of_getElem? (i := 49) (by decide +kernel)) (by decide +kernel)⟩
theorem kX10_readsCondition : MVk iX10_readsCondition 0 := ⟨⟨tT1 (List.mem_of_getElem? (i := 12) (by decide +kernel)) (by decide +kernel), tT6 (List.mem_of_getElem? (i := 15) (by decide +kernel)) (by decide +kernel), ⟨by decide +kernel, by decide +kernel, by decide +kernel⟩, by decide +kernel, by decide +kernel⟩, tT6 (List.mem_of_getElem? (i := 14) (by decide +kernel)) (by decide +kernel), tP (List.mem_of_getElem? (i := 48) (by decide +kernel)) (by decide +kernel)⟩
theorem kX10_readsClause : MVk iX10_readsClause 0 := ⟨⟨tT1 (List.mem_of_getElem? (i := 12) (by decide +kernel)) (by decide +kernel), tT5 (List.mem_of_getElem? (i := 200) (by decide +kernel)) (by decide +kernel), ⟨by decide +kernel, by decide +kernel, by decide +kernel⟩, by decide +kernel, by decide +kernel⟩, tT5 (List.mem_of_getElem? (i := 199) (by decide +kernel)) (by decide +kernel), tP (List.mem_of_getElem? (i := 36) (by decide +kernel)) (by decide +kernel)⟩
theorem kX10_law : MVk iX10_law 2 := ⟨⟨tT1 (List.mem_of_getElem? (i := 12) (by decide +kernel)) (by decide +kernel), tT5 (List.mem_of_getElem? (i := 196) (by decide +kernel)) (by decide +kernel), ⟨by decide +kernel, by decide +kernel, by decide +kernel⟩, by decide +kernel, by decide +kernel⟩, tT5 (List.mem_of_getElem? (i := 194) (by decide +kernel)) (by decide +kernel), tT5 (List.mem_of_getElem? (i := 195) (by decide +kernel)) (by decide +kernel)⟩
theorem kX10_reckon : MSk iX10_reckon 3 := ⟨⟨tT1 (List.mem_of_getElem? (i := 12) (by decide +kernel)) (by decide +kernel), tT6 (List.mem_of_getElem? (i := 59) (by decide +kernel)) (by decide +kernel), ⟨by decide +kernel, by decide +kernel, by decide +kernel⟩, by decide +kernel, by decide +kernel⟩, tT6 (List.mem_of_getElem? (i := 58) (by decide +kernel)) (by decide +kernel)⟩
theorem kX10_comesTo : MVk iX10_comesTo 2 := ⟨⟨tT1 (List.mem_of_getElem? (i := 12) (by decide +kernel)) (by decide +kernel), tT6 (List.mem_of_getElem? (i := 56) (by decide +kernel)) (by decide +kernel), ⟨by decide +kernel, by decide +kernel, by decide +kernel⟩, by decide +kernel, by decide +kernel⟩, tT6 (List.mem_of_getElem? (i := 55) (by decide +kernel)) (by decide +kernel), tP (List.mem_of_getElem? (i := 57) (by decide +kernel)) (by decide +kernel)⟩
theorem kX10_byLaw : MVk iX10_byLaw 3 := ⟨⟨tT1 (List.mem_of_getElem? (i := 12) (by decide +kernel)) (by decide +kernel), tT6 (List.mem_of_getElem? (i := 63) (by decide +kernel)) (by decide +kernel), ⟨by decide +kernel, by decide +kernel, by decide +kernel⟩, by decide +kernel, by decide +kernel⟩, tT6 (List.mem_of_getElem? (i := 62) (by decide +kernel)) (by decide +kernel), tP (List.mem_of_getElem? (i := 58) (by decide +kernel)) (by decide +kernel)⟩
theorem kX10_anyBy : MVk iX10_anyBy 2 := ⟨⟨tT1 (List.mem_of_getElem? (i := 12) (by decide +kernel)) (by decide +kernel), tT6 (List.mem_of_getElem? (i := 52) (by decide +kernel)) (by decide +kernel), ⟨by decide +kernel, by decide +kernel, by decide +kernel⟩, by decide +kernel, by decide +kernel⟩, tT6 (List.mem_of_getElem? (i := 51) (by decide +kernel)) (by decide +kernel), tP (List.mem_of_getElem? (i := 56) (by decide +kernel)) (by decide +kernel)⟩
theorem kX10_feels : MVk iX10_feels 1 := ⟨⟨tT1 (List.mem_of_getElem? (i := 12) (by decide +kernel)) (by decide +kernel), tT6 (List.mem_of_getElem? (i := 48) (by decide +kernel)) (by decide +kernel), ⟨by decide +kernel, by decide +kernel, by decide +kernel⟩, by decide +kernel, by decide +kernel⟩, tT6 (List.mem_of_getElem? (i := 47) (by decide +kernel)) (by decide +kernel), tP (List.mem_of_getElem? (i := 55) (by decide +kernel)) (by decide +kernel)⟩
theorem kX10_stepBy : MVk iX10_stepBy 3 := ⟨⟨tT1 (List.mem_of_getElem? (i := 12) (by decide +kernel)) (by decide +kernel), tT6 (List.mem_of_getElem? (i := 43) (by decide +kernel)) (by decide +kernel), ⟨by decide +kernel, by decide +kernel, by decide +kernel⟩, by decide +kernel, by decide +kernel⟩, tT6 (List.mem_of_getElem? (i := 42) (by decide +kernel)) (by decide +kernel), tP (List.mem_of_getElem? (i := 54) (by decide +kernel)) (by decide +kernel)⟩
theorem kX10_laysSteps : MVk iX10_laysSteps 1 := ⟨⟨tT1 (List.mem_of_getElem? (i := 12) (by decide +kernel)) (by decide +kernel), tT6 (List.mem_of_getElem? (i := 79) (by decide +kernel)) (by decide +kernel), ⟨by decide +kernel, by decide +kernel, by decide +kernel⟩, by decide +kernel, by decide +kernel⟩, tT6 (List.mem_of_getElem? (i := 78) (by decide +kernel)) (by decide +kernel), tP (List.mem_of_getElem? (i := 60) (by decide +kernel)) (by decide +kernel)⟩
theorem kX10_isStep : MVk iX10_isStep 2 := ⟨⟨tT1 (List.mem_of_getElem? (i := 12) (by decide +kernel)) (by decide +kernel), tT6 (List.mem_of_getElem? (i := 106) (by decide +kernel)) (by decide +kernel), ⟨by decide +kernel, by decide +kernel, by decide +kernel⟩, by decide +kernel, by decide +kernel⟩, tT6 (List.mem_of_getElem? (i := 105) (by decide +kernel)) (by decide +kernel), tP (List.mem_of_getElem? (i := 65) (by decide +kernel)) (by decide +kernel)⟩
theorem kX10_step : MVk iX10_step 2 := ⟨⟨tT1 (List.mem_of_getElem? (i := 12) (by decide +kernel)) (by decide +kernel), tT6 (List.mem_of_getElem? (i := 39) (by decide +kernel)) (by decide +kernel), ⟨by decide +kernel, by decide +kernel, by decide +kernel⟩, by decide +kernel, by decide +kernel⟩, tT6 (List.mem_of_getElem? (i := 37) (by decide +kernel)) (by decide +kernel), tT6 (List.mem_of_getElem? (i := 38) (by decide +kernel)) (by decide +kernel)⟩
theorem kX10_isOath : MVk iX10_isOath 1 := ⟨⟨tT1 (List.mem_of_getElem? (i := 12) (by decide +kernel)) (by decide +kernel), tT6 (List.mem_of_getElem? (i := 75) (by decide +kernel)) (by decide +kernel), ⟨by decide +kernel, by decide +kernel, by decide +kernel⟩, by decide +kernel, by decide +kernel⟩, tT6 (List.mem_of_getElem? (i := 74) (by decide +kernel)) (by decide +kernel), tP (List.mem_of_getElem? (i := 59) (by decide +kernel)) (by decide +kernel)⟩
theorem kX10_oath : MVk iX10_oath 2 := ⟨⟨tT1 (List.mem_of_getElem? (i := 12) (by decide +kernel)) (by decide +kernel), tT6 (List.mem_of_getElem? (i := 67) (by decide +kernel)) (by decide +kernel), ⟨by decide +kernel, by decide +kernel, by decide +kernel⟩, by decide +kernel, by decide +kernel⟩, tT6 (List.mem_of_getElem? (i := 65) (by decide +kernel)) (by decide +kernel), tT6 (List.mem_of_getElem? (i := 66) (by decide +kernel)) (by decide +kernel)⟩
theorem kX10_leastBy : MVk iX10_leastBy 2 := ⟨⟨tT1 (List.mem_of_getElem? (i := 12) (by decide +kernel)) (by decide +kernel), tT6 (List.mem_of_getElem? (i := 83) (by decide +kernel)) (by decide +kernel), ⟨by decide +kernel, by decide +kernel, by decide +kernel⟩, by decide +kernel, by decide +kernel⟩, tT6 (List.mem_of_getElem? (i := 82) (by decide +kernel)) (by decide +kernel), tP (List.mem_of_getElem? (i := 61) (by decide +kernel)) (by decide +kernel)⟩
theorem kX10_swear : MVk iX10_swear 2 := ⟨⟨tT1 (List.mem_of_getElem? (i := 12) (by decide +kernel)) (by decide +kernel), tT6 (List.mem_of_getElem? (i := 71) (by decide +kernel)) (by decide +kernel), ⟨by decide +kernel, by decide +kernel, by decide +kernel⟩, by decide +kernel, by decide +kernel⟩, tT6 (List.mem_of_getElem? (i := 69) (by decide +kernel)) (by decide +kernel), tT6 (List.mem_of_getElem? (i := 70) (by decide +kernel)) (by decide +kernel)⟩
theorem kX10_reach : MVk iX10_reach 2 := ⟨⟨tT1 (List.mem_of_getElem? (i := 12) (by decide +kernel)) (by decide +kernel), tT6 (List.mem_of_getElem? (i := 102) (by decide +kernel)) (by decide +kernel), ⟨by decide +kernel, by decide +kernel, by decide +kernel⟩, by decide +kernel, by decide +kernel⟩, tT6 (List.mem_of_getElem? (i := 101) (by decide +kernel)) (by decide +kernel), tP (List.mem_of_getElem? (i := 64) (by decide +kernel)) (by decide +kernel)⟩
theorem kX10_holdsBy : MVk iX10_holdsBy 2 := ⟨⟨tT1 (List.mem_of_getElem? (i := 12) (by decide +kernel)) (by decide +kernel), tT6 (List.mem_of_getElem? (i := 98) (by decide +kernel)) (by decide +kernel), ⟨by decide +kernel, by decide +kernel, by decide +kernel⟩, by decide +kernel, by decide +kernel⟩, tT6 (List.mem_of_getElem? (i := 97) (by decide +kernel)) (by decide +kernel), tP (List.mem_of_getElem? (i := 63) (by decide +kernel)) (by decide +kernel)⟩
theorem kX10_holdsNow : MVk iX10_holdsNow 1 := ⟨⟨tT1 (List.mem_of_getElem? (i := 12) (by decide +kernel)) (by decide +kernel), tT6 (List.mem_of_getElem? (i := 94) (by decide +kernel)) (by decide +kernel), ⟨by decide +kernel, by decide +kernel, by decide +kernel⟩, by decide +kernel, by decide +kernel⟩, tT6 (List.mem_of_getElem? (i := 93) (by decide +kernel)) (by decide +kernel), tP (List.mem_of_getElem? (i := 62) (by decide +kernel)) (by decide +kernel)⟩
theorem kX10_holds : MVk iX10_holds 1 := ⟨⟨tT1 (List.mem_of_getElem? (i := 12) (by decide +kernel)) (by decide +kernel), tT6 (List.mem_of_getElem? (i := 90) (by decide +kernel)) (by decide +kernel), ⟨by decide +kernel, by decide +kernel, by decide +kernel⟩, by decide +kernel, by decide +kernel⟩, tT6 (List.mem_of_getElem? (i := 88) (by decide +kernel)) (by decide +kernel), tT6 (List.mem_of_getElem? (i := 89) (by decide +kernel)) (by decide +kernel)⟩
theorem kX10_holding : MVk iX10_holding 1 := ⟨⟨tT1 (List.mem_of_getElem? (i := 12) (by decide +kernel)) (by decide +kernel), tT6 (List.mem_of_getElem? (i := 148) (by decide +kernel)) (by decide +kernel), ⟨by decide +kernel, by decide +kernel, by decide +kernel⟩, by decide +kernel, by decide +kernel⟩, tT6 (List.mem_of_getElem? (i := 147) (by decide +kernel)) (by decide +kernel), tP (List.mem_of_getElem? (i := 70) (by decide +kernel)) (by decide +kernel)⟩
theorem kX10_passes : MVk iX10_passes 1 := ⟨⟨tT1 (List.mem_of_getElem? (i := 12) (by decide +kernel)) (by decide +kernel), tT6 (List.mem_of_getElem? (i := 114) (by decide +kernel)) (by decide +kernel), ⟨by decide +kernel, by decide +kernel, by decide +kernel⟩, by decide +kernel, by decide +kernel⟩, tT6 (List.mem_of_getElem? (i := 113) (by decide +kernel)) (by decide +kernel), tP (List.mem_of_getElem? (i := 66) (by decide +kernel)) (by decide +kernel)⟩
theorem kX10_draws : MVk iX10_draws 0 := ⟨⟨tT1 (List.mem_of_getElem? (i := 12) (by decide +kernel)) (by decide +kernel), tT6 (List.mem_of_getElem? (i := 132) (by decide +kernel)) (by decide +kernel), ⟨by decide +kernel, by decide +kernel, by decide +kernel⟩, by decide +kernel, by decide +kernel⟩, tT6 (List.mem_of_getElem? (i := 131) (by decide +kernel)) (by decide +kernel), tP (List.mem_of_getElem? (i := 68) (by decide +kernel)) (by decide +kernel)⟩
theorem kX10_runs : MVk iX10_runs 1 := ⟨⟨tT1 (List.mem_of_getElem? (i := 12) (by decide +kernel)) (by decide +kernel), tT6 (List.mem_of_getElem? (i := 128) (by decide +kernel)) (by decide +kernel), ⟨by decide +kernel, by decide +kernel, by decide +kernel⟩, by decide +kernel, by decide +kernel⟩, tT6 (List.mem_of_getElem? (i := 127) (by decide +kernel)) (by decide +kernel), tP (List.mem_of_getElem? (i := 67) (by decide +kernel)) (by decide +kernel)⟩
theorem kX10_areYears : MSk iX10_areYears 1 := ⟨⟨tT1 (List.mem_of_getElem? (i := 12) (by decide +kernel)) (by decide +kernel), tT6 (List.mem_of_getElem? (i := 124) (by decide +kernel)) (by decide +kernel), ⟨by decide +kernel, by decide +kernel, by decide +kernel⟩, by decide +kernel, by decide +kernel⟩, tT6 (List.mem_of_getElem? (i := 123) (by decide +kernel)) (by decide +kernel)⟩
theorem kX10_year : MVk iX10_year 1 := ⟨⟨tT1 (List.mem_of_getElem? (i := 12) (by decide +kernel)) (by decide +kernel), tT6 (List.mem_of_getElem? (i := 110) (by decide +kernel)) (by decide +kernel), ⟨by decide +kernel, by decide +kernel, by decide +kernel⟩, by decide +kernel, by decide +kernel⟩, tT6 (List.mem_of_getElem? (i := 108) (by decide +kernel)) (by decide +kernel), tT6 (List.mem_of_getElem? (i := 109) (by decide +kernel)) (by decide +kernel)⟩
theorem kX10_years : MVk iX10_years 1 := ⟨⟨tT1 (List.mem_of_getElem? (i := 12) (by decide +kernel)) (by decide +kernel), tT6 (List.mem_of_getElem? (i := 121) (by decide +kernel)) (by decide +kernel), ⟨by decide +kernel, by decide +kernel, by decide +kernel⟩, by decide +kernel, by decide +kernel⟩, tT6 (List.mem_of_getElem? (i := 119) (by decide +kernel)) (by decide +kernel), tT6 (List.mem_of_getElem? (i := 120) (by decide +kernel)) (by decide +kernel)⟩
theorem kX10_copies : MSk iX10_copies 3 := ⟨⟨tT1 (List.mem_of_getElem? (i := 12) (by decide +kernel)) (by decide +kernel), tT6 (List.mem_of_getElem? (i := 144) (by decide +kernel)) (by decide +kernel), ⟨by decide +kernel, by decide +kernel, by decide +kernel⟩, by decide +kernel, by decide +kernel⟩, tT6 (List.mem_of_getElem? (i := 143) (by decide +kernel)) (by decide +kernel)⟩
theorem kX10_begins : MVk iX10_begins 0 := ⟨⟨tT1 (List.mem_of_getElem? (i := 12) (by decide +kernel)) (by decide +kernel), tT6 (List.mem_of_getElem? (i := 141) (by decide +kernel)) (by decide +kernel), ⟨by decide +kernel, by decide +kernel, by decide +kernel⟩, by decide +kernel, by decide +kernel⟩, tT6 (List.mem_of_getElem? (i := 140) (by decide +kernel)) (by decide +kernel), tP (List.mem_of_getElem? (i := 69) (by decide +kernel)) (by decide +kernel)⟩
theorem kX10_again : MVk iX10_again 0 := ⟨⟨tT1 (List.mem_of_getElem? (i := 12) (by decide +kernel)) (by decide +kernel), tT6 (List.mem_of_getElem? (i := 152) (by decide +kernel)) (by decide +kernel), ⟨by decide +kernel, by decide +kernel, by decide +kernel⟩, by decide +kernel, by decide +kernel⟩, tT6 (List.mem_of_getElem? (i := 151) (by decide +kernel)) (by decide +kernel), tP (List.mem_of_getElem? (i := 71) (by decide +kernel)) (by decide +kernel)⟩
theorem kX10_tried : MVk iX10_tried 2 := ⟨⟨tT1 (List.mem_of_getElem? (i := 12) (by decide +kernel)) (by decide +kernel), tT6 (List.mem_of_getElem? (i := 137) (by decide +kernel)) (by decide +kernel), ⟨by decide +kernel, by decide +kernel, by decide +kernel⟩, by decide +kernel, by decide +kernel⟩, tT6 (List.mem_of_getElem? (i := 135) (by decide +kernel)) (by decide +kernel), tT6 (List.mem_of_getElem? (i := 136) (by decide +kernel)) (by decide +kernel)⟩
theorem kX10_askedBy : MVk iX10_askedBy 3 := ⟨⟨tT1 (List.mem_of_getElem? (i := 12) (by decide +kernel)) (by decide +kernel), tT6 (List.mem_of_getElem? (i := 168) (by decide +kernel)) (by decide +kernel), ⟨by decide +kernel, by decide +kernel, by decide +kernel⟩, by decide +kernel, by decide +kernel⟩, tT6 (List.mem_of_getElem? (i := 167) (by decide +kernel)) (by decide +kernel), tP (List.mem_of_getElem? (i := 74) (by decide +kernel)) (by decide +kernel)⟩
theorem kX10_wayBy : MVk iX10_wayBy 3 := ⟨⟨tT1 (List.mem_of_getElem? (i := 12) (by decide +kernel)) (by decide +kernel), tT6 (List.mem_of_getElem? (i := 164) (by decide +kernel)) (by decide +kernel), ⟨by decide +kernel, by decide +kernel, by decide +kernel⟩, by decide +kernel, by decide +kernel⟩, tT6 (List.mem_of_getElem? (i := 163) (by decide +kernel)) (by decide +kernel), tP (List.mem_of_getElem? (i := 73) (by decide +kernel)) (by decide +kernel)⟩
theorem kX10_laysWays : MVk iX10_laysWays 1 := ⟨⟨tT1 (List.mem_of_getElem? (i := 12) (by decide +kernel)) (by decide +kernel), tT6 (List.mem_of_getElem? (i := 160) (by decide +kernel)) (by decide +kernel), ⟨by decide +kernel, by decide +kernel, by decide +kernel⟩, by decide +kernel, by decide +kernel⟩, tT6 (List.mem_of_getElem? (i := 159) (by decide +kernel)) (by decide +kernel), tP (List.mem_of_getElem? (i := 72) (by decide +kernel)) (by decide +kernel)⟩
theorem kX10_chain : MVk iX10_chain 2 := ⟨⟨tT1 (List.mem_of_getElem? (i := 12) (by decide +kernel)) (by decide +kernel), tT6 (List.mem_of_getElem? (i := 156) (by decide +kernel)) (by decide +kernel), ⟨by decide +kernel, by decide +kernel, by decide +kernel⟩, by decide +kernel, by decide +kernel⟩, tT6 (List.mem_of_getElem? (i := 154) (by decide +kernel)) (by decide +kernel), tT6 (List.mem_of_getElem? (i := 155) (by decide +kernel)) (by decide +kernel)⟩
theorem kX10_isSafe : MVk iX10_isSafe 3 := ⟨⟨tT1 (List.mem_of_getElem? (i := 12) (by decide +kernel)) (by decide +kernel), tT6 (List.mem_of_getElem? (i := 180) (by decide +kernel)) (by decide +kernel), ⟨by decide +kernel, by decide +kernel, by decide +kernel⟩, by decide +kernel, by decide +kernel⟩, tT6 (List.mem_of_getElem? (i := 179) (by decide +kernel)) (by decide +kernel), tP (List.mem_of_getElem? (i := 76) (by decide +kernel)) (by decide +kernel)⟩
theorem kX10_pricesOf : MVk iX10_pricesOf 2 := ⟨⟨tT1 (List.mem_of_getElem? (i := 12) (by decide +kernel)) (by decide +kernel), tT6 (List.mem_of_getElem? (i := 176) (by decide +kernel)) (by decide +kernel), ⟨by decide +kernel, by decide +kernel, by decide +kernel⟩, by decide +kernel, by decide +kernel⟩, tT6 (List.mem_of_getElem? (i := 175) (by decide +kernel)) (by decide +kernel), tP (List.mem_of_getElem? (i := 75) (by decide +kernel)) (by decide +kernel)⟩
theorem kX10_safe : MVk iX10_safe 3 := ⟨⟨tT1 (List.mem_of_getElem? (i := 12) (by decide +kernel)) (by decide +kernel), tT6 (List.mem_of_getElem? (i := 172) (by decide +kernel)) (by decide +kernel), ⟨by decide +kernel, by decide +kernel, by decide +kernel⟩, by decide +kernel, by decide +kernel⟩, tT6 (List.mem_of_getElem? (i := 170) (by decide +kernel)) (by decide +kernel), tT6 (List.mem_of_getElem? (i := 171) (by decide +kernel)) (by decide +kernel)⟩
theorem kX10_cut : MVk iX10_cut 1 := ⟨⟨tT1 (List.mem_of_getElem? (i := 12) (by decide +kernel)) (by decide +kernel), tT6 (List.mem_of_getElem? (i := 184) (by decide +kernel)) (by decide +kernel), ⟨by decide +kernel, by decide +kernel, by decide +kernel⟩, by decide +kernel, by decide +kernel⟩, tT6 (List.mem_of_getElem? (i := 182) (by decide +kernel)) (by decide +kernel), tT6 (List.mem_of_getElem? (i := 183) (by decide +kernel)) (by decide +kernel)⟩
theorem kX10_soonest : MVk iX10_soonest 1 := ⟨⟨tT1 (List.mem_of_getElem? (i := 12) (by decide +kernel)) (by decide +kernel), tT6 (List.mem_of_getElem? (i := 188) (by decide +kernel)) (by decide +kernel), ⟨by decide +kernel, by decide +kernel, by decide +kernel⟩, by decide +kernel, by decide +kernel⟩, tT6 (List.mem_of_getElem? (i := 186) (by decide +kernel)) (by decide +kernel), tT6 (List.mem_of_getElem? (i := 187) (by decide +kernel)) (by decide +kernel)⟩
theorem kX10_canChoose : MVk iX10_canChoose 2 := ⟨⟨tT1 (List.mem_of_getElem? (i := 12) (by decide +kernel)) (by decide +kernel), tT6 (List.mem_of_getElem? (i := 204) (by decide +kernel)) (by decide +kernel), ⟨by decide +kernel, by decide +kernel, by decide +kernel⟩, by decide +kernel, by decide +kernel⟩, tT6 (List.mem_of_getElem? (i := 203) (by decide +kernel)) (by decide +kernel), tP (List.mem_of_getElem? (i := 79) (by decide +kernel)) (by decide +kernel)⟩
theorem kX10_tells : MVk iX10_tells 2 := ⟨⟨tT1 (List.mem_of_getElem? (i := 12) (by decide +kernel)) (by decide +kernel), tT6 (List.mem_of_getElem? (i := 200) (by decide +kernel)) (by decide +kernel), ⟨by decide +kernel, by decide +kernel, by decide +kernel⟩, by decide +kernel, by decide +kernel⟩, tT6 (List.mem_of_getElem? (i := 199) (by decide +kernel)) (by decide +kernel), tP (List.mem_of_getElem? (i := 78) (by decide +kernel)) (by decide +kernel)⟩
theorem kX10_endsAs : MVk iX10_endsAs 3 := ⟨⟨tT1 (List.mem_of_getElem? (i := 12) (by decide +kernel)) (by decide +kernel), tT6 (List.mem_of_getElem? (i := 208) (by decide +kernel)) (by decide +kernel), ⟨by decide +kernel, by decide +kernel, by decide +kernel⟩, by decide +kernel, by decide +kernel⟩, tT6 (List.mem_of_getElem? (i := 207) (by decide +kernel)) (by decide +kernel), tP (List.mem_of_getElem? (i := 80) (by decide +kernel)) (by decide +kernel)⟩
theorem kX10_plays : MVk iX10_plays 3 := ⟨⟨tT1 (List.mem_of_getElem? (i := 12) (by decide +kernel)) (by decide +kernel), tT6 (List.mem_of_getElem? (i := 196) (by decide +kernel)) (by decide +kernel), ⟨by decide +kernel, by decide +kernel, by decide +kernel⟩, by decide +kernel, by decide +kernel⟩, tT6 (List.mem_of_getElem? (i := 195) (by decide +kernel)) (by decide +kernel), tP (List.mem_of_getElem? (i := 77) (by decide +kernel)) (by decide +kernel)⟩
theorem kX10_against : MVk iX10_against 4 := ⟨⟨tT1 (List.mem_of_getElem? (i := 12) (by decide +kernel)) (by decide +kernel), tT6 (List.mem_of_getElem? (i := 192) (by decide +kernel)) (by decide +kernel), ⟨by decide +kernel, by decide +kernel, by decide +kernel⟩, by decide +kernel, by decide +kernel⟩, tT6 (List.mem_of_getElem? (i := 190) (by decide +kernel)) (by decide +kernel), tT6 (List.mem_of_getElem? (i := 191) (by decide +kernel)) (by decide +kernel)⟩
theorem kX10_joined : MVk iX10_joined 2 := ⟨⟨tT1 (List.mem_of_getElem? (i := 12) (by decide +kernel)) (by decide +kernel), tT6 (List.mem_of_getElem? (i := 220) (by decide +kernel)) (by decide +kernel), ⟨by decide +kernel, by decide +kernel, by decide +kernel⟩, by decide +kernel, by decide +kernel⟩, tT6 (List.mem_of_getElem? (i := 219) (by decide +kernel)) (by decide +kernel), tP (List.mem_of_getElem? (i := 82) (by decide +kernel)) (by decide +kernel)⟩
theorem kX10_heldBy : MVk iX10_heldBy 1 := ⟨⟨tT1 (List.mem_of_getElem? (i := 12) (by decide +kernel)) (by decide +kernel), tT6 (List.mem_of_getElem? (i := 216) (by decide +kernel)) (by decide +kernel), ⟨by decide +kernel, by decide +kernel, by decide +kernel⟩, by decide +kernel, by decide +kernel⟩, tT6 (List.mem_of_getElem? (i := 215) (by decide +kernel)) (by decide +kernel), tP (List.mem_of_getElem? (i := 81) (by decide +kernel)) (by decide +kernel)⟩
theorem kX10_whom : MVk iX10_whom 3 := ⟨⟨tT1 (List.mem_of_getElem? (i := 12) (by decide +kernel)) (by decide +kernel), tT6 (List.mem_of_getElem? (i := 212) (by decide +kernel)) (by decide +kernel), ⟨by decide +kernel, by decide +kernel, by decide +kernel⟩, by decide +kernel, by decide +kernel⟩, tT6 (List.mem_of_getElem? (i := 210) (by decide +kernel)) (by decide +kernel), tT6 (List.mem_of_getElem? (i := 211) (by decide +kernel)) (by decide +kernel)⟩
theorem kX10_sure : MVk iX10_sure 1 := ⟨⟨tT1 (List.mem_of_getElem? (i := 12) (by decide +kernel)) (by decide +kernel), tT6 (List.mem_of_getElem? (i := 224) (by decide +kernel)) (by decide +kernel), ⟨by decide +kernel, by decide +kernel, by decide +kernel⟩, by decide +kernel, by decide +kernel⟩, tT6 (List.mem_of_getElem? (i := 222) (by decide +kernel)) (by decide +kernel), tT6 (List.mem_of_getElem? (i := 223) (by decide +kernel)) (by decide +kernel)⟩
theorem kX10_found : MVk iX10_found 1 := ⟨⟨tT1 (List.mem_of_getElem? (i := 12) (by decide +kernel)) (by decide +kernel), tT6 (List.mem_of_getElem? (i := 228) (by decide +kernel)) (by decide +kernel), ⟨by decide +kernel, by decide +kernel, by decide +kernel⟩, by decide +kernel, by decide +kernel⟩, tT6 (List.mem_of_getElem? (i := 226) (by decide +kernel)) (by decide +kernel), tT6 (List.mem_of_getElem? (i := 227) (by decide +kernel)) (by decide +kernel)⟩
theorem kX10_explains : MVk iX10_explains 1 := ⟨⟨tT1 (List.mem_of_getElem? (i := 12) (by decide +kernel)) (by decide +kernel), tT6 (List.mem_of_getElem? (i := 236) (by decide +kernel)) (by decide +kernel), ⟨by decide +kernel, by decide +kernel, by decide +kernel⟩, by decide +kernel, by decide +kernel⟩, tT6 (List.mem_of_getElem? (i := 235) (by decide +kernel)) (by decide +kernel), tP (List.mem_of_getElem? (i := 83) (by decide +kernel)) (by decide +kernel)⟩
theorem kX10_least : MVk iX10_least 0 := ⟨⟨tT1 (List.mem_of_getElem? (i := 12) (by decide +kernel)) (by decide +kernel), tT6 (List.mem_of_getElem? (i := 232) (by decide +kernel)) (by decide +kernel), ⟨by decide +kernel, by decide +kernel, by decide +kernel⟩, by decide +kernel, by decide +kernel⟩, tT6 (List.mem_of_getElem? (i := 230) (by decide +kernel)) (by decide +kernel), tT6 (List.mem_of_getElem? (i := 231) (by decide +kernel)) (by decide +kernel)⟩
theorem kX10_sideBySide : MVk iX10_sideBySide 1 := ⟨⟨tT1 (List.mem_of_getElem? (i := 12) (by decide +kernel)) (by decide +kernel), tT7 (List.mem_of_getElem? (i := 0) (by decide +kernel)) (by decide +kernel), ⟨by decide +kernel, by decide +kernel, by decide +kernel⟩, by decide +kernel, by decide +kernel⟩, tT6 (List.mem_of_getElem? (i := 238) (by decide +kernel)) (by decide +kernel), tT6 (List.mem_of_getElem? (i := 239) (by decide +kernel)) (by decide +kernel)⟩
theorem kX10_seed : MVk iX10_seed 1 := ⟨⟨tT1 (List.mem_of_getElem? (i := 12) (by decide +kernel)) (by decide +kernel), tT7 (List.mem_of_getElem? (i := 4) (by decide +kernel)) (by decide +kernel), ⟨by decide +kernel, by decide +kernel, by decide +kernel⟩, by decide +kernel, by decide +kernel⟩, tT7 (List.mem_of_getElem? (i := 2) (by decide +kernel)) (by decide +kernel), tT7 (List.mem_of_getElem? (i := 3) (by decide +kernel)) (by decide +kernel)⟩
theorem kX10_keep : MVk iX10_keep 0 := ⟨⟨tT1 (List.mem_of_getElem? (i := 12) (by decide +kernel)) (by decide +kernel), tT7 (List.mem_of_getElem? (i := 9) (by decide +kernel)) (by decide +kernel), ⟨by decide +kernel, by decide +kernel, by decide +kernel⟩, by decide +kernel, by decide +kernel⟩, tT7 (List.mem_of_getElem? (i := 7) (by decide +kernel)) (by decide +kernel), tT7 (List.mem_of_getElem? (i := 8) (by decide +kernel)) (by decide +kernel)⟩
theorem kX10_undo : MVk iX10_undo 0 := ⟨⟨tT1 (List.mem_of_getElem? (i := 12) (by decide +kernel)) (by decide +kernel), tT7 (List.mem_of_getElem? (i := 13) (by decide +kernel)) (by decide +kernel), ⟨by decide +kernel, by decide +kernel, by decide +kernel⟩, by decide +kernel, by decide +kernel⟩, tT7 (List.mem_of_getElem? (i := 11) (by decide +kernel)) (by decide +kernel), tT7 (List.mem_of_getElem? (i := 12) (by decide +kernel)) (by decide +kernel)⟩
theorem kX10_tapeNumber : MVk iX10_tapeNumber 1 := ⟨⟨tT1 (List.mem_of_getElem? (i := 12) (by decide +kernel)) (by decide +kernel), tT7 (List.mem_of_getElem? (i := 21) (by decide +kernel)) (by decide +kernel), ⟨by decide +kernel, by decide +kernel, by decide +kernel⟩, by decide +kernel, by decide +kernel⟩, tT7 (List.mem_of_getElem? (i := 20) (by decide +kernel)) (by decide +kernel), tP (List.mem_of_getElem? (i := 84) (by decide +kernel)) (by decide +kernel)⟩
theorem kX10_check : MVk iX10_check 1 := ⟨⟨tT1 (List.mem_of_getElem? (i := 12) (by decide +kernel)) (by decide +kernel), tT7 (List.mem_of_getElem? (i := 17) (by decide +kernel)) (by decide +kernel), ⟨by decide +kernel, by decide +kernel, by decide +kernel⟩, by decide +kernel, by decide +kernel⟩, tT7 (List.mem_of_getElem? (i := 15) (by decide +kernel)) (by decide +kernel), tT7 (List.mem_of_getElem? (i := 16) (by decide +kernel)) (by decide +kernel)⟩
theorem kX10_count : MVk iX10_count 1 := ⟨⟨tT1 (List.mem_of_getElem? (i := 12) (by decide +kernel)) (by decide +kernel), tT7 (List.mem_of_getElem? (i := 25) (by decide +kernel)) (by decide +kernel), ⟨by decide +kernel, by decide +kernel, by decide +kernel⟩, by decide +kernel, by decide +kernel⟩, tT7 (List.mem_of_getElem? (i := 23) (by decide +kernel)) (by decide +kernel), tT7 (List.mem_of_getElem? (i := 24) (by decide +kernel)) (by decide +kernel)⟩
theorem kJ11_isValidCodePoint_9a6ad : MSk iJ11_isValidCodePoint_9a6ad 1 := ⟨⟨tT1 (List.mem_of_getElem? (i := 17) (by decide +kernel)) (by decide +kernel), tT2 (List.mem_of_getElem? (i := 234) (by decide +kernel)) (by decide +kernel), ⟨by decide +kernel, by decide +kernel, by decide +kernel⟩, by decide +kernel, by decide +kernel⟩, tT2 (List.mem_of_getElem? (i := 233) (by decide +kernel)) (by decide +kernel)⟩
theorem kJ11_highSurrogate_5068e : MSk iJ11_highSurrogate_5068e 1 := ⟨⟨tT1 (List.mem_of_getElem? (i := 17) (by decide +kernel)) (by decide +kernel), tT2 (List.mem_of_getElem? (i := 237) (by decide +kernel)) (by decide +kernel), ⟨by decide +kernel, by decide +kernel, by decide +kernel⟩, by decide +kernel, by decide +kernel⟩, tT2 (List.mem_of_getElem? (i := 236) (by decide +kernel)) (by decide +kernel)⟩
theorem kJ11_lowSurrogate_5068e : MSk iJ11_lowSurrogate_5068e 1 := ⟨⟨tT1 (List.mem_of_getElem? (i := 17) (by decide +kernel)) (by decide +kernel), tT3 (List.mem_of_getElem? (i := 1) (by decide +kernel)) (by decide +kernel), ⟨by decide +kernel, by decide +kernel, by decide +kernel⟩, by decide +kernel, by decide +kernel⟩, tT3 (List.mem_of_getElem? (i := 0) (by decide +kernel)) (by decide +kernel)⟩
theorem kJ6_bitCount_0f7a4 : MSk iJ6_bitCount_0f7a4 1 := ⟨⟨tT1 (List.mem_of_getElem? (i := 19) (by decide +kernel)) (by decide +kernel), tT3 (List.mem_of_getElem? (i := 239) (by decide +kernel)) (by decide +kernel), ⟨by decide +kernel, by decide +kernel, by decide +kernel⟩, by decide +kernel, by decide +kernel⟩, tT3 (List.mem_of_getElem? (i := 238) (by decide +kernel)) (by decide +kernel)⟩
theorem kJ0_length_8abf5 : MVk iJ0_length_8abf5 0 := ⟨⟨tT1 (List.mem_of_getElem? (i := 4) (by decide +kernel)) (by decide +kernel), tT1 (List.mem_of_getElem? (i := 44) (by decide +kernel)) (by decide +kernel), ⟨by decide +kernel, by decide +kernel, by decide +kernel⟩, by decide +kernel, by decide +kernel⟩, tT1 (List.mem_of_getElem? (i := 42) (by decide +kernel)) (by decide +kernel), tT1 (List.mem_of_getElem? (i := 43) (by decide +kernel)) (by decide +kernel)⟩
theorem kJ0_indexOf_0f7a4 : MVk iJ0_indexOf_0f7a4 1 := ⟨⟨tT1 (List.mem_of_getElem? (i := 4) (by decide +kernel)) (by decide +kernel), tT2 (List.mem_of_getElem? (i := 171) (by decide +kernel)) (by decide +kernel), ⟨by decide +kernel, by decide +kernel, by decide +kernel⟩, by decide +kernel, by decide +kernel⟩, tT2 (List.mem_of_getElem? (i := 169) (by decide +kernel)) (by decide +kernel), tT2 (List.mem_of_getElem? (i := 170) (by decide +kernel)) (by decide +kernel)⟩
theorem kJ0_indexOf_7cf53 : MVk iJ0_indexOf_7cf53 2 := ⟨⟨tT1 (List.mem_of_getElem? (i := 4) (by decide +kernel)) (by decide +kernel), tT2 (List.mem_of_getElem? (i := 175) (by decide +kernel)) (by decide +kernel), ⟨by decide +kernel, by decide +kernel, by decide +kernel⟩, by decide +kernel, by decide +kernel⟩, tT2 (List.mem_of_getElem? (i := 173) (by decide +kernel)) (by decide +kernel), tT2 (List.mem_of_getElem? (i := 174) (by decide +kernel)) (by decide +kernel)⟩
theorem kJ0_coder_7d493 : MVk iJ0_coder_7d493 0 := ⟨⟨tT1 (List.mem_of_getElem? (i := 4) (by decide +kernel)) (by decide +kernel), tT1 (List.mem_of_getElem? (i := 48) (by decide +kernel)) (by decide +kernel), ⟨by decide +kernel, by decide +kernel, by decide +kernel⟩, by decide +kernel, by decide +kernel⟩, tT1 (List.mem_of_getElem? (i := 46) (by decide +kernel)) (by decide +kernel), tT1 (List.mem_of_getElem? (i := 47) (by decide +kernel)) (by decide +kernel)⟩
theorem kJ0_isLatin1_aae02 : MVk iJ0_isLatin1_aae02 0 := ⟨⟨tT1 (List.mem_of_getElem? (i := 4) (by decide +kernel)) (by decide +kernel), tT2 (List.mem_of_getElem? (i := 179) (by decide +kernel)) (by decide +kernel), ⟨by decide +kernel, by decide +kernel, by decide +kernel⟩, by decide +kernel, by decide +kernel⟩, tT2 (List.mem_of_getElem? (i := 177) (by decide +kernel)) (by decide +kernel), tT2 (List.mem_of_getElem? (i := 178) (by decide +kernel)) (by decide +kernel)⟩
theorem kJ0_checkBoundsBeginEnd_23922 : MSk iJ0_checkBoundsBeginEnd_23922 3 := ⟨⟨tT1 (List.mem_of_getElem? (i := 4) (by decide +kernel)) (by decide +kernel), tT2 (List.mem_of_getElem? (i := 211) (by decide +kernel)) (by decide +kernel), ⟨by decide +kernel, by decide +kernel, by decide +kernel⟩, by decide +kernel, by decide +kernel⟩, tT2 (List.mem_of_getElem? (i := 210) (by decide +kernel)) (by decide +kernel)⟩
theorem kJ1_canEncode_9a6ad : MSk iJ1_canEncode_9a6ad 1 := ⟨⟨tT1 (List.mem_of_getElem? (i := 14) (by decide +kernel)) (by decide +kernel), tT2 (List.mem_of_getElem? (i := 186) (by decide +kernel)) (by decide +kernel), ⟨by decide +kernel, by decide +kernel, by decide +kernel⟩, by decide +kernel, by decide +kernel⟩, tT2 (List.mem_of_getElem? (i := 185) (by decide +kernel)) (by decide +kernel)⟩
theorem kJ1_indexOf_4cfef : MSk iJ1_indexOf_4cfef 4 := ⟨⟨tT1 (List.mem_of_getElem? (i := 14) (by decide +kernel)) (by decide +kernel), tT2 (List.mem_of_getElem? (i := 183) (by decide +kernel)) (by decide +kernel), ⟨by decide +kernel, by decide +kernel, by decide +kernel⟩, by decide +kernel, by decide +kernel⟩, tT2 (List.mem_of_getElem? (i := 182) (by decide +kernel)) (by decide +kernel)⟩
theorem kJ1_indexOfChar_4cfef : MSk iJ1_indexOfChar_4cfef 4 := ⟨⟨tT1 (List.mem_of_getElem? (i := 14) (by decide +kernel)) (by decide +kernel), tT2 (List.mem_of_getElem? (i := 193) (by decide +kernel)) (by decide +kernel), ⟨by decide +kernel, by decide +kernel, by decide +kernel⟩, by decide +kernel, by decide +kernel⟩, tT2 (List.mem_of_getElem? (i := 192) (by decide +kernel)) (by decide +kernel)⟩
theorem kJ2_getChar_3b067 : MSk iJ2_getChar_3b067 2 := ⟨⟨tT1 (List.mem_of_getElem? (i := 15) (by decide +kernel)) (by decide +kernel), tT2 (List.mem_of_getElem? (i := 222) (by decide +kernel)) (by decide +kernel), ⟨by decide +kernel, by decide +kernel, by decide +kernel⟩, by decide +kernel, by decide +kernel⟩, tT2 (List.mem_of_getElem? (i := 221) (by decide +kernel)) (by decide +kernel)⟩
theorem kJ2_length_9d52b : MSk iJ2_length_9d52b 1 := ⟨⟨tT1 (List.mem_of_getElem? (i := 15) (by decide +kernel)) (by decide +kernel), tT2 (List.mem_of_getElem? (i := 208) (by decide +kernel)) (by decide +kernel), ⟨by decide +kernel, by decide +kernel, by decide +kernel⟩, by decide +kernel, by decide +kernel⟩, tT2 (List.mem_of_getElem? (i := 207) (by decide +kernel)) (by decide +kernel)⟩
theorem kJ2_indexOf_4cfef : MSk iJ2_indexOf_4cfef 4 := ⟨⟨tT1 (List.mem_of_getElem? (i := 15) (by decide +kernel)) (by decide +kernel), tT2 (List.mem_of_getElem? (i := 196) (by decide +kernel)) (by decide +kernel), ⟨by decide +kernel, by decide +kernel, by decide +kernel⟩, by decide +kernel, by decide +kernel⟩, tT2 (List.mem_of_getElem? (i := 195) (by decide +kernel)) (by decide +kernel)⟩
theorem kJ2_indexOfChar_4cfef : MSk iJ2_indexOfChar_4cfef 4 := ⟨⟨tT1 (List.mem_of_getElem? (i := 15) (by decide +kernel)) (by decide +kernel), tT2 (List.mem_of_getElem? (i := 202) (by decide +kernel)) (by decide +kernel), ⟨by decide +kernel, by decide +kernel, by decide +kernel⟩, by decide +kernel, by decide +kernel⟩, tT2 (List.mem_of_getElem? (i := 201) (by decide +kernel)) (by decide +kernel)⟩
theorem kJ2_indexOfCharUnsafe_4cfef : MSk iJ2_indexOfCharUnsafe_4cfef 4 := ⟨⟨tT1 (List.mem_of_getElem? (i := 15) (by decide +kernel)) (by decide +kernel), tT2 (List.mem_of_getElem? (i := 219) (by decide +kernel)) (by decide +kernel), ⟨by decide +kernel, by decide +kernel, by decide +kernel⟩, by decide +kernel, by decide +kernel⟩, tT2 (List.mem_of_getElem? (i := 218) (by decide +kernel)) (by decide +kernel)⟩
theorem kJ2_indexOfSupplementary_4cfef : MSk iJ2_indexOfSupplementary_4cfef 4 := ⟨⟨tT1 (List.mem_of_getElem? (i := 15) (by decide +kernel)) (by decide +kernel), tT2 (List.mem_of_getElem? (i := 231) (by decide +kernel)) (by decide +kernel), ⟨by decide +kernel, by decide +kernel, by decide +kernel⟩, by decide +kernel, by decide +kernel⟩, tT2 (List.mem_of_getElem? (i := 230) (by decide +kernel)) (by decide +kernel)⟩
theorem kJ2_checkBoundsBeginEnd_d044e : MSk iJ2_checkBoundsBeginEnd_d044e 3 := ⟨⟨tT1 (List.mem_of_getElem? (i := 15) (by decide +kernel)) (by decide +kernel), tT2 (List.mem_of_getElem? (i := 205) (by decide +kernel)) (by decide +kernel), ⟨by decide +kernel, by decide +kernel, by decide +kernel⟩, by decide +kernel, by decide +kernel⟩, tT2 (List.mem_of_getElem? (i := 204) (by decide +kernel)) (by decide +kernel)⟩
theorem kJ3_checkFromToIndex_8c36e : MSk iJ3_checkFromToIndex_8c36e 4 := ⟨⟨tT1 (List.mem_of_getElem? (i := 16) (by decide +kernel)) (by decide +kernel), tT2 (List.mem_of_getElem? (i := 216) (by decide +kernel)) (by decide +kernel), ⟨by decide +kernel, by decide +kernel, by decide +kernel⟩, by decide +kernel, by decide +kernel⟩, tT2 (List.mem_of_getElem? (i := 215) (by decide +kernel)) (by decide +kernel)⟩
theorem ml_L_9 : Cond.methodLink RL 9 yX9_init ∈ TT := tT1 (List.mem_of_getElem? (i := 22) (by decide +kernel)) (by decide +kernel)
theorem ml_X4_11 : Cond.methodLink RX4 11 yJ0_length_8abf5 ∈ TT := tT1 (List.mem_of_getElem? (i := 41) (by decide +kernel)) (by decide +kernel)
theorem ml_J0_335 : Cond.methodLink RJ0 335 yJ0_coder_7d493 ∈ TT := tT1 (List.mem_of_getElem? (i := 45) (by decide +kernel)) (by decide +kernel)
theorem fl_X4_17 : FLk RX4 17 4 0 := ⟨_, _, _, _, clX4, by decide, tT1 (List.mem_of_getElem? (i := 51) (by decide +kernel)) (by decide +kernel), rfl⟩
theorem fl_X6_92 : FLk RX6 92 4 0 := ⟨_, _, _, _, clX4, by decide, tT1 (List.mem_of_getElem? (i := 52) (by decide +kernel)) (by decide +kernel), rfl⟩
theorem fl_X8_108 : FLk RX8 108 4 0 := ⟨_, _, _, _, clX4, by decide, tT1 (List.mem_of_getElem? (i := 53) (by decide +kernel)) (by decide +kernel), rfl⟩
theorem fl_X8_9 : FLk RX8 9 8 0 := ⟨_, _, _, _, clX8, by decide, tT1 (List.mem_of_getElem? (i := 59) (by decide +kernel)) (by decide +kernel), rfl⟩
theorem fl_X4_36 : FLk RX4 36 8 0 := ⟨_, _, _, _, clX8, by decide, tT1 (List.mem_of_getElem? (i := 60) (by decide +kernel)) (by decide +kernel), rfl⟩
theorem fl_X6_86 : FLk RX6 86 8 0 := ⟨_, _, _, _, clX8, by decide, tT1 (List.mem_of_getElem? (i := 61) (by decide +kernel)) (by decide +kernel), rfl⟩
theorem fl_X8_15 : FLk RX8 15 8 1 := ⟨_, _, _, _, clX8, by decide, tT1 (List.mem_of_getElem? (i := 62) (by decide +kernel)) (by decide +kernel), rfl⟩
theorem fl_X4_27 : FLk RX4 27 8 1 := ⟨_, _, _, _, clX8, by decide, tT1 (List.mem_of_getElem? (i := 63) (by decide +kernel)) (by decide +kernel), rfl⟩
theorem fl_X9_245 : FLk RX9 245 8 1 := ⟨_, _, _, _, clX8, by decide, tT1 (List.mem_of_getElem? (i := 64) (by decide +kernel)) (by decide +kernel), rfl⟩
theorem fl_X8_18 : FLk RX8 18 8 2 := ⟨_, _, _, _, clX8, by decide, tT1 (List.mem_of_getElem? (i := 65) (by decide +kernel)) (by decide +kernel), rfl⟩
theorem fl_X4_30 : FLk RX4 30 8 2 := ⟨_, _, _, _, clX8, by decide, tT1 (List.mem_of_getElem? (i := 66) (by decide +kernel)) (by decide +kernel), rfl⟩
theorem fl_X9_248 : FLk RX9 248 8 2 := ⟨_, _, _, _, clX8, by decide, tT1 (List.mem_of_getElem? (i := 67) (by decide +kernel)) (by decide +kernel), rfl⟩
theorem fl_X8_21 : FLk RX8 21 8 3 := ⟨_, _, _, _, clX8, by decide, tT1 (List.mem_of_getElem? (i := 68) (by decide +kernel)) (by decide +kernel), rfl⟩
theorem fl_X4_33 : FLk RX4 33 8 3 := ⟨_, _, _, _, clX8, by decide, tT1 (List.mem_of_getElem? (i := 69) (by decide +kernel)) (by decide +kernel), rfl⟩
theorem fl_X9_101 : FLk RX9 101 8 3 := ⟨_, _, _, _, clX8, by decide, tT1 (List.mem_of_getElem? (i := 70) (by decide +kernel)) (by decide +kernel), rfl⟩
theorem fl_X8_24 : FLk RX8 24 8 4 := ⟨_, _, _, _, clX8, by decide, tT1 (List.mem_of_getElem? (i := 71) (by decide +kernel)) (by decide +kernel), rfl⟩
theorem fl_X6_89 : FLk RX6 89 8 4 := ⟨_, _, _, _, clX8, by decide, tT1 (List.mem_of_getElem? (i := 72) (by decide +kernel)) (by decide +kernel), rfl⟩
theorem fl_X8_27 : FLk RX8 27 8 5 := ⟨_, _, _, _, clX8, by decide, tT1 (List.mem_of_getElem? (i := 73) (by decide +kernel)) (by decide +kernel), rfl⟩
theorem fl_X1_19 : FLk RX1 19 8 5 := ⟨_, _, _, _, clX8, by decide, tT1 (List.mem_of_getElem? (i := 74) (by decide +kernel)) (by decide +kernel), rfl⟩
theorem fl_X6_121 : FLk RX6 121 8 5 := ⟨_, _, _, _, clX8, by decide, tT1 (List.mem_of_getElem? (i := 75) (by decide +kernel)) (by decide +kernel), rfl⟩
theorem fl_X9_164 : FLk RX9 164 8 5 := ⟨_, _, _, _, clX8, by decide, tT1 (List.mem_of_getElem? (i := 76) (by decide +kernel)) (by decide +kernel), rfl⟩
theorem fl_X8_30 : FLk RX8 30 8 6 := ⟨_, _, _, _, clX8, by decide, tT1 (List.mem_of_getElem? (i := 77) (by decide +kernel)) (by decide +kernel), rfl⟩
theorem fl_X1_24 : FLk RX1 24 8 6 := ⟨_, _, _, _, clX8, by decide, tT1 (List.mem_of_getElem? (i := 78) (by decide +kernel)) (by decide +kernel), rfl⟩
theorem fl_X6_115 : FLk RX6 115 8 6 := ⟨_, _, _, _, clX8, by decide, tT1 (List.mem_of_getElem? (i := 79) (by decide +kernel)) (by decide +kernel), rfl⟩
theorem fl_X9_152 : FLk RX9 152 8 6 := ⟨_, _, _, _, clX8, by decide, tT1 (List.mem_of_getElem? (i := 80) (by decide +kernel)) (by decide +kernel), rfl⟩
theorem fl_X9_89 : FLk RX9 89 8 7 := ⟨_, _, _, _, clX8, by decide, tT1 (List.mem_of_getElem? (i := 81) (by decide +kernel)) (by decide +kernel), rfl⟩
theorem fp_X9_89 : FPk RX9 89 8 7 .int := ⟨_, _, _, _, clX8, by decide, tT1 (List.mem_of_getElem? (i := 81) (by decide +kernel)) (by decide +kernel), rfl, rfl, rfl⟩
theorem fl_X8_53 : FLk RX8 53 8 7 := ⟨_, _, _, _, clX8, by decide, tT1 (List.mem_of_getElem? (i := 82) (by decide +kernel)) (by decide +kernel), rfl⟩
theorem fp_X8_53 : FPk RX8 53 8 7 .int := ⟨_, _, _, _, clX8, by decide, tT1 (List.mem_of_getElem? (i := 82) (by decide +kernel)) (by decide +kernel), rfl, rfl, rfl⟩
theorem fl_X6_66 : FLk RX6 66 8 7 := ⟨_, _, _, _, clX8, by decide, tT1 (List.mem_of_getElem? (i := 83) (by decide +kernel)) (by decide +kernel), rfl⟩
theorem fp_X6_66 : FPk RX6 66 8 7 .int := ⟨_, _, _, _, clX8, by decide, tT1 (List.mem_of_getElem? (i := 83) (by decide +kernel)) (by decide +kernel), rfl, rfl, rfl⟩
theorem fl_X8_56 : FLk RX8 56 8 8 := ⟨_, _, _, _, clX8, by decide, tT1 (List.mem_of_getElem? (i := 84) (by decide +kernel)) (by decide +kernel), rfl⟩
theorem fp_X8_56 : FPk RX8 56 8 8 .int := ⟨_, _, _, _, clX8, by decide, tT1 (List.mem_of_getElem? (i := 84) (by decide +kernel)) (by decide +kernel), rfl, rfl, rfl⟩
theorem fl_X9_104 : FLk RX9 104 8 8 := ⟨_, _, _, _, clX8, by decide, tT1 (List.mem_of_getElem? (i := 85) (by decide +kernel)) (by decide +kernel), rfl⟩
theorem fp_X9_104 : FPk RX9 104 8 8 .int := ⟨_, _, _, _, clX8, by decide, tT1 (List.mem_of_getElem? (i := 85) (by decide +kernel)) (by decide +kernel), rfl, rfl, rfl⟩
theorem fl_X8_59 : FLk RX8 59 8 9 := ⟨_, _, _, _, clX8, by decide, tT1 (List.mem_of_getElem? (i := 86) (by decide +kernel)) (by decide +kernel), rfl⟩
theorem fp_X8_59 : FPk RX8 59 8 9 .int := ⟨_, _, _, _, clX8, by decide, tT1 (List.mem_of_getElem? (i := 86) (by decide +kernel)) (by decide +kernel), rfl, rfl, rfl⟩
theorem fl_X6_112 : FLk RX6 112 8 9 := ⟨_, _, _, _, clX8, by decide, tT1 (List.mem_of_getElem? (i := 87) (by decide +kernel)) (by decide +kernel), rfl⟩
theorem fp_X6_112 : FPk RX6 112 8 9 .int := ⟨_, _, _, _, clX8, by decide, tT1 (List.mem_of_getElem? (i := 87) (by decide +kernel)) (by decide +kernel), rfl, rfl, rfl⟩
theorem fl_X9_143 : FLk RX9 143 8 9 := ⟨_, _, _, _, clX8, by decide, tT1 (List.mem_of_getElem? (i := 88) (by decide +kernel)) (by decide +kernel), rfl⟩
theorem fp_X9_143 : FPk RX9 143 8 9 .int := ⟨_, _, _, _, clX8, by decide, tT1 (List.mem_of_getElem? (i := 88) (by decide +kernel)) (by decide +kernel), rfl, rfl, rfl⟩
theorem fl_X6_49 : FLk RX6 49 8 10 := ⟨_, _, _, _, clX8, by decide, tT1 (List.mem_of_getElem? (i := 89) (by decide +kernel)) (by decide +kernel), rfl⟩
theorem fp_X6_49 : FPk RX6 49 8 10 .int := ⟨_, _, _, _, clX8, by decide, tT1 (List.mem_of_getElem? (i := 89) (by decide +kernel)) (by decide +kernel), rfl, rfl, rfl⟩
theorem fl_X8_62 : FLk RX8 62 8 10 := ⟨_, _, _, _, clX8, by decide, tT1 (List.mem_of_getElem? (i := 90) (by decide +kernel)) (by decide +kernel), rfl⟩
theorem fp_X8_62 : FPk RX8 62 8 10 .int := ⟨_, _, _, _, clX8, by decide, tT1 (List.mem_of_getElem? (i := 90) (by decide +kernel)) (by decide +kernel), rfl, rfl, rfl⟩
theorem fl_X9_257 : FLk RX9 257 8 10 := ⟨_, _, _, _, clX8, by decide, tT1 (List.mem_of_getElem? (i := 91) (by decide +kernel)) (by decide +kernel), rfl⟩
theorem fp_X9_257 : FPk RX9 257 8 10 .int := ⟨_, _, _, _, clX8, by decide, tT1 (List.mem_of_getElem? (i := 91) (by decide +kernel)) (by decide +kernel), rfl, rfl, rfl⟩
theorem fl_X8_33 : FLk RX8 33 8 11 := ⟨_, _, _, _, clX8, by decide, tT1 (List.mem_of_getElem? (i := 92) (by decide +kernel)) (by decide +kernel), rfl⟩
theorem fp_X8_33 : FPk RX8 33 8 11 .int := ⟨_, _, _, _, clX8, by decide, tT1 (List.mem_of_getElem? (i := 92) (by decide +kernel)) (by decide +kernel), rfl, rfl, rfl⟩
theorem fl_X9_235 : FLk RX9 235 8 11 := ⟨_, _, _, _, clX8, by decide, tT1 (List.mem_of_getElem? (i := 93) (by decide +kernel)) (by decide +kernel), rfl⟩
theorem fp_X9_235 : FPk RX9 235 8 11 .int := ⟨_, _, _, _, clX8, by decide, tT1 (List.mem_of_getElem? (i := 93) (by decide +kernel)) (by decide +kernel), rfl, rfl, rfl⟩
theorem fl_X8_37 : FLk RX8 37 8 12 := ⟨_, _, _, _, clX8, by decide, tT1 (List.mem_of_getElem? (i := 94) (by decide +kernel)) (by decide +kernel), rfl⟩
theorem fl_X8_43 : FLk RX8 43 8 13 := ⟨_, _, _, _, clX8, by decide, tT1 (List.mem_of_getElem? (i := 95) (by decide +kernel)) (by decide +kernel), rfl⟩
theorem fl_X7_9 : FLk RX7 9 7 0 := ⟨_, _, _, _, clX7, by decide, tT1 (List.mem_of_getElem? (i := 131) (by decide +kernel)) (by decide +kernel), rfl⟩
theorem fl_X3_135 : FLk RX3 135 7 0 := ⟨_, _, _, _, clX7, by decide, tT1 (List.mem_of_getElem? (i := 132) (by decide +kernel)) (by decide +kernel), rfl⟩
theorem fl_X7_15 : FLk RX7 15 7 1 := ⟨_, _, _, _, clX7, by decide, tT1 (List.mem_of_getElem? (i := 133) (by decide +kernel)) (by decide +kernel), rfl⟩
theorem fp_X7_15 : FPk RX7 15 7 1 .int := ⟨_, _, _, _, clX7, by decide, tT1 (List.mem_of_getElem? (i := 133) (by decide +kernel)) (by decide +kernel), rfl, rfl, rfl⟩
theorem fl_X9_107 : FLk RX9 107 7 1 := ⟨_, _, _, _, clX7, by decide, tT1 (List.mem_of_getElem? (i := 134) (by decide +kernel)) (by decide +kernel), rfl⟩
theorem fp_X9_107 : FPk RX9 107 7 1 .int := ⟨_, _, _, _, clX7, by decide, tT1 (List.mem_of_getElem? (i := 134) (by decide +kernel)) (by decide +kernel), rfl, rfl, rfl⟩
theorem fl_X2_33 : FLk RX2 33 2 0 := ⟨_, _, _, _, clX2, by decide, tT1 (List.mem_of_getElem? (i := 147) (by decide +kernel)) (by decide +kernel), rfl⟩
theorem fp_X2_33 : FPk RX2 33 2 0 .int := ⟨_, _, _, _, clX2, by decide, tT1 (List.mem_of_getElem? (i := 147) (by decide +kernel)) (by decide +kernel), rfl, rfl, rfl⟩
theorem fl_X3_47 : FLk RX3 47 2 0 := ⟨_, _, _, _, clX2, by decide, tT1 (List.mem_of_getElem? (i := 148) (by decide +kernel)) (by decide +kernel), rfl⟩
theorem fp_X3_47 : FPk RX3 47 2 0 .int := ⟨_, _, _, _, clX2, by decide, tT1 (List.mem_of_getElem? (i := 148) (by decide +kernel)) (by decide +kernel), rfl, rfl, rfl⟩
theorem fl_X9_254 : FLk RX9 254 2 0 := ⟨_, _, _, _, clX2, by decide, tT1 (List.mem_of_getElem? (i := 149) (by decide +kernel)) (by decide +kernel), rfl⟩
theorem fp_X9_254 : FPk RX9 254 2 0 .int := ⟨_, _, _, _, clX2, by decide, tT1 (List.mem_of_getElem? (i := 149) (by decide +kernel)) (by decide +kernel), rfl, rfl, rfl⟩
theorem fl_X2_37 : FLk RX2 37 2 1 := ⟨_, _, _, _, clX2, by decide, tT1 (List.mem_of_getElem? (i := 150) (by decide +kernel)) (by decide +kernel), rfl⟩
theorem fp_X2_37 : FPk RX2 37 2 1 .int := ⟨_, _, _, _, clX2, by decide, tT1 (List.mem_of_getElem? (i := 150) (by decide +kernel)) (by decide +kernel), rfl, rfl, rfl⟩
theorem fl_X2_9 : FLk RX2 9 2 2 := ⟨_, _, _, _, clX2, by decide, tT1 (List.mem_of_getElem? (i := 151) (by decide +kernel)) (by decide +kernel), rfl⟩
theorem fl_X2_15 : FLk RX2 15 2 3 := ⟨_, _, _, _, clX2, by decide, tT1 (List.mem_of_getElem? (i := 152) (by decide +kernel)) (by decide +kernel), rfl⟩
theorem fl_X2_18 : FLk RX2 18 2 4 := ⟨_, _, _, _, clX2, by decide, tT1 (List.mem_of_getElem? (i := 153) (by decide +kernel)) (by decide +kernel), rfl⟩
theorem fl_X2_21 : FLk RX2 21 2 5 := ⟨_, _, _, _, clX2, by decide, tT1 (List.mem_of_getElem? (i := 154) (by decide +kernel)) (by decide +kernel), rfl⟩
theorem fl_X2_24 : FLk RX2 24 2 6 := ⟨_, _, _, _, clX2, by decide, tT1 (List.mem_of_getElem? (i := 155) (by decide +kernel)) (by decide +kernel), rfl⟩
theorem fl_X2_27 : FLk RX2 27 2 7 := ⟨_, _, _, _, clX2, by decide, tT1 (List.mem_of_getElem? (i := 156) (by decide +kernel)) (by decide +kernel), rfl⟩
theorem fl_X2_30 : FLk RX2 30 2 8 := ⟨_, _, _, _, clX2, by decide, tT1 (List.mem_of_getElem? (i := 157) (by decide +kernel)) (by decide +kernel), rfl⟩
theorem ml_X9_42 : Cond.methodLink RX9 42 yX3_init ∈ TT := tT1 (List.mem_of_getElem? (i := 179) (by decide +kernel)) (by decide +kernel)
theorem fl_X3_9 : FLk RX3 9 3 0 := ⟨_, _, _, _, clX3, by decide, tT1 (List.mem_of_getElem? (i := 183) (by decide +kernel)) (by decide +kernel), rfl⟩
theorem fl_X3_15 : FLk RX3 15 3 1 := ⟨_, _, _, _, clX3, by decide, tT1 (List.mem_of_getElem? (i := 184) (by decide +kernel)) (by decide +kernel), rfl⟩
theorem fl_X3_25 : FLk RX3 25 3 2 := ⟨_, _, _, _, clX3, by decide, tT1 (List.mem_of_getElem? (i := 185) (by decide +kernel)) (by decide +kernel), rfl⟩
theorem fp_X3_25 : FPk RX3 25 3 2 .int := ⟨_, _, _, _, clX3, by decide, tT1 (List.mem_of_getElem? (i := 185) (by decide +kernel)) (by decide +kernel), rfl, rfl, rfl⟩
theorem fl_X3_29 : FLk RX3 29 3 3 := ⟨_, _, _, _, clX3, by decide, tT1 (List.mem_of_getElem? (i := 186) (by decide +kernel)) (by decide +kernel), rfl⟩
theorem fp_X3_29 : FPk RX3 29 3 3 .int := ⟨_, _, _, _, clX3, by decide, tT1 (List.mem_of_getElem? (i := 186) (by decide +kernel)) (by decide +kernel), rfl, rfl, rfl⟩
theorem fl_X3_32 : FLk RX3 32 3 4 := ⟨_, _, _, _, clX3, by decide, tT1 (List.mem_of_getElem? (i := 187) (by decide +kernel)) (by decide +kernel), rfl⟩
theorem fp_X3_32 : FPk RX3 32 3 4 .int := ⟨_, _, _, _, clX3, by decide, tT1 (List.mem_of_getElem? (i := 187) (by decide +kernel)) (by decide +kernel), rfl, rfl, rfl⟩
theorem ml_X9_51 : Cond.methodLink RX9 51 yX6_init ∈ TT := tT1 (List.mem_of_getElem? (i := 201) (by decide +kernel)) (by decide +kernel)
theorem fl_X6_9 : FLk RX6 9 6 0 := ⟨_, _, _, _, clX6, by decide, tT1 (List.mem_of_getElem? (i := 207) (by decide +kernel)) (by decide +kernel), rfl⟩
theorem fl_X6_15 : FLk RX6 15 6 1 := ⟨_, _, _, _, clX6, by decide, tT1 (List.mem_of_getElem? (i := 208) (by decide +kernel)) (by decide +kernel), rfl⟩
theorem fl_X0_34 : FLk RX0 34 6 1 := ⟨_, _, _, _, clX6, by decide, tT1 (List.mem_of_getElem? (i := 209) (by decide +kernel)) (by decide +kernel), rfl⟩
theorem fl_X6_18 : FLk RX6 18 6 2 := ⟨_, _, _, _, clX6, by decide, tT1 (List.mem_of_getElem? (i := 210) (by decide +kernel)) (by decide +kernel), rfl⟩
theorem fl_X5_58 : FLk RX5 58 6 2 := ⟨_, _, _, _, clX6, by decide, tT1 (List.mem_of_getElem? (i := 211) (by decide +kernel)) (by decide +kernel), rfl⟩
theorem fl_X1_39 : FLk RX1 39 6 2 := ⟨_, _, _, _, clX6, by decide, tT1 (List.mem_of_getElem? (i := 212) (by decide +kernel)) (by decide +kernel), rfl⟩
theorem fl_X6_21 : FLk RX6 21 6 3 := ⟨_, _, _, _, clX6, by decide, tT1 (List.mem_of_getElem? (i := 213) (by decide +kernel)) (by decide +kernel), rfl⟩
theorem fl_X6_27 : FLk RX6 27 6 4 := ⟨_, _, _, _, clX6, by decide, tT1 (List.mem_of_getElem? (i := 214) (by decide +kernel)) (by decide +kernel), rfl⟩
theorem fl_X6_31 : FLk RX6 31 6 5 := ⟨_, _, _, _, clX6, by decide, tT1 (List.mem_of_getElem? (i := 215) (by decide +kernel)) (by decide +kernel), rfl⟩
theorem fp_X6_31 : FPk RX6 31 6 5 (.object "TallerWitness$Valley") := ⟨_, _, _, _, clX6, by decide, tT1 (List.mem_of_getElem? (i := 215) (by decide +kernel)) (by decide +kernel), rfl, rfl, rfl⟩
theorem fl_X6_35 : FLk RX6 35 6 6 := ⟨_, _, _, _, clX6, by decide, tT1 (List.mem_of_getElem? (i := 216) (by decide +kernel)) (by decide +kernel), rfl⟩
theorem fp_X6_35 : FPk RX6 35 6 6 (.object "TallerWitness$Law") := ⟨_, _, _, _, clX6, by decide, tT1 (List.mem_of_getElem? (i := 216) (by decide +kernel)) (by decide +kernel), rfl, rfl, rfl⟩
theorem fl_X0_29 : FLk RX0 29 6 7 := ⟨_, _, _, _, clX6, by decide, tT1 (List.mem_of_getElem? (i := 217) (by decide +kernel)) (by decide +kernel), rfl⟩
theorem fp_X0_29 : FPk RX0 29 6 7 .int := ⟨_, _, _, _, clX6, by decide, tT1 (List.mem_of_getElem? (i := 217) (by decide +kernel)) (by decide +kernel), rfl, rfl, rfl⟩
theorem fl_X6_59 : FLk RX6 59 6 7 := ⟨_, _, _, _, clX6, by decide, tT1 (List.mem_of_getElem? (i := 218) (by decide +kernel)) (by decide +kernel), rfl⟩
theorem fp_X6_59 : FPk RX6 59 6 7 .int := ⟨_, _, _, _, clX6, by decide, tT1 (List.mem_of_getElem? (i := 218) (by decide +kernel)) (by decide +kernel), rfl, rfl, rfl⟩
theorem fl_X6_45 : FLk RX6 45 6 8 := ⟨_, _, _, _, clX6, by decide, tT1 (List.mem_of_getElem? (i := 219) (by decide +kernel)) (by decide +kernel), rfl⟩
theorem fp_X6_45 : FPk RX6 45 6 8 .int := ⟨_, _, _, _, clX6, by decide, tT1 (List.mem_of_getElem? (i := 219) (by decide +kernel)) (by decide +kernel), rfl, rfl, rfl⟩
theorem fl_X0_37 : FLk RX0 37 6 8 := ⟨_, _, _, _, clX6, by decide, tT1 (List.mem_of_getElem? (i := 220) (by decide +kernel)) (by decide +kernel), rfl⟩
theorem fp_X0_37 : FPk RX0 37 6 8 .int := ⟨_, _, _, _, clX6, by decide, tT1 (List.mem_of_getElem? (i := 220) (by decide +kernel)) (by decide +kernel), rfl, rfl, rfl⟩
theorem ml_X9_60 : Cond.methodLink RX9 60 yX0_init ∈ TT := tT2 (List.mem_of_getElem? (i := 2) (by decide +kernel)) (by decide +kernel)
theorem fl_X0_21 : FLk RX0 21 0 0 := ⟨_, _, _, _, clX0, by decide, tT2 (List.mem_of_getElem? (i := 6) (by decide +kernel)) (by decide +kernel), rfl⟩
theorem fl_X0_9 : FLk RX0 9 0 1 := ⟨_, _, _, _, clX0, by decide, tT2 (List.mem_of_getElem? (i := 7) (by decide +kernel)) (by decide +kernel), rfl⟩
theorem fl_X0_15 : FLk RX0 15 0 2 := ⟨_, _, _, _, clX0, by decide, tT2 (List.mem_of_getElem? (i := 8) (by decide +kernel)) (by decide +kernel), rfl⟩
theorem fl_X0_18 : FLk RX0 18 0 3 := ⟨_, _, _, _, clX0, by decide, tT2 (List.mem_of_getElem? (i := 9) (by decide +kernel)) (by decide +kernel), rfl⟩
theorem fl_X0_25 : FLk RX0 25 0 4 := ⟨_, _, _, _, clX0, by decide, tT2 (List.mem_of_getElem? (i := 10) (by decide +kernel)) (by decide +kernel), rfl⟩
theorem fp_X0_25 : FPk RX0 25 0 4 .int := ⟨_, _, _, _, clX0, by decide, tT2 (List.mem_of_getElem? (i := 10) (by decide +kernel)) (by decide +kernel), rfl, rfl, rfl⟩
theorem ml_X9_69 : Cond.methodLink RX9 69 yX5_init ∈ TT := tT2 (List.mem_of_getElem? (i := 24) (by decide +kernel)) (by decide +kernel)
theorem fl_X5_9 : FLk RX5 9 5 0 := ⟨_, _, _, _, clX5, by decide, tT2 (List.mem_of_getElem? (i := 28) (by decide +kernel)) (by decide +kernel), rfl⟩
theorem fl_X5_15 : FLk RX5 15 5 1 := ⟨_, _, _, _, clX5, by decide, tT2 (List.mem_of_getElem? (i := 29) (by decide +kernel)) (by decide +kernel), rfl⟩
theorem fp_X5_15 : FPk RX5 15 5 1 .boolean := ⟨_, _, _, _, clX5, by decide, tT2 (List.mem_of_getElem? (i := 29) (by decide +kernel)) (by decide +kernel), rfl, rfl, rfl⟩
theorem fl_X5_46 : FLk RX5 46 5 2 := ⟨_, _, _, _, clX5, by decide, tT2 (List.mem_of_getElem? (i := 30) (by decide +kernel)) (by decide +kernel), rfl⟩
theorem fp_X5_46 : FPk RX5 46 5 2 .int := ⟨_, _, _, _, clX5, by decide, tT2 (List.mem_of_getElem? (i := 30) (by decide +kernel)) (by decide +kernel), rfl, rfl, rfl⟩
theorem fl_X5_42 : FLk RX5 42 5 3 := ⟨_, _, _, _, clX5, by decide, tT2 (List.mem_of_getElem? (i := 31) (by decide +kernel)) (by decide +kernel), rfl⟩
theorem fp_X5_42 : FPk RX5 42 5 3 .int := ⟨_, _, _, _, clX5, by decide, tT2 (List.mem_of_getElem? (i := 31) (by decide +kernel)) (by decide +kernel), rfl, rfl, rfl⟩
theorem fl_X9_204 : FLk RX9 204 5 3 := ⟨_, _, _, _, clX5, by decide, tT2 (List.mem_of_getElem? (i := 32) (by decide +kernel)) (by decide +kernel), rfl⟩
theorem fp_X9_204 : FPk RX9 204 5 3 .int := ⟨_, _, _, _, clX5, by decide, tT2 (List.mem_of_getElem? (i := 32) (by decide +kernel)) (by decide +kernel), rfl, rfl, rfl⟩
theorem fl_X5_49 : FLk RX5 49 5 4 := ⟨_, _, _, _, clX5, by decide, tT2 (List.mem_of_getElem? (i := 33) (by decide +kernel)) (by decide +kernel), rfl⟩
theorem fp_X5_49 : FPk RX5 49 5 4 .int := ⟨_, _, _, _, clX5, by decide, tT2 (List.mem_of_getElem? (i := 33) (by decide +kernel)) (by decide +kernel), rfl, rfl, rfl⟩
theorem fl_X9_206 : FLk RX9 206 5 4 := ⟨_, _, _, _, clX5, by decide, tT2 (List.mem_of_getElem? (i := 34) (by decide +kernel)) (by decide +kernel), rfl⟩
theorem fp_X9_206 : FPk RX9 206 5 4 .int := ⟨_, _, _, _, clX5, by decide, tT2 (List.mem_of_getElem? (i := 34) (by decide +kernel)) (by decide +kernel), rfl, rfl, rfl⟩
theorem ml_X9_76 : Cond.methodLink RX9 76 yX1_init ∈ TT := tT2 (List.mem_of_getElem? (i := 48) (by decide +kernel)) (by decide +kernel)
theorem fl_X1_15 : FLk RX1 15 1 0 := ⟨_, _, _, _, clX1, by decide, tT2 (List.mem_of_getElem? (i := 52) (by decide +kernel)) (by decide +kernel), rfl⟩
theorem fl_X1_9 : FLk RX1 9 1 1 := ⟨_, _, _, _, clX1, by decide, tT2 (List.mem_of_getElem? (i := 53) (by decide +kernel)) (by decide +kernel), rfl⟩
theorem fl_X1_44 : FLk RX1 44 1 2 := ⟨_, _, _, _, clX1, by decide, tT2 (List.mem_of_getElem? (i := 54) (by decide +kernel)) (by decide +kernel), rfl⟩
theorem fp_X1_44 : FPk RX1 44 1 2 .int := ⟨_, _, _, _, clX1, by decide, tT2 (List.mem_of_getElem? (i := 54) (by decide +kernel)) (by decide +kernel), rfl, rfl, rfl⟩
theorem fl_X9_217 : FLk RX9 217 1 2 := ⟨_, _, _, _, clX1, by decide, tT2 (List.mem_of_getElem? (i := 55) (by decide +kernel)) (by decide +kernel), rfl⟩
theorem fp_X9_217 : FPk RX9 217 1 2 .int := ⟨_, _, _, _, clX1, by decide, tT2 (List.mem_of_getElem? (i := 55) (by decide +kernel)) (by decide +kernel), rfl, rfl, rfl⟩
theorem fl_X9_12 : FLk RX9 12 9 0 := ⟨_, _, _, _, clX9, by decide, tT2 (List.mem_of_getElem? (i := 63) (by decide +kernel)) (by decide +kernel), rfl⟩
theorem fl_X9_16 : FLk RX9 16 9 1 := ⟨_, _, _, _, clX9, by decide, tT2 (List.mem_of_getElem? (i := 64) (by decide +kernel)) (by decide +kernel), rfl⟩
theorem fl_X9_19 : FLk RX9 19 9 2 := ⟨_, _, _, _, clX9, by decide, tT2 (List.mem_of_getElem? (i := 65) (by decide +kernel)) (by decide +kernel), rfl⟩
theorem fl_X9_25 : FLk RX9 25 9 3 := ⟨_, _, _, _, clX9, by decide, tT2 (List.mem_of_getElem? (i := 66) (by decide +kernel)) (by decide +kernel), rfl⟩
theorem fl_X9_31 : FLk RX9 31 9 4 := ⟨_, _, _, _, clX9, by decide, tT2 (List.mem_of_getElem? (i := 67) (by decide +kernel)) (by decide +kernel), rfl⟩
theorem fl_X9_36 : FLk RX9 36 9 5 := ⟨_, _, _, _, clX9, by decide, tT2 (List.mem_of_getElem? (i := 68) (by decide +kernel)) (by decide +kernel), rfl⟩
theorem fl_X9_45 : FLk RX9 45 9 6 := ⟨_, _, _, _, clX9, by decide, tT2 (List.mem_of_getElem? (i := 69) (by decide +kernel)) (by decide +kernel), rfl⟩
theorem fl_X9_54 : FLk RX9 54 9 7 := ⟨_, _, _, _, clX9, by decide, tT2 (List.mem_of_getElem? (i := 70) (by decide +kernel)) (by decide +kernel), rfl⟩
theorem fl_X9_63 : FLk RX9 63 9 8 := ⟨_, _, _, _, clX9, by decide, tT2 (List.mem_of_getElem? (i := 71) (by decide +kernel)) (by decide +kernel), rfl⟩
theorem fl_X9_70 : FLk RX9 70 9 9 := ⟨_, _, _, _, clX9, by decide, tT2 (List.mem_of_getElem? (i := 72) (by decide +kernel)) (by decide +kernel), rfl⟩
theorem fl_X9_77 : FLk RX9 77 9 10 := ⟨_, _, _, _, clX9, by decide, tT2 (List.mem_of_getElem? (i := 73) (by decide +kernel)) (by decide +kernel), rfl⟩
theorem fl_X9_81 : FLk RX9 81 9 11 := ⟨_, _, _, _, clX9, by decide, tT2 (List.mem_of_getElem? (i := 74) (by decide +kernel)) (by decide +kernel), rfl⟩
theorem fl_X9_229 : FLk RX9 229 9 12 := ⟨_, _, _, _, clX9, by decide, tT2 (List.mem_of_getElem? (i := 75) (by decide +kernel)) (by decide +kernel), rfl⟩
theorem fp_X9_229 : FPk RX9 229 9 12 .int := ⟨_, _, _, _, clX9, by decide, tT2 (List.mem_of_getElem? (i := 75) (by decide +kernel)) (by decide +kernel), rfl, rfl, rfl⟩
theorem fl_X9_238 : FLk RX9 238 9 13 := ⟨_, _, _, _, clX9, by decide, tT2 (List.mem_of_getElem? (i := 76) (by decide +kernel)) (by decide +kernel), rfl⟩
theorem fp_X9_238 : FPk RX9 238 9 13 .boolean := ⟨_, _, _, _, clX9, by decide, tT2 (List.mem_of_getElem? (i := 76) (by decide +kernel)) (by decide +kernel), rfl, rfl, rfl⟩
theorem ml_L_13 : Cond.methodLink RL 13 yX9_person ∈ TT := tT2 (List.mem_of_getElem? (i := 106) (by decide +kernel)) (by decide +kernel)
theorem ml_X9_85 : Cond.methodLink RX9 85 yX9_within ∈ TT := tT2 (List.mem_of_getElem? (i := 110) (by decide +kernel)) (by decide +kernel)
theorem ml_X9_93 : Cond.methodLink RX9 93 yX8_addPerson ∈ TT := tT2 (List.mem_of_getElem? (i := 113) (by decide +kernel)) (by decide +kernel)
theorem ml_L_18 : Cond.methodLink RL 18 yX9_heels ∈ TT := tT2 (List.mem_of_getElem? (i := 117) (by decide +kernel)) (by decide +kernel)
theorem ml_X9_97 : Cond.methodLink RX9 97 yX8_lives ∈ TT := tT2 (List.mem_of_getElem? (i := 121) (by decide +kernel)) (by decide +kernel)
theorem ml_X8_65 : Cond.methodLink RX8 65 yX8_isPerson ∈ TT := tT2 (List.mem_of_getElem? (i := 125) (by decide +kernel)) (by decide +kernel)
theorem ml_L_23 : Cond.methodLink RL 23 yX9_dies ∈ TT := tT2 (List.mem_of_getElem? (i := 132) (by decide +kernel)) (by decide +kernel)
theorem ml_L_28 : Cond.methodLink RL 28 yX9_feed ∈ TT := tT2 (List.mem_of_getElem? (i := 136) (by decide +kernel)) (by decide +kernel)
theorem ml_X9_110 : Cond.methodLink RX9 110 yX7_addWord ∈ TT := tT2 (List.mem_of_getElem? (i := 140) (by decide +kernel)) (by decide +kernel)
theorem ml_L_33 : Cond.methodLink RL 33 yX9_law ∈ TT := tT2 (List.mem_of_getElem? (i := 144) (by decide +kernel)) (by decide +kernel)
theorem ml_X9_114 : Cond.methodLink RX9 114 yX3_readText ∈ TT := tT2 (List.mem_of_getElem? (i := 148) (by decide +kernel)) (by decide +kernel)
theorem ml_X3_19 : Cond.methodLink RX3 19 Lib.Math.min.name ∈ TT := tT2 (List.mem_of_getElem? (i := 152) (by decide +kernel)) (by decide +kernel)
theorem ml_X3_35 : Cond.methodLink RX3 35 yX2_clear ∈ TT := tT2 (List.mem_of_getElem? (i := 155) (by decide +kernel)) (by decide +kernel)
theorem ml_X3_40 : Cond.methodLink RX3 40 yX3_readClause ∈ TT := tT2 (List.mem_of_getElem? (i := 159) (by decide +kernel)) (by decide +kernel)
theorem ml_X3_52 : Cond.methodLink RX3 52 yX3_isNext ∈ TT := tT2 (List.mem_of_getElem? (i := 164) (by decide +kernel)) (by decide +kernel)
theorem ml_X3_129 : Cond.methodLink RX3 129 yJ0_indexOf_0f7a4 ∈ TT := tT2 (List.mem_of_getElem? (i := 168) (by decide +kernel)) (by decide +kernel)
theorem ml_J0_633 : Cond.methodLink RJ0 633 yJ0_indexOf_7cf53 ∈ TT := tT2 (List.mem_of_getElem? (i := 172) (by decide +kernel)) (by decide +kernel)
theorem ml_J0_492 : Cond.methodLink RJ0 492 yJ0_isLatin1_aae02 ∈ TT := tT2 (List.mem_of_getElem? (i := 176) (by decide +kernel)) (by decide +kernel)
theorem ml_J0_505 : Cond.methodLink RJ0 505 yJ0_length_8abf5 ∈ TT := tT2 (List.mem_of_getElem? (i := 180) (by decide +kernel)) (by decide +kernel)
theorem ml_J0_637 : Cond.methodLink RJ0 637 yJ1_indexOf_4cfef ∈ TT := tT2 (List.mem_of_getElem? (i := 181) (by decide +kernel)) (by decide +kernel)
theorem ml_J1_88 : Cond.methodLink RJ1 88 yJ1_canEncode_9a6ad ∈ TT := tT2 (List.mem_of_getElem? (i := 184) (by decide +kernel)) (by decide +kernel)
theorem ml_J1_92 : Cond.methodLink RJ1 92 Lib.Math.max.name ∈ TT := tT2 (List.mem_of_getElem? (i := 187) (by decide +kernel)) (by decide +kernel)
theorem ml_J1_38 : Cond.methodLink RJ1 38 Lib.Math.min.name ∈ TT := tT2 (List.mem_of_getElem? (i := 190) (by decide +kernel)) (by decide +kernel)
theorem ml_J1_95 : Cond.methodLink RJ1 95 yJ1_indexOfChar_4cfef ∈ TT := tT2 (List.mem_of_getElem? (i := 191) (by decide +kernel)) (by decide +kernel)
theorem ml_J0_640 : Cond.methodLink RJ0 640 yJ2_indexOf_4cfef ∈ TT := tT2 (List.mem_of_getElem? (i := 194) (by decide +kernel)) (by decide +kernel)
theorem ml_J2_224 : Cond.methodLink RJ2 224 Lib.Math.max.name ∈ TT := tT2 (List.mem_of_getElem? (i := 197) (by decide +kernel)) (by decide +kernel)
theorem ml_J2_183 : Cond.methodLink RJ2 183 Lib.Math.min.name ∈ TT := tT2 (List.mem_of_getElem? (i := 198) (by decide +kernel)) (by decide +kernel)
theorem kc_J2_227 : Cond.constant RJ2 227 (65536) ∈ TT := tT2 (List.mem_of_getElem? (i := 199) (by decide +kernel)) (by decide +kernel)
theorem ml_J2_228 : Cond.methodLink RJ2 228 yJ2_indexOfChar_4cfef ∈ TT := tT2 (List.mem_of_getElem? (i := 200) (by decide +kernel)) (by decide +kernel)
theorem ml_J2_96 : Cond.methodLink RJ2 96 yJ2_checkBoundsBeginEnd_d044e ∈ TT := tT2 (List.mem_of_getElem? (i := 203) (by decide +kernel)) (by decide +kernel)
theorem ml_J2_48 : Cond.methodLink RJ2 48 yJ2_length_9d52b ∈ TT := tT2 (List.mem_of_getElem? (i := 206) (by decide +kernel)) (by decide +kernel)
theorem ml_J2_241 : Cond.methodLink RJ2 241 yJ0_checkBoundsBeginEnd_23922 ∈ TT := tT2 (List.mem_of_getElem? (i := 209) (by decide +kernel)) (by decide +kernel)
theorem ml_J0_1062 : Cond.methodLink RJ0 1062 yJ3_checkFromToIndex_8c36e ∈ TT := tT2 (List.mem_of_getElem? (i := 214) (by decide +kernel)) (by decide +kernel)
theorem ml_J2_244 : Cond.methodLink RJ2 244 yJ2_indexOfCharUnsafe_4cfef ∈ TT := tT2 (List.mem_of_getElem? (i := 217) (by decide +kernel)) (by decide +kernel)
theorem ml_J2_71 : Cond.methodLink RJ2 71 yJ2_getChar_3b067 ∈ TT := tT2 (List.mem_of_getElem? (i := 220) (by decide +kernel)) (by decide +kernel)
theorem ml_J2_232 : Cond.methodLink RJ2 232 yJ2_indexOfSupplementary_4cfef ∈ TT := tT2 (List.mem_of_getElem? (i := 229) (by decide +kernel)) (by decide +kernel)
theorem ml_J2_164 : Cond.methodLink RJ2 164 yJ11_isValidCodePoint_9a6ad ∈ TT := tT2 (List.mem_of_getElem? (i := 232) (by decide +kernel)) (by decide +kernel)
theorem ml_J2_157 : Cond.methodLink RJ2 157 yJ11_highSurrogate_5068e ∈ TT := tT2 (List.mem_of_getElem? (i := 235) (by decide +kernel)) (by decide +kernel)
theorem kc_J11_110 : Cond.constant RJ11 110 (55232) ∈ TT := tT2 (List.mem_of_getElem? (i := 238) (by decide +kernel)) (by decide +kernel)
theorem ml_J2_161 : Cond.methodLink RJ2 161 yJ11_lowSurrogate_5068e ∈ TT := tT2 (List.mem_of_getElem? (i := 239) (by decide +kernel)) (by decide +kernel)
theorem kc_J11_76 : Cond.constant RJ11 76 (56320) ∈ TT := tT3 (List.mem_of_getElem? (i := 2) (by decide +kernel)) (by decide +kernel)
theorem ml_X3_56 : Cond.methodLink RX3 56 yX3_fail ∈ TT := tT3 (List.mem_of_getElem? (i := 3) (by decide +kernel)) (by decide +kernel)
theorem ml_X3_61 : Cond.methodLink RX3 61 yX3_sign ∈ TT := tT3 (List.mem_of_getElem? (i := 8) (by decide +kernel)) (by decide +kernel)
theorem ml_X3_65 : Cond.methodLink RX3 65 yX2_beginClause ∈ TT := tT3 (List.mem_of_getElem? (i := 12) (by decide +kernel)) (by decide +kernel)
theorem ml_X3_68 : Cond.methodLink RX3 68 yX3_readSum ∈ TT := tT3 (List.mem_of_getElem? (i := 16) (by decide +kernel)) (by decide +kernel)
theorem ml_X3_108 : Cond.methodLink RX3 108 yX3_readTerm ∈ TT := tT3 (List.mem_of_getElem? (i := 20) (by decide +kernel)) (by decide +kernel)
theorem ml_X3_113 : Cond.methodLink RX3 113 yX3_readFactor ∈ TT := tT3 (List.mem_of_getElem? (i := 24) (by decide +kernel)) (by decide +kernel)
theorem ml_X3_98 : Cond.methodLink RX3 98 yX3_opens ∈ TT := tT3 (List.mem_of_getElem? (i := 29) (by decide +kernel)) (by decide +kernel)
theorem ml_X3_43 : Cond.methodLink RX3 43 yX3_pass ∈ TT := tT3 (List.mem_of_getElem? (i := 33) (by decide +kernel)) (by decide +kernel)
theorem ml_X3_122 : Cond.methodLink RX3 122 yX3_readNumber ∈ TT := tT3 (List.mem_of_getElem? (i := 38) (by decide +kernel)) (by decide +kernel)
theorem ml_X3_85 : Cond.methodLink RX3 85 yX2_addSign ∈ TT := tT3 (List.mem_of_getElem? (i := 42) (by decide +kernel)) (by decide +kernel)
theorem ml_X3_71 : Cond.methodLink RX3 71 yX2_beginCondition ∈ TT := tT3 (List.mem_of_getElem? (i := 49) (by decide +kernel)) (by decide +kernel)
theorem ml_X3_74 : Cond.methodLink RX3 74 yX3_readChoice ∈ TT := tT3 (List.mem_of_getElem? (i := 53) (by decide +kernel)) (by decide +kernel)
theorem ml_X3_80 : Cond.methodLink RX3 80 yX3_readPart ∈ TT := tT3 (List.mem_of_getElem? (i := 57) (by decide +kernel)) (by decide +kernel)
theorem ml_X3_91 : Cond.methodLink RX3 91 yX3_readPiece ∈ TT := tT3 (List.mem_of_getElem? (i := 61) (by decide +kernel)) (by decide +kernel)
theorem ml_X3_103 : Cond.methodLink RX3 103 yX3_readComparison ∈ TT := tT3 (List.mem_of_getElem? (i := 67) (by decide +kernel)) (by decide +kernel)
theorem ml_X3_88 : Cond.methodLink RX3 88 yX2_leapToHere ∈ TT := tT3 (List.mem_of_getElem? (i := 73) (by decide +kernel)) (by decide +kernel)
theorem ml_X3_77 : Cond.methodLink RX3 77 yX2_endClause ∈ TT := tT3 (List.mem_of_getElem? (i := 78) (by decide +kernel)) (by decide +kernel)
theorem ml_X9_118 : Cond.methodLink RX9 118 yX2_copyFrom ∈ TT := tT3 (List.mem_of_getElem? (i := 82) (by decide +kernel)) (by decide +kernel)
theorem ml_X2_40 : Cond.methodLink RX2 40 arraycopyName ∈ TT := tT3 (List.mem_of_getElem? (i := 86) (by decide +kernel)) (by decide +kernel)
theorem ml_L_38 : Cond.methodLink RL 38 yX9_tall ∈ TT := tT3 (List.mem_of_getElem? (i := 89) (by decide +kernel)) (by decide +kernel)
theorem ml_X9_122 : Cond.methodLink RX9 122 yX8_isPerson ∈ TT := tT3 (List.mem_of_getElem? (i := 93) (by decide +kernel)) (by decide +kernel)
theorem ml_X9_125 : Cond.methodLink RX9 125 yX8_heightOf ∈ TT := tT3 (List.mem_of_getElem? (i := 94) (by decide +kernel)) (by decide +kernel)
theorem ml_L_43 : Cond.methodLink RL 43 yX9_top ∈ TT := tT3 (List.mem_of_getElem? (i := 98) (by decide +kernel)) (by decide +kernel)
theorem ml_X9_128 : Cond.methodLink RX9 128 yX8_tallestOne ∈ TT := tT3 (List.mem_of_getElem? (i := 102) (by decide +kernel)) (by decide +kernel)
theorem ml_X8_73 : Cond.methodLink RX8 73 yX8_heightOf ∈ TT := tT3 (List.mem_of_getElem? (i := 106) (by decide +kernel)) (by decide +kernel)
theorem ml_L_48 : Cond.methodLink RL 48 yX9_step ∈ TT := tT3 (List.mem_of_getElem? (i := 107) (by decide +kernel)) (by decide +kernel)
theorem ml_X9_132 : Cond.methodLink RX9 132 yX6_reckon ∈ TT := tT3 (List.mem_of_getElem? (i := 111) (by decide +kernel)) (by decide +kernel)
theorem ml_X6_39 : Cond.methodLink RX6 39 yX8_tallestOne ∈ TT := tT3 (List.mem_of_getElem? (i := 115) (by decide +kernel)) (by decide +kernel)
theorem ml_X6_52 : Cond.methodLink RX6 52 yX4_tellTime ∈ TT := tT3 (List.mem_of_getElem? (i := 116) (by decide +kernel)) (by decide +kernel)
theorem ml_X6_56 : Cond.methodLink RX6 56 yX6_orderUpward ∈ TT := tT3 (List.mem_of_getElem? (i := 120) (by decide +kernel)) (by decide +kernel)
theorem ml_X6_127 : Cond.methodLink RX6 127 yX8_heightOf ∈ TT := tT3 (List.mem_of_getElem? (i := 124) (by decide +kernel)) (by decide +kernel)
theorem ml_X6_131 : Cond.methodLink RX6 131 yX8_lives ∈ TT := tT3 (List.mem_of_getElem? (i := 125) (by decide +kernel)) (by decide +kernel)
theorem ml_X6_62 : Cond.methodLink RX6 62 yX6_isLet ∈ TT := tT3 (List.mem_of_getElem? (i := 126) (by decide +kernel)) (by decide +kernel)
theorem ml_X6_79 : Cond.methodLink RX6 79 yX4_tellSwearer ∈ TT := tT3 (List.mem_of_getElem? (i := 130) (by decide +kernel)) (by decide +kernel)
theorem ml_X4_21 : Cond.methodLink RX4 21 yX8_heightOf ∈ TT := tT3 (List.mem_of_getElem? (i := 134) (by decide +kernel)) (by decide +kernel)
theorem ml_X6_83 : Cond.methodLink RX6 83 yX4_tellSwornTo ∈ TT := tT3 (List.mem_of_getElem? (i := 135) (by decide +kernel)) (by decide +kernel)
theorem ml_X6_135 : Cond.methodLink RX6 135 yX2_anyHolds ∈ TT := tT3 (List.mem_of_getElem? (i := 139) (by decide +kernel)) (by decide +kernel)
theorem ml_X2_46 : Cond.methodLink RX2 46 yX2_worth ∈ TT := tT3 (List.mem_of_getElem? (i := 143) (by decide +kernel)) (by decide +kernel)
theorem ml_X2_50 : Cond.methodLink RX2 50 Lib.Math.min.name ∈ TT := tT3 (List.mem_of_getElem? (i := 147) (by decide +kernel)) (by decide +kernel)
theorem ml_X2_56 : Cond.methodLink RX2 56 Lib.Math.max.name ∈ TT := tT3 (List.mem_of_getElem? (i := 148) (by decide +kernel)) (by decide +kernel)
theorem ml_X2_59 : Cond.methodLink RX2 59 yX2_isRefused ∈ TT := tT3 (List.mem_of_getElem? (i := 149) (by decide +kernel)) (by decide +kernel)
theorem ml_X2_63 : Cond.methodLink RX2 63 yX2_combined ∈ TT := tT3 (List.mem_of_getElem? (i := 152) (by decide +kernel)) (by decide +kernel)
theorem ml_X9_135 : Cond.methodLink RX9 135 yX6_leads ∈ TT := tT3 (List.mem_of_getElem? (i := 155) (by decide +kernel)) (by decide +kernel)
theorem ml_X9_139 : Cond.methodLink RX9 139 yX6_priceByLaw ∈ TT := tT3 (List.mem_of_getElem? (i := 160) (by decide +kernel)) (by decide +kernel)
theorem ml_X6_95 : Cond.methodLink RX6 95 yX2_firstWorth ∈ TT := tT3 (List.mem_of_getElem? (i := 164) (by decide +kernel)) (by decide +kernel)
theorem ml_L_52 : Cond.methodLink RL 52 yX9_oath ∈ TT := tT3 (List.mem_of_getElem? (i := 168) (by decide +kernel)) (by decide +kernel)
theorem ml_X9_146 : Cond.methodLink RX9 146 yX8_addOath ∈ TT := tT3 (List.mem_of_getElem? (i := 172) (by decide +kernel)) (by decide +kernel)
theorem ml_L_56 : Cond.methodLink RL 56 yX9_swear ∈ TT := tT3 (List.mem_of_getElem? (i := 176) (by decide +kernel)) (by decide +kernel)
theorem ml_X9_149 : Cond.methodLink RX9 149 yX8_isOath ∈ TT := tT3 (List.mem_of_getElem? (i := 180) (by decide +kernel)) (by decide +kernel)
theorem ml_X9_155 : Cond.methodLink RX9 155 yX9_has ∈ TT := tT3 (List.mem_of_getElem? (i := 184) (by decide +kernel)) (by decide +kernel)
theorem ml_X9_158 : Cond.methodLink RX9 158 yX6_reckonPrices ∈ TT := tT3 (List.mem_of_getElem? (i := 185) (by decide +kernel)) (by decide +kernel)
theorem ml_X6_69 : Cond.methodLink RX6 69 yX6_leads ∈ TT := tT3 (List.mem_of_getElem? (i := 189) (by decide +kernel)) (by decide +kernel)
theorem ml_X6_72 : Cond.methodLink RX6 72 yX6_priceByLaw ∈ TT := tT3 (List.mem_of_getElem? (i := 190) (by decide +kernel)) (by decide +kernel)
theorem ml_X9_161 : Cond.methodLink RX9 161 yX6_leastAsked ∈ TT := tT3 (List.mem_of_getElem? (i := 191) (by decide +kernel)) (by decide +kernel)
theorem ml_X6_101 : Cond.methodLink RX6 101 yX6_priceOf ∈ TT := tT3 (List.mem_of_getElem? (i := 195) (by decide +kernel)) (by decide +kernel)
theorem ml_X6_104 : Cond.methodLink RX6 104 Lib.Math.min.name ∈ TT := tT3 (List.mem_of_getElem? (i := 199) (by decide +kernel)) (by decide +kernel)
theorem ml_L_60 : Cond.methodLink RL 60 yX9_holds ∈ TT := tT3 (List.mem_of_getElem? (i := 200) (by decide +kernel)) (by decide +kernel)
theorem ml_X9_167 : Cond.methodLink RX9 167 yX6_comesToTop ∈ TT := tT3 (List.mem_of_getElem? (i := 204) (by decide +kernel)) (by decide +kernel)
theorem ml_X6_109 : Cond.methodLink RX6 109 yX6_reachFrom ∈ TT := tT3 (List.mem_of_getElem? (i := 208) (by decide +kernel)) (by decide +kernel)
theorem ml_L_64 : Cond.methodLink RL 64 yX9_year ∈ TT := tT3 (List.mem_of_getElem? (i := 212) (by decide +kernel)) (by decide +kernel)
theorem ml_X9_170 : Cond.methodLink RX9 170 yX8_passYear ∈ TT := tT3 (List.mem_of_getElem? (i := 216) (by decide +kernel)) (by decide +kernel)
theorem ml_X8_78 : Cond.methodLink RX8 78 yX4_tellTime ∈ TT := tT3 (List.mem_of_getElem? (i := 220) (by decide +kernel)) (by decide +kernel)
theorem ml_X8_82 : Cond.methodLink RX8 82 yX8_growOlder ∈ TT := tT3 (List.mem_of_getElem? (i := 221) (by decide +kernel)) (by decide +kernel)
theorem ml_X8_93 : Cond.methodLink RX8 93 Lib.Math.min.name ∈ TT := tT3 (List.mem_of_getElem? (i := 225) (by decide +kernel)) (by decide +kernel)
theorem ml_X8_85 : Cond.methodLink RX8 85 yX8_growTaller ∈ TT := tT3 (List.mem_of_getElem? (i := 226) (by decide +kernel)) (by decide +kernel)
theorem ml_X8_104 : Cond.methodLink RX8 104 yX4_tellSwearer ∈ TT := tT3 (List.mem_of_getElem? (i := 230) (by decide +kernel)) (by decide +kernel)
theorem ml_X8_111 : Cond.methodLink RX8 111 yX2_firstWorth ∈ TT := tT3 (List.mem_of_getElem? (i := 231) (by decide +kernel)) (by decide +kernel)
theorem ml_X8_89 : Cond.methodLink RX8 89 yX8_whoDies ∈ TT := tT3 (List.mem_of_getElem? (i := 232) (by decide +kernel)) (by decide +kernel)
theorem ml_X8_117 : Cond.methodLink RX8 117 yX2_anyHolds ∈ TT := tT3 (List.mem_of_getElem? (i := 236) (by decide +kernel)) (by decide +kernel)
theorem ml_X8_99 : Cond.methodLink RX8 99 yJ6_bitCount_0f7a4 ∈ TT := tT3 (List.mem_of_getElem? (i := 237) (by decide +kernel)) (by decide +kernel)
theorem kc_J6_265 : Cond.constant RJ6 265 (1431655765) ∈ TT := tT4 (List.mem_of_getElem? (i := 0) (by decide +kernel)) (by decide +kernel)
theorem kc_J6_266 : Cond.constant RJ6 266 (858993459) ∈ TT := tT4 (List.mem_of_getElem? (i := 1) (by decide +kernel)) (by decide +kernel)
theorem kc_J6_267 : Cond.constant RJ6 267 (252645135) ∈ TT := tT4 (List.mem_of_getElem? (i := 2) (by decide +kernel)) (by decide +kernel)
theorem ml_L_68 : Cond.methodLink RL 68 yX9_years ∈ TT := tT4 (List.mem_of_getElem? (i := 3) (by decide +kernel)) (by decide +kernel)
theorem ml_X9_174 : Cond.methodLink RX9 174 yX9_runYears ∈ TT := tT4 (List.mem_of_getElem? (i := 7) (by decide +kernel)) (by decide +kernel)
theorem ml_X9_260 : Cond.methodLink RX9 260 yX8_nextDraw ∈ TT := tT4 (List.mem_of_getElem? (i := 11) (by decide +kernel)) (by decide +kernel)
theorem kc_X8_77 : Cond.constant RX8 77 (65535) ∈ TT := tT4 (List.mem_of_getElem? (i := 15) (by decide +kernel)) (by decide +kernel)
theorem ml_L_72 : Cond.methodLink RL 72 yX9_tried ∈ TT := tT4 (List.mem_of_getElem? (i := 16) (by decide +kernel)) (by decide +kernel)
theorem ml_X9_178 : Cond.methodLink RX9 178 yX8_copyFrom ∈ TT := tT4 (List.mem_of_getElem? (i := 20) (by decide +kernel)) (by decide +kernel)
theorem ml_X8_47 : Cond.methodLink RX8 47 arraycopyName ∈ TT := tT4 (List.mem_of_getElem? (i := 24) (by decide +kernel)) (by decide +kernel)
theorem ml_X9_181 : Cond.methodLink RX9 181 yX9_heldBy ∈ TT := tT4 (List.mem_of_getElem? (i := 25) (by decide +kernel)) (by decide +kernel)
theorem ml_X9_223 : Cond.methodLink RX9 223 yX6_heldOaths ∈ TT := tT4 (List.mem_of_getElem? (i := 29) (by decide +kernel)) (by decide +kernel)
theorem ml_X6_118 : Cond.methodLink RX6 118 yX6_withHelpers ∈ TT := tT4 (List.mem_of_getElem? (i := 33) (by decide +kernel)) (by decide +kernel)
theorem ml_X6_124 : Cond.methodLink RX6 124 yX6_comesToTop ∈ TT := tT4 (List.mem_of_getElem? (i := 37) (by decide +kernel)) (by decide +kernel)
theorem ml_X9_185 : Cond.methodLink RX9 185 yJ6_bitCount_0f7a4 ∈ TT := tT4 (List.mem_of_getElem? (i := 38) (by decide +kernel)) (by decide +kernel)
theorem ml_L_76 : Cond.methodLink RL 76 yX9_chain ∈ TT := tT4 (List.mem_of_getElem? (i := 39) (by decide +kernel)) (by decide +kernel)
theorem ml_X9_190 : Cond.methodLink RX9 190 yX0_search ∈ TT := tT4 (List.mem_of_getElem? (i := 43) (by decide +kernel)) (by decide +kernel)
theorem ml_X0_40 : Cond.methodLink RX0 40 yX0_chooseNext ∈ TT := tT4 (List.mem_of_getElem? (i := 47) (by decide +kernel)) (by decide +kernel)
theorem ml_X0_44 : Cond.methodLink RX0 44 yX6_leads ∈ TT := tT4 (List.mem_of_getElem? (i := 51) (by decide +kernel)) (by decide +kernel)
theorem ml_X0_51 : Cond.methodLink RX0 51 yX6_priceOf ∈ TT := tT4 (List.mem_of_getElem? (i := 53) (by decide +kernel)) (by decide +kernel)
theorem ml_X9_193 : Cond.methodLink RX9 193 yX0_leastPrice ∈ TT := tT4 (List.mem_of_getElem? (i := 54) (by decide +kernel)) (by decide +kernel)
theorem ml_X9_196 : Cond.methodLink RX9 196 yX0_length ∈ TT := tT4 (List.mem_of_getElem? (i := 58) (by decide +kernel)) (by decide +kernel)
theorem ml_X9_199 : Cond.methodLink RX9 199 yX0_personAt ∈ TT := tT4 (List.mem_of_getElem? (i := 62) (by decide +kernel)) (by decide +kernel)
theorem ml_L_80 : Cond.methodLink RL 80 yX9_safe ∈ TT := tT4 (List.mem_of_getElem? (i := 66) (by decide +kernel)) (by decide +kernel)
theorem ml_X9_202 : Cond.methodLink RX9 202 yX5_search ∈ TT := tT4 (List.mem_of_getElem? (i := 70) (by decide +kernel)) (by decide +kernel)
theorem ml_X5_19 : Cond.methodLink RX5 19 yX5_whoCouldSwear ∈ TT := tT4 (List.mem_of_getElem? (i := 74) (by decide +kernel)) (by decide +kernel)
theorem ml_X5_23 : Cond.methodLink RX5 23 yJ6_bitCount_0f7a4 ∈ TT := tT4 (List.mem_of_getElem? (i := 79) (by decide +kernel)) (by decide +kernel)
theorem ml_X5_28 : Cond.methodLink RX5 28 yX5_priceOfAll ∈ TT := tT4 (List.mem_of_getElem? (i := 80) (by decide +kernel)) (by decide +kernel)
theorem ml_X5_62 : Cond.methodLink RX5 62 yX6_leastAsked ∈ TT := tT4 (List.mem_of_getElem? (i := 84) (by decide +kernel)) (by decide +kernel)
theorem ml_X5_32 : Cond.methodLink RX5 32 yX5_isBetter ∈ TT := tT4 (List.mem_of_getElem? (i := 85) (by decide +kernel)) (by decide +kernel)
theorem ml_X5_36 : Cond.methodLink RX5 36 yX6_outlasts ∈ TT := tT4 (List.mem_of_getElem? (i := 89) (by decide +kernel)) (by decide +kernel)
theorem ml_L_85 : Cond.methodLink RL 85 yX9_cut ∈ TT := tT4 (List.mem_of_getElem? (i := 96) (by decide +kernel)) (by decide +kernel)
theorem kc_X9_209 : Cond.constant RX9 209 (65535) ∈ TT := tT4 (List.mem_of_getElem? (i := 100) (by decide +kernel)) (by decide +kernel)
theorem ml_X9_210 : Cond.methodLink RX9 210 yX6_reachFrom ∈ TT := tT4 (List.mem_of_getElem? (i := 101) (by decide +kernel)) (by decide +kernel)
theorem ml_L_89 : Cond.methodLink RL 89 yX9_soonest ∈ TT := tT4 (List.mem_of_getElem? (i := 102) (by decide +kernel)) (by decide +kernel)
theorem ml_L_93 : Cond.methodLink RL 93 yX9_against ∈ TT := tT4 (List.mem_of_getElem? (i := 106) (by decide +kernel)) (by decide +kernel)
theorem ml_X9_213 : Cond.methodLink RX9 213 yX1_outcomeFor ∈ TT := tT4 (List.mem_of_getElem? (i := 110) (by decide +kernel)) (by decide +kernel)
theorem ml_X1_27 : Cond.methodLink RX1 27 yX1_play ∈ TT := tT4 (List.mem_of_getElem? (i := 114) (by decide +kernel)) (by decide +kernel)
theorem ml_X1_31 : Cond.methodLink RX1 31 yX1_standing ∈ TT := tT4 (List.mem_of_getElem? (i := 118) (by decide +kernel)) (by decide +kernel)
theorem ml_X1_48 : Cond.methodLink RX1 48 yX6_comesToTop ∈ TT := tT4 (List.mem_of_getElem? (i := 122) (by decide +kernel)) (by decide +kernel)
theorem ml_L_97 : Cond.methodLink RL 97 yX9_whom ∈ TT := tT4 (List.mem_of_getElem? (i := 124) (by decide +kernel)) (by decide +kernel)
theorem ml_X9_220 : Cond.methodLink RX9 220 yX9_nextSubset ∈ TT := tT4 (List.mem_of_getElem? (i := 128) (by decide +kernel)) (by decide +kernel)
theorem ml_L_101 : Cond.methodLink RL 101 yX9_sure ∈ TT := tT4 (List.mem_of_getElem? (i := 129) (by decide +kernel)) (by decide +kernel)
theorem ml_X9_226 : Cond.methodLink RX9 226 yX6_outlasts ∈ TT := tT4 (List.mem_of_getElem? (i := 133) (by decide +kernel)) (by decide +kernel)
theorem ml_L_105 : Cond.methodLink RL 105 yX9_found ∈ TT := tT4 (List.mem_of_getElem? (i := 134) (by decide +kernel)) (by decide +kernel)
theorem ml_L_109 : Cond.methodLink RL 109 yX9_least ∈ TT := tT4 (List.mem_of_getElem? (i := 138) (by decide +kernel)) (by decide +kernel)
theorem ml_X9_232 : Cond.methodLink RX9 232 yX9_explainsAll ∈ TT := tT4 (List.mem_of_getElem? (i := 142) (by decide +kernel)) (by decide +kernel)
theorem ml_L_113 : Cond.methodLink RL 113 yX9_sideBySide ∈ TT := tT4 (List.mem_of_getElem? (i := 146) (by decide +kernel)) (by decide +kernel)
theorem ml_L_117 : Cond.methodLink RL 117 yX9_seed ∈ TT := tT4 (List.mem_of_getElem? (i := 150) (by decide +kernel)) (by decide +kernel)
theorem ml_L_121 : Cond.methodLink RL 121 yX9_keep ∈ TT := tT4 (List.mem_of_getElem? (i := 154) (by decide +kernel)) (by decide +kernel)
theorem ml_L_125 : Cond.methodLink RL 125 yX9_undo ∈ TT := tT4 (List.mem_of_getElem? (i := 158) (by decide +kernel)) (by decide +kernel)
theorem ml_L_130 : Cond.methodLink RL 130 yX9_check ∈ TT := tT4 (List.mem_of_getElem? (i := 162) (by decide +kernel)) (by decide +kernel)
theorem ml_X9_242 : Cond.methodLink RX9 242 yX7_wordAt ∈ TT := tT4 (List.mem_of_getElem? (i := 166) (by decide +kernel)) (by decide +kernel)
theorem ml_L_134 : Cond.methodLink RL 134 yX9_count ∈ TT := tT4 (List.mem_of_getElem? (i := 170) (by decide +kernel)) (by decide +kernel)
theorem ml_X9_251 : Cond.methodLink RX9 251 yX9_countWhole ∈ TT := tT4 (List.mem_of_getElem? (i := 174) (by decide +kernel)) (by decide +kernel)
theorem ml_L_12 : Cond.methodLink RL 12 yX10_init ∈ TT := tT4 (List.mem_of_getElem? (i := 180) (by decide +kernel)) (by decide +kernel)
theorem fl_X10_138 : FLk RX10 138 10 0 := ⟨_, _, _, _, clX10, by decide, tT4 (List.mem_of_getElem? (i := 184) (by decide +kernel)) (by decide +kernel), rfl⟩
theorem fp_X10_138 : FPk RX10 138 10 0 .int := ⟨_, _, _, _, clX10, by decide, tT4 (List.mem_of_getElem? (i := 184) (by decide +kernel)) (by decide +kernel), rfl, rfl, rfl⟩
theorem fl_X10_145 : FLk RX10 145 10 1 := ⟨_, _, _, _, clX10, by decide, tT4 (List.mem_of_getElem? (i := 185) (by decide +kernel)) (by decide +kernel), rfl⟩
theorem fp_X10_145 : FPk RX10 145 10 1 .int := ⟨_, _, _, _, clX10, by decide, tT4 (List.mem_of_getElem? (i := 185) (by decide +kernel)) (by decide +kernel), rfl, rfl, rfl⟩
theorem fl_X10_270 : FLk RX10 270 10 2 := ⟨_, _, _, _, clX10, by decide, tT4 (List.mem_of_getElem? (i := 186) (by decide +kernel)) (by decide +kernel), rfl⟩
theorem fp_X10_270 : FPk RX10 270 10 2 .int := ⟨_, _, _, _, clX10, by decide, tT4 (List.mem_of_getElem? (i := 186) (by decide +kernel)) (by decide +kernel), rfl, rfl, rfl⟩
theorem fl_X10_134 : FLk RX10 134 10 3 := ⟨_, _, _, _, clX10, by decide, tT4 (List.mem_of_getElem? (i := 187) (by decide +kernel)) (by decide +kernel), rfl⟩
theorem fp_X10_134 : FPk RX10 134 10 3 .int := ⟨_, _, _, _, clX10, by decide, tT4 (List.mem_of_getElem? (i := 187) (by decide +kernel)) (by decide +kernel), rfl, rfl, rfl⟩
theorem fl_X10_7 : FLk RX10 7 10 4 := ⟨_, _, _, _, clX10, by decide, tT4 (List.mem_of_getElem? (i := 188) (by decide +kernel)) (by decide +kernel), rfl⟩
theorem fl_X10_13 : FLk RX10 13 10 5 := ⟨_, _, _, _, clX10, by decide, tT4 (List.mem_of_getElem? (i := 189) (by decide +kernel)) (by decide +kernel), rfl⟩
theorem fl_X10_16 : FLk RX10 16 10 6 := ⟨_, _, _, _, clX10, by decide, tT4 (List.mem_of_getElem? (i := 190) (by decide +kernel)) (by decide +kernel), rfl⟩
theorem fl_X10_19 : FLk RX10 19 10 7 := ⟨_, _, _, _, clX10, by decide, tT4 (List.mem_of_getElem? (i := 191) (by decide +kernel)) (by decide +kernel), rfl⟩
theorem fl_X10_22 : FLk RX10 22 10 8 := ⟨_, _, _, _, clX10, by decide, tT4 (List.mem_of_getElem? (i := 192) (by decide +kernel)) (by decide +kernel), rfl⟩
theorem fl_X10_25 : FLk RX10 25 10 9 := ⟨_, _, _, _, clX10, by decide, tT4 (List.mem_of_getElem? (i := 193) (by decide +kernel)) (by decide +kernel), rfl⟩
theorem fl_X10_167 : FLk RX10 167 10 10 := ⟨_, _, _, _, clX10, by decide, tT4 (List.mem_of_getElem? (i := 194) (by decide +kernel)) (by decide +kernel), rfl⟩
theorem fp_X10_167 : FPk RX10 167 10 10 .int := ⟨_, _, _, _, clX10, by decide, tT4 (List.mem_of_getElem? (i := 194) (by decide +kernel)) (by decide +kernel), rfl, rfl, rfl⟩
theorem fl_X10_174 : FLk RX10 174 10 11 := ⟨_, _, _, _, clX10, by decide, tT4 (List.mem_of_getElem? (i := 195) (by decide +kernel)) (by decide +kernel), rfl⟩
theorem fp_X10_174 : FPk RX10 174 10 11 .int := ⟨_, _, _, _, clX10, by decide, tT4 (List.mem_of_getElem? (i := 195) (by decide +kernel)) (by decide +kernel), rfl, rfl, rfl⟩
theorem fl_X10_177 : FLk RX10 177 10 12 := ⟨_, _, _, _, clX10, by decide, tT4 (List.mem_of_getElem? (i := 196) (by decide +kernel)) (by decide +kernel), rfl⟩
theorem fp_X10_177 : FPk RX10 177 10 12 .int := ⟨_, _, _, _, clX10, by decide, tT4 (List.mem_of_getElem? (i := 196) (by decide +kernel)) (by decide +kernel), rfl, rfl, rfl⟩
theorem fl_X10_183 : FLk RX10 183 10 13 := ⟨_, _, _, _, clX10, by decide, tT4 (List.mem_of_getElem? (i := 197) (by decide +kernel)) (by decide +kernel), rfl⟩
theorem fp_X10_183 : FPk RX10 183 10 13 .int := ⟨_, _, _, _, clX10, by decide, tT4 (List.mem_of_getElem? (i := 197) (by decide +kernel)) (by decide +kernel), rfl, rfl, rfl⟩
theorem fl_X10_200 : FLk RX10 200 10 14 := ⟨_, _, _, _, clX10, by decide, tT4 (List.mem_of_getElem? (i := 198) (by decide +kernel)) (by decide +kernel), rfl⟩
theorem fp_X10_200 : FPk RX10 200 10 14 .int := ⟨_, _, _, _, clX10, by decide, tT4 (List.mem_of_getElem? (i := 198) (by decide +kernel)) (by decide +kernel), rfl, rfl, rfl⟩
theorem fl_X10_196 : FLk RX10 196 10 15 := ⟨_, _, _, _, clX10, by decide, tT4 (List.mem_of_getElem? (i := 199) (by decide +kernel)) (by decide +kernel), rfl⟩
theorem fp_X10_196 : FPk RX10 196 10 15 .int := ⟨_, _, _, _, clX10, by decide, tT4 (List.mem_of_getElem? (i := 199) (by decide +kernel)) (by decide +kernel), rfl, rfl, rfl⟩
theorem fl_X10_203 : FLk RX10 203 10 16 := ⟨_, _, _, _, clX10, by decide, tT4 (List.mem_of_getElem? (i := 200) (by decide +kernel)) (by decide +kernel), rfl⟩
theorem fp_X10_203 : FPk RX10 203 10 16 .int := ⟨_, _, _, _, clX10, by decide, tT4 (List.mem_of_getElem? (i := 200) (by decide +kernel)) (by decide +kernel), rfl, rfl, rfl⟩
theorem fl_X10_250 : FLk RX10 250 10 17 := ⟨_, _, _, _, clX10, by decide, tT4 (List.mem_of_getElem? (i := 201) (by decide +kernel)) (by decide +kernel), rfl⟩
theorem fp_X10_250 : FPk RX10 250 10 17 .int := ⟨_, _, _, _, clX10, by decide, tT4 (List.mem_of_getElem? (i := 201) (by decide +kernel)) (by decide +kernel), rfl, rfl, rfl⟩
theorem fl_X10_189 : FLk RX10 189 10 18 := ⟨_, _, _, _, clX10, by decide, tT4 (List.mem_of_getElem? (i := 202) (by decide +kernel)) (by decide +kernel), rfl⟩
theorem fp_X10_189 : FPk RX10 189 10 18 .int := ⟨_, _, _, _, clX10, by decide, tT4 (List.mem_of_getElem? (i := 202) (by decide +kernel)) (by decide +kernel), rfl, rfl, rfl⟩
theorem fl_X10_29 : FLk RX10 29 10 19 := ⟨_, _, _, _, clX10, by decide, tT4 (List.mem_of_getElem? (i := 203) (by decide +kernel)) (by decide +kernel), rfl⟩
theorem fl_X10_32 : FLk RX10 32 10 20 := ⟨_, _, _, _, clX10, by decide, tT4 (List.mem_of_getElem? (i := 204) (by decide +kernel)) (by decide +kernel), rfl⟩
theorem fl_X10_35 : FLk RX10 35 10 21 := ⟨_, _, _, _, clX10, by decide, tT4 (List.mem_of_getElem? (i := 205) (by decide +kernel)) (by decide +kernel), rfl⟩
theorem fl_X10_38 : FLk RX10 38 10 22 := ⟨_, _, _, _, clX10, by decide, tT4 (List.mem_of_getElem? (i := 206) (by decide +kernel)) (by decide +kernel), rfl⟩
theorem fl_X10_41 : FLk RX10 41 10 23 := ⟨_, _, _, _, clX10, by decide, tT4 (List.mem_of_getElem? (i := 207) (by decide +kernel)) (by decide +kernel), rfl⟩
theorem fl_X10_44 : FLk RX10 44 10 24 := ⟨_, _, _, _, clX10, by decide, tT4 (List.mem_of_getElem? (i := 208) (by decide +kernel)) (by decide +kernel), rfl⟩
theorem fl_X10_47 : FLk RX10 47 10 25 := ⟨_, _, _, _, clX10, by decide, tT4 (List.mem_of_getElem? (i := 209) (by decide +kernel)) (by decide +kernel), rfl⟩
theorem fl_X10_50 : FLk RX10 50 10 26 := ⟨_, _, _, _, clX10, by decide, tT4 (List.mem_of_getElem? (i := 210) (by decide +kernel)) (by decide +kernel), rfl⟩
theorem fl_X10_53 : FLk RX10 53 10 27 := ⟨_, _, _, _, clX10, by decide, tT4 (List.mem_of_getElem? (i := 211) (by decide +kernel)) (by decide +kernel), rfl⟩
theorem fl_X10_56 : FLk RX10 56 10 28 := ⟨_, _, _, _, clX10, by decide, tT4 (List.mem_of_getElem? (i := 212) (by decide +kernel)) (by decide +kernel), rfl⟩
theorem fl_X10_59 : FLk RX10 59 10 29 := ⟨_, _, _, _, clX10, by decide, tT4 (List.mem_of_getElem? (i := 213) (by decide +kernel)) (by decide +kernel), rfl⟩
theorem fl_X10_62 : FLk RX10 62 10 30 := ⟨_, _, _, _, clX10, by decide, tT4 (List.mem_of_getElem? (i := 214) (by decide +kernel)) (by decide +kernel), rfl⟩
theorem fl_X10_65 : FLk RX10 65 10 31 := ⟨_, _, _, _, clX10, by decide, tT4 (List.mem_of_getElem? (i := 215) (by decide +kernel)) (by decide +kernel), rfl⟩
theorem fl_X10_68 : FLk RX10 68 10 32 := ⟨_, _, _, _, clX10, by decide, tT4 (List.mem_of_getElem? (i := 216) (by decide +kernel)) (by decide +kernel), rfl⟩
theorem fl_X10_71 : FLk RX10 71 10 33 := ⟨_, _, _, _, clX10, by decide, tT4 (List.mem_of_getElem? (i := 217) (by decide +kernel)) (by decide +kernel), rfl⟩
theorem fl_X10_286 : FLk RX10 286 10 34 := ⟨_, _, _, _, clX10, by decide, tT4 (List.mem_of_getElem? (i := 218) (by decide +kernel)) (by decide +kernel), rfl⟩
theorem fp_X10_286 : FPk RX10 286 10 34 .int := ⟨_, _, _, _, clX10, by decide, tT4 (List.mem_of_getElem? (i := 218) (by decide +kernel)) (by decide +kernel), rfl, rfl, rfl⟩
theorem fl_X10_74 : FLk RX10 74 10 35 := ⟨_, _, _, _, clX10, by decide, tT4 (List.mem_of_getElem? (i := 219) (by decide +kernel)) (by decide +kernel), rfl⟩
theorem fl_X10_77 : FLk RX10 77 10 36 := ⟨_, _, _, _, clX10, by decide, tT4 (List.mem_of_getElem? (i := 220) (by decide +kernel)) (by decide +kernel), rfl⟩
theorem fl_X10_80 : FLk RX10 80 10 37 := ⟨_, _, _, _, clX10, by decide, tT4 (List.mem_of_getElem? (i := 221) (by decide +kernel)) (by decide +kernel), rfl⟩
theorem fl_X10_83 : FLk RX10 83 10 38 := ⟨_, _, _, _, clX10, by decide, tT4 (List.mem_of_getElem? (i := 222) (by decide +kernel)) (by decide +kernel), rfl⟩
theorem fl_X10_329 : FLk RX10 329 10 39 := ⟨_, _, _, _, clX10, by decide, tT4 (List.mem_of_getElem? (i := 223) (by decide +kernel)) (by decide +kernel), rfl⟩
theorem fp_X10_329 : FPk RX10 329 10 39 .int := ⟨_, _, _, _, clX10, by decide, tT4 (List.mem_of_getElem? (i := 223) (by decide +kernel)) (by decide +kernel), rfl, rfl, rfl⟩
theorem fl_X10_332 : FLk RX10 332 10 40 := ⟨_, _, _, _, clX10, by decide, tT4 (List.mem_of_getElem? (i := 224) (by decide +kernel)) (by decide +kernel), rfl⟩
theorem fp_X10_332 : FPk RX10 332 10 40 .int := ⟨_, _, _, _, clX10, by decide, tT4 (List.mem_of_getElem? (i := 224) (by decide +kernel)) (by decide +kernel), rfl, rfl, rfl⟩
theorem fl_X10_335 : FLk RX10 335 10 41 := ⟨_, _, _, _, clX10, by decide, tT4 (List.mem_of_getElem? (i := 225) (by decide +kernel)) (by decide +kernel), rfl⟩
theorem fp_X10_335 : FPk RX10 335 10 41 .int := ⟨_, _, _, _, clX10, by decide, tT4 (List.mem_of_getElem? (i := 225) (by decide +kernel)) (by decide +kernel), rfl, rfl, rfl⟩
theorem fl_X10_86 : FLk RX10 86 10 42 := ⟨_, _, _, _, clX10, by decide, tT4 (List.mem_of_getElem? (i := 226) (by decide +kernel)) (by decide +kernel), rfl⟩
theorem fl_X10_89 : FLk RX10 89 10 43 := ⟨_, _, _, _, clX10, by decide, tT4 (List.mem_of_getElem? (i := 227) (by decide +kernel)) (by decide +kernel), rfl⟩
theorem fl_X10_92 : FLk RX10 92 10 44 := ⟨_, _, _, _, clX10, by decide, tT4 (List.mem_of_getElem? (i := 228) (by decide +kernel)) (by decide +kernel), rfl⟩
theorem fl_X10_95 : FLk RX10 95 10 45 := ⟨_, _, _, _, clX10, by decide, tT4 (List.mem_of_getElem? (i := 229) (by decide +kernel)) (by decide +kernel), rfl⟩
theorem fl_X10_98 : FLk RX10 98 10 46 := ⟨_, _, _, _, clX10, by decide, tT4 (List.mem_of_getElem? (i := 230) (by decide +kernel)) (by decide +kernel), rfl⟩
theorem fl_X10_101 : FLk RX10 101 10 47 := ⟨_, _, _, _, clX10, by decide, tT4 (List.mem_of_getElem? (i := 231) (by decide +kernel)) (by decide +kernel), rfl⟩
theorem fl_X10_104 : FLk RX10 104 10 48 := ⟨_, _, _, _, clX10, by decide, tT4 (List.mem_of_getElem? (i := 232) (by decide +kernel)) (by decide +kernel), rfl⟩
theorem fl_X10_366 : FLk RX10 366 10 49 := ⟨_, _, _, _, clX10, by decide, tT4 (List.mem_of_getElem? (i := 233) (by decide +kernel)) (by decide +kernel), rfl⟩
theorem fp_X10_366 : FPk RX10 366 10 49 .int := ⟨_, _, _, _, clX10, by decide, tT4 (List.mem_of_getElem? (i := 233) (by decide +kernel)) (by decide +kernel), rfl, rfl, rfl⟩
theorem fl_X10_388 : FLk RX10 388 10 50 := ⟨_, _, _, _, clX10, by decide, tT4 (List.mem_of_getElem? (i := 234) (by decide +kernel)) (by decide +kernel), rfl⟩
theorem fp_X10_388 : FPk RX10 388 10 50 .int := ⟨_, _, _, _, clX10, by decide, tT4 (List.mem_of_getElem? (i := 234) (by decide +kernel)) (by decide +kernel), rfl, rfl, rfl⟩
theorem fl_X10_107 : FLk RX10 107 10 51 := ⟨_, _, _, _, clX10, by decide, tT4 (List.mem_of_getElem? (i := 235) (by decide +kernel)) (by decide +kernel), rfl⟩
theorem fl_X10_395 : FLk RX10 395 10 52 := ⟨_, _, _, _, clX10, by decide, tT4 (List.mem_of_getElem? (i := 236) (by decide +kernel)) (by decide +kernel), rfl⟩
theorem fp_X10_395 : FPk RX10 395 10 52 .boolean := ⟨_, _, _, _, clX10, by decide, tT4 (List.mem_of_getElem? (i := 236) (by decide +kernel)) (by decide +kernel), rfl, rfl, rfl⟩
theorem fl_X10_399 : FLk RX10 399 10 53 := ⟨_, _, _, _, clX10, by decide, tT4 (List.mem_of_getElem? (i := 237) (by decide +kernel)) (by decide +kernel), rfl⟩
theorem fp_X10_399 : FPk RX10 399 10 53 .int := ⟨_, _, _, _, clX10, by decide, tT4 (List.mem_of_getElem? (i := 237) (by decide +kernel)) (by decide +kernel), rfl, rfl, rfl⟩
theorem fl_X10_402 : FLk RX10 402 10 54 := ⟨_, _, _, _, clX10, by decide, tT4 (List.mem_of_getElem? (i := 238) (by decide +kernel)) (by decide +kernel), rfl⟩
theorem fp_X10_402 : FPk RX10 402 10 54 .int := ⟨_, _, _, _, clX10, by decide, tT4 (List.mem_of_getElem? (i := 238) (by decide +kernel)) (by decide +kernel), rfl, rfl, rfl⟩
theorem fl_X10_405 : FLk RX10 405 10 55 := ⟨_, _, _, _, clX10, by decide, tT4 (List.mem_of_getElem? (i := 239) (by decide +kernel)) (by decide +kernel), rfl⟩
theorem fp_X10_405 : FPk RX10 405 10 55 .int := ⟨_, _, _, _, clX10, by decide, tT4 (List.mem_of_getElem? (i := 239) (by decide +kernel)) (by decide +kernel), rfl, rfl, rfl⟩
theorem fl_X10_408 : FLk RX10 408 10 56 := ⟨_, _, _, _, clX10, by decide, tT5 (List.mem_of_getElem? (i := 0) (by decide +kernel)) (by decide +kernel), rfl⟩
theorem fp_X10_408 : FPk RX10 408 10 56 .int := ⟨_, _, _, _, clX10, by decide, tT5 (List.mem_of_getElem? (i := 0) (by decide +kernel)) (by decide +kernel), rfl, rfl, rfl⟩
theorem fl_X10_411 : FLk RX10 411 10 57 := ⟨_, _, _, _, clX10, by decide, tT5 (List.mem_of_getElem? (i := 1) (by decide +kernel)) (by decide +kernel), rfl⟩
theorem fp_X10_411 : FPk RX10 411 10 57 .int := ⟨_, _, _, _, clX10, by decide, tT5 (List.mem_of_getElem? (i := 1) (by decide +kernel)) (by decide +kernel), rfl, rfl, rfl⟩
theorem fl_X10_110 : FLk RX10 110 10 58 := ⟨_, _, _, _, clX10, by decide, tT5 (List.mem_of_getElem? (i := 2) (by decide +kernel)) (by decide +kernel), rfl⟩
theorem fl_X10_113 : FLk RX10 113 10 59 := ⟨_, _, _, _, clX10, by decide, tT5 (List.mem_of_getElem? (i := 3) (by decide +kernel)) (by decide +kernel), rfl⟩
theorem fl_X10_116 : FLk RX10 116 10 60 := ⟨_, _, _, _, clX10, by decide, tT5 (List.mem_of_getElem? (i := 4) (by decide +kernel)) (by decide +kernel), rfl⟩
theorem fl_X10_119 : FLk RX10 119 10 61 := ⟨_, _, _, _, clX10, by decide, tT5 (List.mem_of_getElem? (i := 5) (by decide +kernel)) (by decide +kernel), rfl⟩
theorem fl_X10_122 : FLk RX10 122 10 62 := ⟨_, _, _, _, clX10, by decide, tT5 (List.mem_of_getElem? (i := 6) (by decide +kernel)) (by decide +kernel), rfl⟩
theorem fl_X10_125 : FLk RX10 125 10 63 := ⟨_, _, _, _, clX10, by decide, tT5 (List.mem_of_getElem? (i := 7) (by decide +kernel)) (by decide +kernel), rfl⟩
theorem fl_X10_128 : FLk RX10 128 10 64 := ⟨_, _, _, _, clX10, by decide, tT5 (List.mem_of_getElem? (i := 8) (by decide +kernel)) (by decide +kernel), rfl⟩
theorem fl_X10_131 : FLk RX10 131 10 65 := ⟨_, _, _, _, clX10, by decide, tT5 (List.mem_of_getElem? (i := 9) (by decide +kernel)) (by decide +kernel), rfl⟩
theorem ml_L_17 : Cond.methodLink RL 17 yX10_person ∈ TT := tT5 (List.mem_of_getElem? (i := 143) (by decide +kernel)) (by decide +kernel)
theorem ml_X10_152 : Cond.methodLink RX10 152 yX10_in ∈ TT := tT5 (List.mem_of_getElem? (i := 147) (by decide +kernel)) (by decide +kernel)
theorem ml_L_22 : Cond.methodLink RL 22 yX10_heels ∈ TT := tT5 (List.mem_of_getElem? (i := 150) (by decide +kernel)) (by decide +kernel)
theorem ml_X10_156 : Cond.methodLink RX10 156 yX10_lives ∈ TT := tT5 (List.mem_of_getElem? (i := 154) (by decide +kernel)) (by decide +kernel)
theorem ml_X10_141 : Cond.methodLink RX10 141 yX10_isPerson ∈ TT := tT5 (List.mem_of_getElem? (i := 158) (by decide +kernel)) (by decide +kernel)
theorem ml_X10_148 : Cond.methodLink RX10 148 yX10_has ∈ TT := tT5 (List.mem_of_getElem? (i := 162) (by decide +kernel)) (by decide +kernel)
theorem ml_L_27 : Cond.methodLink RL 27 yX10_dies ∈ TT := tT5 (List.mem_of_getElem? (i := 165) (by decide +kernel)) (by decide +kernel)
theorem ml_L_42 : Cond.methodLink RL 42 yX10_tall ∈ TT := tT5 (List.mem_of_getElem? (i := 169) (by decide +kernel)) (by decide +kernel)
theorem ml_X10_159 : Cond.methodLink RX10 159 yX10_tallOf ∈ TT := tT5 (List.mem_of_getElem? (i := 173) (by decide +kernel)) (by decide +kernel)
theorem ml_L_47 : Cond.methodLink RL 47 yX10_top ∈ TT := tT5 (List.mem_of_getElem? (i := 177) (by decide +kernel)) (by decide +kernel)
theorem ml_X10_163 : Cond.methodLink RX10 163 yX10_topOf ∈ TT := tT5 (List.mem_of_getElem? (i := 181) (by decide +kernel)) (by decide +kernel)
theorem ml_L_32 : Cond.methodLink RL 32 yX10_feed ∈ TT := tT5 (List.mem_of_getElem? (i := 185) (by decide +kernel)) (by decide +kernel)
theorem ml_X10_170 : Cond.methodLink RX10 170 yX10_types ∈ TT := tT5 (List.mem_of_getElem? (i := 189) (by decide +kernel)) (by decide +kernel)
theorem ml_L_37 : Cond.methodLink RL 37 yX10_law ∈ TT := tT5 (List.mem_of_getElem? (i := 193) (by decide +kernel)) (by decide +kernel)
theorem ml_X10_256 : Cond.methodLink RX10 256 yX10_readsClause ∈ TT := tT5 (List.mem_of_getElem? (i := 197) (by decide +kernel)) (by decide +kernel)
theorem ml_X10_180 : Cond.methodLink RX10 180 yX10_here ∈ TT := tT5 (List.mem_of_getElem? (i := 201) (by decide +kernel)) (by decide +kernel)
theorem ml_X10_186 : Cond.methodLink RX10 186 yX10_wrongAt ∈ TT := tT5 (List.mem_of_getElem? (i := 205) (by decide +kernel)) (by decide +kernel)
theorem ml_X10_235 : Cond.methodLink RX10 235 yX10_readsSum ∈ TT := tT5 (List.mem_of_getElem? (i := 209) (by decide +kernel)) (by decide +kernel)
theorem ml_X10_222 : Cond.methodLink RX10 222 yX10_readsFactor ∈ TT := tT5 (List.mem_of_getElem? (i := 213) (by decide +kernel)) (by decide +kernel)
theorem ml_X10_213 : Cond.methodLink RX10 213 yX10_opens ∈ TT := tT5 (List.mem_of_getElem? (i := 217) (by decide +kernel)) (by decide +kernel)
theorem kc_X10_199 : Cond.constant RX10 199 (1048576) ∈ TT := tT5 (List.mem_of_getElem? (i := 221) (by decide +kernel)) (by decide +kernel)
theorem ml_X10_192 : Cond.methodLink RX10 192 yX10_isDigit ∈ TT := tT5 (List.mem_of_getElem? (i := 222) (by decide +kernel)) (by decide +kernel)
theorem ml_X10_216 : Cond.methodLink RX10 216 yX10_readsNumber ∈ TT := tT5 (List.mem_of_getElem? (i := 226) (by decide +kernel)) (by decide +kernel)
theorem ml_X10_209 : Cond.methodLink RX10 209 yX10_notes ∈ TT := tT5 (List.mem_of_getElem? (i := 230) (by decide +kernel)) (by decide +kernel)
theorem ml_X10_219 : Cond.methodLink RX10 219 yX10_factOf ∈ TT := tT5 (List.mem_of_getElem? (i := 234) (by decide +kernel)) (by decide +kernel)
theorem ml_X10_225 : Cond.methodLink RX10 225 yX10_sumSign ∈ TT := tT5 (List.mem_of_getElem? (i := 237) (by decide +kernel)) (by decide +kernel)
theorem ml_X10_228 : Cond.methodLink RX10 228 yX10_closesSums ∈ TT := tT6 (List.mem_of_getElem? (i := 0) (by decide +kernel)) (by decide +kernel)
theorem ml_X10_206 : Cond.methodLink RX10 206 yX10_waitTop ∈ TT := tT6 (List.mem_of_getElem? (i := 4) (by decide +kernel)) (by decide +kernel)
theorem ml_X10_232 : Cond.methodLink RX10 232 yX10_hasOpenSum ∈ TT := tT6 (List.mem_of_getElem? (i := 8) (by decide +kernel)) (by decide +kernel)
theorem ml_X10_253 : Cond.methodLink RX10 253 yX10_readsCondition ∈ TT := tT6 (List.mem_of_getElem? (i := 12) (by decide +kernel)) (by decide +kernel)
theorem ml_X10_241 : Cond.methodLink RX10 241 yX10_readsCompared ∈ TT := tT6 (List.mem_of_getElem? (i := 16) (by decide +kernel)) (by decide +kernel)
theorem ml_X10_238 : Cond.methodLink RX10 238 yX10_endsPiece ∈ TT := tT6 (List.mem_of_getElem? (i := 20) (by decide +kernel)) (by decide +kernel)
theorem ml_X10_244 : Cond.methodLink RX10 244 yX10_lands ∈ TT := tT6 (List.mem_of_getElem? (i := 24) (by decide +kernel)) (by decide +kernel)
theorem ml_X10_247 : Cond.methodLink RX10 247 yX10_jumps ∈ TT := tT6 (List.mem_of_getElem? (i := 28) (by decide +kernel)) (by decide +kernel)
theorem ml_X10_259 : Cond.methodLink RX10 259 yX10_takes ∈ TT := tT6 (List.mem_of_getElem? (i := 32) (by decide +kernel)) (by decide +kernel)
theorem ml_L_51 : Cond.methodLink RL 51 yX10_step ∈ TT := tT6 (List.mem_of_getElem? (i := 36) (by decide +kernel)) (by decide +kernel)
theorem ml_X10_283 : Cond.methodLink RX10 283 yX10_stepBy ∈ TT := tT6 (List.mem_of_getElem? (i := 40) (by decide +kernel)) (by decide +kernel)
theorem kc_X10_273 : Cond.constant RX10 273 (1000000000) ∈ TT := tT6 (List.mem_of_getElem? (i := 44) (by decide +kernel)) (by decide +kernel)
theorem ml_X10_274 : Cond.methodLink RX10 274 yX10_feels ∈ TT := tT6 (List.mem_of_getElem? (i := 45) (by decide +kernel)) (by decide +kernel)
theorem ml_X10_277 : Cond.methodLink RX10 277 yX10_anyBy ∈ TT := tT6 (List.mem_of_getElem? (i := 49) (by decide +kernel)) (by decide +kernel)
theorem ml_X10_266 : Cond.methodLink RX10 266 yX10_comesTo ∈ TT := tT6 (List.mem_of_getElem? (i := 53) (by decide +kernel)) (by decide +kernel)
theorem ml_X10_262 : Cond.methodLink RX10 262 yX10_reckon ∈ TT := tT6 (List.mem_of_getElem? (i := 57) (by decide +kernel)) (by decide +kernel)
theorem ml_X10_280 : Cond.methodLink RX10 280 yX10_byLaw ∈ TT := tT6 (List.mem_of_getElem? (i := 60) (by decide +kernel)) (by decide +kernel)
theorem ml_L_55 : Cond.methodLink RL 55 yX10_oath ∈ TT := tT6 (List.mem_of_getElem? (i := 64) (by decide +kernel)) (by decide +kernel)
theorem ml_L_59 : Cond.methodLink RL 59 yX10_swear ∈ TT := tT6 (List.mem_of_getElem? (i := 68) (by decide +kernel)) (by decide +kernel)
theorem ml_X10_292 : Cond.methodLink RX10 292 yX10_isOath ∈ TT := tT6 (List.mem_of_getElem? (i := 72) (by decide +kernel)) (by decide +kernel)
theorem ml_X10_295 : Cond.methodLink RX10 295 yX10_laysSteps ∈ TT := tT6 (List.mem_of_getElem? (i := 76) (by decide +kernel)) (by decide +kernel)
theorem ml_X10_298 : Cond.methodLink RX10 298 yX10_leastBy ∈ TT := tT6 (List.mem_of_getElem? (i := 80) (by decide +kernel)) (by decide +kernel)
theorem ml_X10_289 : Cond.methodLink RX10 289 yX10_min ∈ TT := tT6 (List.mem_of_getElem? (i := 84) (by decide +kernel)) (by decide +kernel)
theorem ml_L_63 : Cond.methodLink RL 63 yX10_holds ∈ TT := tT6 (List.mem_of_getElem? (i := 87) (by decide +kernel)) (by decide +kernel)
theorem ml_X10_310 : Cond.methodLink RX10 310 yX10_holdsNow ∈ TT := tT6 (List.mem_of_getElem? (i := 91) (by decide +kernel)) (by decide +kernel)
theorem ml_X10_307 : Cond.methodLink RX10 307 yX10_holdsBy ∈ TT := tT6 (List.mem_of_getElem? (i := 95) (by decide +kernel)) (by decide +kernel)
theorem ml_X10_304 : Cond.methodLink RX10 304 yX10_reach ∈ TT := tT6 (List.mem_of_getElem? (i := 99) (by decide +kernel)) (by decide +kernel)
theorem ml_X10_301 : Cond.methodLink RX10 301 yX10_isStep ∈ TT := tT6 (List.mem_of_getElem? (i := 103) (by decide +kernel)) (by decide +kernel)
theorem ml_L_67 : Cond.methodLink RL 67 yX10_year ∈ TT := tT6 (List.mem_of_getElem? (i := 107) (by decide +kernel)) (by decide +kernel)
theorem ml_X10_320 : Cond.methodLink RX10 320 yX10_passes ∈ TT := tT6 (List.mem_of_getElem? (i := 111) (by decide +kernel)) (by decide +kernel)
theorem ml_X10_313 : Cond.methodLink RX10 313 yX10_bits ∈ TT := tT6 (List.mem_of_getElem? (i := 115) (by decide +kernel)) (by decide +kernel)
theorem ml_L_71 : Cond.methodLink RL 71 yX10_years ∈ TT := tT6 (List.mem_of_getElem? (i := 118) (by decide +kernel)) (by decide +kernel)
theorem ml_X10_323 : Cond.methodLink RX10 323 yX10_areYears ∈ TT := tT6 (List.mem_of_getElem? (i := 122) (by decide +kernel)) (by decide +kernel)
theorem ml_X10_326 : Cond.methodLink RX10 326 yX10_runs ∈ TT := tT6 (List.mem_of_getElem? (i := 125) (by decide +kernel)) (by decide +kernel)
theorem ml_X10_317 : Cond.methodLink RX10 317 yX10_draws ∈ TT := tT6 (List.mem_of_getElem? (i := 129) (by decide +kernel)) (by decide +kernel)
theorem kc_X10_316 : Cond.constant RX10 316 (65536) ∈ TT := tT6 (List.mem_of_getElem? (i := 133) (by decide +kernel)) (by decide +kernel)
theorem ml_L_75 : Cond.methodLink RL 75 yX10_tried ∈ TT := tT6 (List.mem_of_getElem? (i := 134) (by decide +kernel)) (by decide +kernel)
theorem ml_X10_342 : Cond.methodLink RX10 342 yX10_begins ∈ TT := tT6 (List.mem_of_getElem? (i := 138) (by decide +kernel)) (by decide +kernel)
theorem ml_X10_338 : Cond.methodLink RX10 338 yX10_copies ∈ TT := tT6 (List.mem_of_getElem? (i := 142) (by decide +kernel)) (by decide +kernel)
theorem ml_X10_345 : Cond.methodLink RX10 345 yX10_holding ∈ TT := tT6 (List.mem_of_getElem? (i := 145) (by decide +kernel)) (by decide +kernel)
theorem ml_X10_348 : Cond.methodLink RX10 348 yX10_again ∈ TT := tT6 (List.mem_of_getElem? (i := 149) (by decide +kernel)) (by decide +kernel)
theorem ml_L_79 : Cond.methodLink RL 79 yX10_chain ∈ TT := tT6 (List.mem_of_getElem? (i := 153) (by decide +kernel)) (by decide +kernel)
theorem ml_X10_357 : Cond.methodLink RX10 357 yX10_laysWays ∈ TT := tT6 (List.mem_of_getElem? (i := 157) (by decide +kernel)) (by decide +kernel)
theorem ml_X10_354 : Cond.methodLink RX10 354 yX10_wayBy ∈ TT := tT6 (List.mem_of_getElem? (i := 161) (by decide +kernel)) (by decide +kernel)
theorem ml_X10_351 : Cond.methodLink RX10 351 yX10_askedBy ∈ TT := tT6 (List.mem_of_getElem? (i := 165) (by decide +kernel)) (by decide +kernel)
theorem ml_L_84 : Cond.methodLink RL 84 yX10_safe ∈ TT := tT6 (List.mem_of_getElem? (i := 169) (by decide +kernel)) (by decide +kernel)
theorem ml_X10_360 : Cond.methodLink RX10 360 yX10_pricesOf ∈ TT := tT6 (List.mem_of_getElem? (i := 173) (by decide +kernel)) (by decide +kernel)
theorem ml_X10_363 : Cond.methodLink RX10 363 yX10_isSafe ∈ TT := tT6 (List.mem_of_getElem? (i := 177) (by decide +kernel)) (by decide +kernel)
theorem ml_L_88 : Cond.methodLink RL 88 yX10_cut ∈ TT := tT6 (List.mem_of_getElem? (i := 181) (by decide +kernel)) (by decide +kernel)
theorem ml_L_92 : Cond.methodLink RL 92 yX10_soonest ∈ TT := tT6 (List.mem_of_getElem? (i := 185) (by decide +kernel)) (by decide +kernel)
theorem ml_L_96 : Cond.methodLink RL 96 yX10_against ∈ TT := tT6 (List.mem_of_getElem? (i := 189) (by decide +kernel)) (by decide +kernel)
theorem ml_X10_378 : Cond.methodLink RX10 378 yX10_plays ∈ TT := tT6 (List.mem_of_getElem? (i := 193) (by decide +kernel)) (by decide +kernel)
theorem ml_X10_369 : Cond.methodLink RX10 369 yX10_tells ∈ TT := tT6 (List.mem_of_getElem? (i := 197) (by decide +kernel)) (by decide +kernel)
theorem ml_X10_372 : Cond.methodLink RX10 372 yX10_canChoose ∈ TT := tT6 (List.mem_of_getElem? (i := 201) (by decide +kernel)) (by decide +kernel)
theorem ml_X10_375 : Cond.methodLink RX10 375 yX10_endsAs ∈ TT := tT6 (List.mem_of_getElem? (i := 205) (by decide +kernel)) (by decide +kernel)
theorem ml_L_100 : Cond.methodLink RL 100 yX10_whom ∈ TT := tT6 (List.mem_of_getElem? (i := 209) (by decide +kernel)) (by decide +kernel)
theorem ml_X10_385 : Cond.methodLink RX10 385 yX10_heldBy ∈ TT := tT6 (List.mem_of_getElem? (i := 213) (by decide +kernel)) (by decide +kernel)
theorem ml_X10_382 : Cond.methodLink RX10 382 yX10_joined ∈ TT := tT6 (List.mem_of_getElem? (i := 217) (by decide +kernel)) (by decide +kernel)
theorem ml_L_104 : Cond.methodLink RL 104 yX10_sure ∈ TT := tT6 (List.mem_of_getElem? (i := 221) (by decide +kernel)) (by decide +kernel)
theorem ml_L_108 : Cond.methodLink RL 108 yX10_found ∈ TT := tT6 (List.mem_of_getElem? (i := 225) (by decide +kernel)) (by decide +kernel)
theorem ml_L_112 : Cond.methodLink RL 112 yX10_least ∈ TT := tT6 (List.mem_of_getElem? (i := 229) (by decide +kernel)) (by decide +kernel)
theorem ml_X10_391 : Cond.methodLink RX10 391 yX10_explains ∈ TT := tT6 (List.mem_of_getElem? (i := 233) (by decide +kernel)) (by decide +kernel)
theorem ml_L_116 : Cond.methodLink RL 116 yX10_sideBySide ∈ TT := tT6 (List.mem_of_getElem? (i := 237) (by decide +kernel)) (by decide +kernel)
theorem ml_L_120 : Cond.methodLink RL 120 yX10_seed ∈ TT := tT7 (List.mem_of_getElem? (i := 1) (by decide +kernel)) (by decide +kernel)
theorem kc_X10_394 : Cond.constant RX10 394 (65535) ∈ TT := tT7 (List.mem_of_getElem? (i := 5) (by decide +kernel)) (by decide +kernel)
theorem ml_L_124 : Cond.methodLink RL 124 yX10_keep ∈ TT := tT7 (List.mem_of_getElem? (i := 6) (by decide +kernel)) (by decide +kernel)
theorem ml_L_129 : Cond.methodLink RL 129 yX10_undo ∈ TT := tT7 (List.mem_of_getElem? (i := 10) (by decide +kernel)) (by decide +kernel)
theorem ml_L_133 : Cond.methodLink RL 133 yX10_check ∈ TT := tT7 (List.mem_of_getElem? (i := 14) (by decide +kernel)) (by decide +kernel)
theorem ml_X10_414 : Cond.methodLink RX10 414 yX10_tapeNumber ∈ TT := tT7 (List.mem_of_getElem? (i := 18) (by decide +kernel)) (by decide +kernel)
theorem ml_L_137 : Cond.methodLink RL 137 yX10_count ∈ TT := tT7 (List.mem_of_getElem? (i := 22) (by decide +kernel)) (by decide +kernel)
theorem mm_min_s : Cond.static Lib.Math.min.name ∈ TT := tT2 (List.mem_of_getElem? (i := 153) (by decide +kernel)) (by decide +kernel)
theorem mm_min_c : Cond.code Lib.Math.min.name Lib.Math.min.code 2 (some .int) ∈ TT := tT2 (List.mem_of_getElem? (i := 154) (by decide +kernel)) (by decide +kernel)
theorem mm_max_s : Cond.static Lib.Math.max.name ∈ TT := tT2 (List.mem_of_getElem? (i := 188) (by decide +kernel)) (by decide +kernel)
theorem mm_max_c : Cond.code Lib.Math.max.name Lib.Math.max.code 2 (some .int) ∈ TT := tT2 (List.mem_of_getElem? (i := 189) (by decide +kernel)) (by decide +kernel)
theorem mm_i : Cond.initialized "java/lang/Math" ∈ TT := tT1 (List.mem_of_getElem? (i := 13) (by decide +kernel)) (by decide +kernel)
theorem mc_n : Cond.native arraycopyName ∈ TT := tT3 (List.mem_of_getElem? (i := 88) (by decide +kernel)) (by decide +kernel)
theorem mc_s : Cond.static arraycopyName ∈ TT := tT3 (List.mem_of_getElem? (i := 87) (by decide +kernel)) (by decide +kernel)
theorem mc_i : Cond.initialized "java/lang/System" ∈ TT := tT1 (List.mem_of_getElem? (i := 18) (by decide +kernel)) (by decide +kernel)
/-- calls of private static methods of a nest mate -/
def nestW : List (String × Nat × MethodName × String) := [(RX8, 69, yX9_has, "TallerWitness"), (RX6, 76, yX9_has, "TallerWitness"), (RX0, 48, yX9_has, "TallerWitness"), (RX5, 55, yX9_has, "TallerWitness"), (RX5, 52, yX9_nextSubset, "TallerWitness"), (RX1, 35, yX9_has, "TallerWitness")]
/-- the texts: their places in the pool of LawReader, their bytes -/
def strT : List (Nat × String × List Int32) := [(50, "ngxp", [110, 103, 120, 112]), (59, "gp", [103, 112]), (118, "[", [91]), (120, "0123456789", [48, 49, 50, 51, 52, 53, 54, 55, 56, 57]), (127, "aiyhkqbjzltr", [97, 105, 121, 104, 107, 113, 98, 106, 122, 108, 116, 114]), (116, "*/%", [42, 47, 37]), (111, "+-", [43, 45]), (96, "!", [33]), (101, "(", [40]), (106, "<>=", [60, 62, 61]), (94, "&", [38]), (83, "|", [124])]
end
section
/-! THE ABSTRACT WALK: memory M (cell number, slot), locals and stack of ints and cell numbers; AW is the walk at a pc in any machine context, AM a method's contract -/
def cvv (ad : Nat → Nat) : Value → Value
  | .ref k => .ref (ad k)
  | v => v
def svl (ad : Nat → Nat) (M : Mem) (k j : Nat) : SD → Value
  | .inl r => .ref (ad r)
  | .inr false => .int (M k j)
  | .inr true => .ref (ad (M k j).toNatClampNeg)
def avl (M : Mem) (k j : Nat) : SD → Value
  | .inl r => .ref r
  | .inr false => .int (M k j)
  | .inr true => .ref (M k j).toNatClampNeg
theorem cvv_avl {ad : Nat → Nat} {M : Mem} {k j : Nat} (sd : SD) : cvv ad (avl M k j sd) = svl ad M k j sd := by rcases sd with r | (_ | _) <;> rfl
def sdL (ad : Nat → Nat) (M : Mem) (k : Nat) (sds : List SD) : List Value := sds.mapIdx (fun j sd => svl ad M k j sd)
theorem sdL_at {ad : Nat → Nat} {M : Mem} {k j : Nat} {sds : List SD} {sd : SD} (h : sds[j]? = some sd) : (sdL ad M k sds)[j]? = some (svl ad M k j sd) := by
  rw [sdL, List.getElem?_mapIdx, h]; rfl
theorem sdL_len {ad : Nat → Nat} {M : Mem} {k : Nat} {sds : List SD} : (sdL ad M k sds).length = sds.length := by rw [sdL, List.length_mapIdx]
theorem svl_off {ad : Nat → Nat} {M M' : Mem} {k j : Nat} (sd : SD) (h : M k j = M' k j) : svl ad M k j sd = svl ad M' k j sd := by
  rcases sd with r | (_ | _)
  · rfl
  · show Value.int _ = Value.int _; rw [h]
  · show Value.ref _ = Value.ref _; rw [h]
theorem sdL_set {ad : Nat → Nat} {M : Mem} {k j : Nat} {sds : List SD} {sd : SD} {x : Int32} (h : sds[j]? = some sd) : (sdL ad M k sds).set j (svl ad (va_up M k (upd (M k) j x)) k j sd) = sdL ad (va_up M k (upd (M k) j x)) k sds := by
  apply List.ext_getElem?
  intro i
  have hl : j < (sdL ad M k sds).length := by rw [sdL_len]; exact (List.getElem?_eq_some_iff.mp h).1
  by_cases hi : i = j
  · subst hi
    rw [List.getElem?_set_self hl, sdL_at h]
  · rw [List.getElem?_set_ne (Ne.symm hi), sdL, sdL, List.getElem?_mapIdx, List.getElem?_mapIdx]
    cases hq : sds[i]? with
    | none => rfl
    | some q =>
      refine congrArg some (svl_off q ?_)
      show M k i = (if k = k then upd (M k) j x else M k) i
      rw [if_pos rfl]
      show M k i = if i = j then x else M k i
      rw [if_neg hi]
abbrev G3 : Type := ClassId × ClassId × ClassId
def entC (g : G3) (ad : Nat → Nat) (M : Mem) (k : Nat) : CD → va_E
  | .inl q => .inr (q.1, sdL ad M k q.2)
  | .inr (.inl q) => .inl (if q.1 then g.2.1 else g.1, q.2, .inl (M k))
  | .inr (.inr rs) => .inl (g.2.2, rs.length, .inr (.inr (.inr (.inr (fun i => (rs[i]?).map ad)))))
def entD (g : G3) (ad : Nat → Nat) (M : Mem) (k : Nat) : va_E := entC g ad M k (cellD k)
def wsD (g : G3) (ad : Nat → Nat) (M : Mem) : va_W := (List.range K0).map (fun k => (ad k, entD g ad M k))
theorem wsD_at {g : G3} {ad : Nat → Nat} {M : Mem} {k : Nat} (hk : k < K0) : (wsD g ad M)[k]? = some (ad k, entD g ad M k) := by
  rw [wsD, List.getElem?_map, List.getElem?_range hk]; rfl
theorem wsD_some {g : G3} {ad : Nat → Nat} {M : Mem} {k : Nat} {q : Nat × va_E} (h : (wsD g ad M)[k]? = some q) : k < K0 ∧ q = (ad k, entD g ad M k) := by
  have hl := (List.getElem?_eq_some_iff.mp h).1
  rw [wsD, List.length_map, List.length_range] at hl
  rw [wsD_at hl] at h
  exact ⟨hl, (Option.some.inj h).symm⟩
theorem entC_off {g : G3} {ad : Nat → Nat} {M M' : Mem} {k : Nat} (h : M k = M' k) (c : CD) : entC g ad M k c = entC g ad M' k c := by
  rcases c with q | (q | rs)
  · show Sum.inr _ = Sum.inr _
    have : sdL ad M k q.2 = sdL ad M' k q.2 := by
      rw [sdL, sdL]
      congr 1
      funext j sd
      exact svl_off sd (by rw [h])
    rw [this]
  · show Sum.inl _ = Sum.inl _
    rw [h]
  · rfl
theorem wsD_set {g : G3} {ad : Nat → Nat} {M : Mem} {k : Nat} (row : Nat → Int32) {e : va_E} (he : e = entD g ad (va_up M k row) k) : (wsD g ad M).set k (ad k, e) = wsD g ad (va_up M k row) := by
  subst he
  apply List.ext_getElem?
  intro i
  by_cases hi : i = k
  · subst hi
    by_cases hK : i < K0
    · rw [List.getElem?_set_self (by rw [wsD, List.length_map, List.length_range]; exact hK), wsD_at hK]
    · rw [List.getElem?_eq_none (by rw [List.length_set, wsD, List.length_map, List.length_range]; omega), List.getElem?_eq_none (by rw [wsD, List.length_map, List.length_range]; omega)]
  · rw [List.getElem?_set_ne (Ne.symm hi)]
    by_cases hK : i < K0
    · rw [wsD_at hK, wsD_at hK, entD, entD, entC_off (M' := va_up M k row)]
      show M i = if i = k then row else M i
      rw [if_neg hi]
    · rw [List.getElem?_eq_none (by rw [wsD, List.length_map, List.length_range]; omega), List.getElem?_eq_none (by rw [wsD, List.length_map, List.length_range]; omega)]
/-- the cells that may change -/
def AD (ad : Nat → Nat) : Nat → Prop := fun q => ∃ k, k < K0 ∧ q = ad k
def InjD (ad : Nat → Nat) : Prop := ∀ i j, i < K0 → j < K0 → ad i = ad j → i = j
theorem wsD_D {g : G3} {ad : Nat → Nat} {M : Mem} (h : InjD ad) : va_D (AD ad) (wsD g ad M) := by
  refine ⟨fun i j p q hi hj hpq => ?_, fun k q hk => ?_⟩
  · obtain ⟨h1, rfl⟩ := wsD_some hi
    obtain ⟨h2, rfl⟩ := wsD_some hj
    exact h i j h1 h2 hpq
  · obtain ⟨h1, rfl⟩ := wsD_some hk
    exact ⟨k, h1, rfl⟩
def tyD (g : G3) : List (ClassId × FieldType) := [(g.1, .int), (g.2.1, .byte), (g.2.2, .object RX2)]
/-- what stays of a state: classes, array classes, the addresses apart, the nest's links, the texts -/
def STc (D : va_G) (g : G3) (ad adV : Nat → Nat) (U : State) : Prop :=
  va_K D vwCl (tyD g) U ∧ InjD ad ∧ (∀ q ∈ nestW, va_Nw (.methodLinkNest q.1 q.2.1 q.2.2.1 q.2.2.2) U) ∧ (∀ (i : Nat) (q : Nat × String × List Int32), strT[i]? = some q → vk_R RX3 q.1 q.2.1 (ad (1000 + i)) U) ∧ vk_S strT.length (strT.map fun q => q.2.2.length) (strT.map fun q => q.2.2) (fun i => ad (1000 + i)) adV (AD ad) U U.heap ∧ va_Z "java/lang/String" "COMPACT_STRINGS" "Z" (.int 1) (AD ad) U U.heap
theorem STc.go {D : va_G} {g : G3} {ad adV : Nat → Nat} {s U : State} {H : Heap} {locs : List Loc} (h : STc D g ad adV s) (hS : va_S (AD ad) s.heap H locs) (hU : U.heap = H) (hW : s.WarmedH U.vm) : STc D g ad adV U := by
  obtain ⟨h1, h2, h3, h4, h5, h6⟩ := h
  refine ⟨va_K.moved hW.alike h1, h2, fun q hq => va_Nw.warmM hW (h3 q hq), fun i q hq => vk_R.warm hW (h4 i q hq), ?_, ?_⟩
  · exact (vk_S.moved hW.alike h5).kept (fun a ha hA => by rw [hU]; exact hS.2.1 a ha hA)
  · exact (va_Z.moved hW.alike h6).kept (fun a ha hA => by rw [hU]; exact hS.2.1 a ha hA)
theorem STc.call {D : va_G} {g : G3} {ad adV : Nat → Nat} {U : State} (h : STc D g ad adV U) (f : JFrame) (mk : MethodId) (a : Array Value) : STc D g ad adV (U.calling f mk a) := by
  obtain ⟨h1, h2, h3, h4, h5, h6⟩ := h
  refine ⟨va_K.moved (u := U) (U := U.calling f mk a) (Vm.Alike.refl U.vm) h1, h2, fun q hq => va_Nw.same rfl rfl (h3 q hq), fun i q hq => vk_R.same rfl (h4 i q hq), ?_, ?_⟩
  · exact vk_S.moved (u := U) (U := U.calling f mk a) (Vm.Alike.refl U.vm) h5
  · exact va_Z.moved (u := U) (U := U.calling f mk a) (Vm.Alike.refl U.vm) h6
def rmD (d : Nat) : Room := { frames := d, cells := 0, slots := 0, locals := 64 * d }
/-- the locals -/
def lhas (ad : Nat → Nat) (ls : Array Slot) (nL : Nat) (L : List (Option Value)) : Prop := ls.size = nL ∧ lv_wf ls ∧ ∀ (i : Nat) (v : Value), L[i]? = some (some v) → v.category = 1 ∧ ls[i]? = some (.val (cvv ad v))
theorem cvv_cat {ad : Nat → Nat} (v : Value) : (cvv ad v).category = v.category := by cases v <;> rfl
def lof (ad : Nat → Nat) (L : List (Option Value)) : List (Nat × Value) := (List.range L.length).filterMap (fun i => match L[i]? with | some (some v) => some (i, cvv ad v) | _ => none)
theorem lof_mem {ad : Nat → Nat} {L : List (Option Value)} {q : Nat × Value} : q ∈ lof ad L ↔ ∃ v, L[q.1]? = some (some v) ∧ q.2 = cvv ad v := by
  constructor
  · intro h
    obtain ⟨i, hi, hq⟩ := List.mem_filterMap.mp h
    cases hL : L[i]? with
    | none => rw [hL] at hq; cases hq
    | some o =>
      cases o with
      | none => rw [hL] at hq; cases hq
      | some v => rw [hL] at hq; cases hq; exact ⟨v, hL, rfl⟩
  · rintro ⟨v, h1, h2⟩
    refine List.mem_filterMap.mpr ⟨q.1, List.mem_range.mpr (List.getElem?_eq_some_iff.mp h1).1, ?_⟩
    rw [h1]
    show some (q.1, cvv ad v) = some q
    rw [← h2]
theorem lhas.lv {ad : Nat → Nat} {ls : Array Slot} {nL : Nat} {L : List (Option Value)} (h : lhas ad ls nL L) : lv_has ls nL (lof ad L) :=
  ⟨h.1, h.2.1, fun q hq => by obtain ⟨v, h1, h2⟩ := lof_mem.mp hq; rw [h2]; exact (h.2.2 _ v h1).2⟩
theorem lhas.at {ad : Nat → Nat} {ls : Array Slot} {nL : Nat} {L : List (Option Value)} (h : lhas ad ls nL L) {i : Nat} {v : Value} (hv : L[i]? = some (some v)) : ls[i]? = some (.val (cvv ad v)) := (h.2.2 i v hv).2
theorem lhas.put {ad : Nat → Nat} {ls ls' : Array Slot} {nL i : Nat} {L : List (Option Value)} {v : Value} (h : lhas ad ls nL L) (hc : v.category = 1) (h' : lv_has ls' nL ((i, cvv ad v) :: (lof ad L).filter (fun q => !(q.1 == i) && !(q.1 + 1 == i && q.2.category == 2)))) : lhas ad ls' nL (L.set i (some v)) := by
  refine ⟨h'.1, h'.2.1, fun j w hj => ?_⟩
  by_cases hi : j = i
  · subst hi
    have hl : j < L.length := by have := (List.getElem?_eq_some_iff.mp hj).1; rwa [List.length_set] at this
    rw [List.getElem?_set_self hl] at hj
    cases hj
    exact ⟨hc, h'.2.2 _ List.mem_cons_self⟩
  · rw [List.getElem?_set_ne (Ne.symm hi)] at hj
    have hw := (h.2.2 j w hj).1
    refine ⟨hw, h'.2.2 (j, cvv ad w) (List.mem_cons_of_mem _ (List.mem_filter.mpr ⟨lof_mem.mpr ⟨w, hj, rfl⟩, ?_⟩))⟩
    have e : (cvv ad w).category = 1 := by rw [cvv_cat, hw]
    simp [hi, e]
/-- fewer locals -/
theorem lhas.less {ad : Nat → Nat} {ls : Array Slot} {nL : Nat} {L L' : List (Option Value)} (h : lhas ad ls nL L) (hs : ∀ (i : Nat) (v : Value), L'[i]? = some (some v) → L[i]? = some (some v)) : lhas ad ls nL L' := ⟨h.1, h.2.1, fun i v hv => h.2.2 i v (hs i v hv)⟩
/-- what a walk stands on -/
def Cx (X : Option (Nat × (Nat → Int32))) (own : String) (cc : ByteArray) (nL : Nat) (rt : Option FieldType) (d : Nat) (p : Program) (R : Room) (s : State) (m : MethodId) (args : Array Value) (meth : Method) (c : Code) (D : va_G) (g : G3) (ad adV : Nat → Nat) (cells slots : Nat) : Prop :=
  p.tables.exec = Jvm.exec ∧ c.code = cc ∧ c.maxLocals = nL ∧ s.vm.findClass own = some m.cls ∧ (∀ w ∈ TT, w.before args s = true) ∧ meth.sig.returnType = rt ∧ STc D g ad adV s ∧ (d ≤ R.frames ∧ 64 * d ≤ R.locals ∧ cells ≤ R.cells ∧ slots ≤ R.slots) ∧ ∀ (N : Nat) (xs : Nat → Int32), X = some (N, xs) → va_X (ad 3000) N xs s s.heap ∧ ad 3000 < s.heap.size ∧ ¬ AD ad (ad 3000)
/-- an end: the value fits the method's kind of answer -/
def RD (cc : ByteArray) (rt : Option FieldType) (pc : Nat) : Option Int32 → Prop
  | none => decode cc pc = .ok (.return_, 1) ∧ rt = none
  | some v => decode cc pc = .ok (.ireturn, 1) ∧ ∃ ty, rt = some ty ∧ narrow ty (.int v) = .int v
def rst (r : Option Int32) : List Value := (r.map Value.int).toList
def AW (X : Option (Nat × (Nat → Int32))) (own : String) (cc : ByteArray) (nL : Nat) (rt : Option FieldType) (d : Nat) (Q : Option Int32 → Mem → Prop) (pc : Nat) (L : List (Option Value)) (st : List Value) (M : Mem) : Prop :=
  ∀ (p : Program) (l : Launch) (e : Env) (R : Room) (s : State) (m : MethodId) (args : Array Value) (below : List Frame) (meth : Method) (c : Code) (D : va_G) (g : G3) (ad adV : Nat → Nat) (cells slots : Nat) (Qs : State → Prop) (H : Heap) (locs : List Loc) (ls : Array Slot),
    Cx X own cc nL rt d p R s m args meth c D g ad adV cells slots →
    (∀ (r : Option Int32) (M' : Mem) (H' : Heap) (locs' : List Loc) (pc' : Nat) (ls' : Array Slot), Q r M' → RD cc rt pc' r → va_P D vwCl (wsD g ad M') H' → va_S (AD ad) s.heap H' locs' → W p l e R s m args below meth c H' locs' cells slots Qs (F0 m pc' ls' (rst r))) →
    va_P D vwCl (wsD g ad M) H → va_S (AD ad) s.heap H locs → lhas ad ls nL L → W p l e R s m args below meth c H locs cells slots Qs (F0 m pc ls (st.map (cvv ad)))
def QM (D : va_G) (g : G3) (ad : Nat → Nat) (Q : Option Int32 → Mem → Prop) : Array Value → State → Outcome → State → Prop := fun _ st oc t => (∃ (r : Option Int32) (M' : Mem), oc = .returned (r.map Value.int) ∧ Q r M' ∧ va_P D vwCl (wsD g ad M') t.heap) ∧ va_F (AD ad) st t
/-- a method's contract: from memory M with these arguments it returns, and Q says what and with which memory -/
def AM (d : Nat) (mi : MI) (av : List Value) (M : Mem) (Q : Option Int32 → Mem → Prop) : Prop :=
  ∀ (l : Launch) (D : va_G) (g : G3) (ad adV : Nat → Nat), Met l mi.1 (.code mi.1 mi.2.1 mi.2.2.1 mi.2.2.2 :: TT) (rmD d) (va_Pc (av.map (cvv ad)) (fun U => STc D g ad adV U ∧ va_P D vwCl (wsD g ad M) U.heap)) (QM D g ad Q) 0 0 (AD ad)
theorem lg_sl1 (vs : List Value) (h : ∀ v ∈ vs, v.category = 1) : lg_sl vs = vs.map Slot.val := by
  induction vs with
  | nil => rfl
  | cons v vs ih =>
    have e : lg_sl (v :: vs) = [Slot.val v] ++ lg_sl vs := by
      simp [lg_sl, h v List.mem_cons_self]
    rw [e, ih (fun w hw => h w (List.mem_cons_of_mem _ hw))]; rfl
theorem AM.of {d : Nat} {mi : MI} {av : List Value} {M : Mem} {Q : Option Int32 → Mem → Prop} (hy : plainName mi.1.cls = true) (hcat : ∀ v ∈ av, v.category = 1) (hlen : av.length ≤ mi.2.2.1) (h : AW none mi.1.cls mi.2.1 mi.2.2.1 mi.2.2.2 d Q 0 (av.map some ++ List.replicate (mi.2.2.1 - av.length) none) [] M) : AM d mi av M Q := by
  intro l D g ad adV
  refine Met.ofW (cc := mi.2.1) (maxL := mi.2.2.1) (ret := mi.2.2.2) hy rfl ?_
  intro p e s m args below meth c s₁ B hml hv
  obtain ⟨rfl, hST, hP⟩ := hv
  have hts0 := atoms_spec (ws := Cond.code mi.1 mi.2.1 mi.2.2.1 mi.2.2.2 :: TT) B.pre
  have hts : ∀ w ∈ TT, w.before (av.map (cvv ad)).toArray s = true := fun w hw => hts0 w (List.mem_cons_of_mem _ hw)
  have hown : s.vm.findClass mi.1.cls = some m.cls := findClass_of_methodNamed B.named
  have hlocks := B.notSynchronized
  have hr := B.returns
  have hc1 : ∀ v ∈ av.map (cvv ad), v.category = 1 := fun v hv => by
    obtain ⟨w, h1, rfl⟩ := List.mem_map.mp hv
    rw [cvv_cat]; exact hcat w h1
  have hsl := lg_sl1 _ hc1
  have hl := lv_entry (av.map (cvv ad)) (n := mi.2.2.1) (by rw [hsl, List.length_map, List.length_map]; exact hlen)
  rw [lg_entry_eq]
  have hh : lhas ad ((lg_sl (av.map (cvv ad)) ++ List.replicate (mi.2.2.1 - (lg_sl (av.map (cvv ad))).length) Slot.unset).toArray) mi.2.2.1 (av.map some ++ List.replicate (mi.2.2.1 - av.length) none) := by
    refine ⟨hl.1, hl.2.1, fun i v hv => ?_⟩
    by_cases hi : i < av.length
    · rw [List.getElem?_append_left (by rw [List.length_map]; exact hi), List.getElem?_map] at hv
      rw [List.getElem?_toArray, hsl, List.getElem?_append_left (by rw [List.length_map, List.length_map]; exact hi), List.getElem?_map, List.getElem?_map]
      cases ha : av[i]? with
      | none => rw [ha] at hv; cases hv
      | some w =>
        rw [ha] at hv
        cases hv
        exact ⟨hcat _ (List.mem_of_getElem? ha), rfl⟩
    · rw [List.getElem?_append_right (by rw [List.length_map]; omega)] at hv
      rw [List.getElem?_replicate] at hv
      split at hv <;> cases hv
  generalize ((lg_sl (av.map (cvv ad)) ++ List.replicate (mi.2.2.1 - (lg_sl (av.map (cvv ad))).length) Slot.unset).toArray) = ls at hh ⊢
  refine h p l e _ s m _ below meth c D g ad adV 0 0 _ s.heap [] ls ⟨B.exec, B.bytes, hml, hown, hts, hr, hST, ⟨Nat.le_refl _, Nat.le_refl _, Nat.le_refl _, Nat.le_refl _⟩, fun N xs h => by cases h⟩ ?_ hP va_S.rf hh
  intro r M' H' locs' pc' ls' hQ hRD hP' hS'
  cases r with
  | none =>
    obtain ⟨hd, hrt⟩ := hRD
    exact W.vret B.exec B.bytes (hr.trans hrt) (fun t ht hW => ⟨⟨none, M', rfl, hQ, by rw [ht]; exact hP'⟩, hS'.F ht⟩) hS'.2.2 hd
  | some v =>
    obtain ⟨hd, ty, hrt, hn⟩ := hRD
    exact W.zret B.exec B.bytes (hr.trans hrt) hn (fun t ht hW => ⟨⟨some v, M', rfl, hQ, by rw [ht]; exact hP'⟩, hS'.F ht⟩) hS'.2.2 hd
theorem AM.mono {d : Nat} {mi : MI} {av : List Value} {M : Mem} {Q Q' : Option Int32 → Mem → Prop} (h : AM d mi av M Q) (hq : ∀ r M', Q r M' → Q' r M') : AM d mi av M Q' := by
  intro l D g ad adV p e ha hc hk s m args below hf
  intro h1 h2 h3
  obtain ⟨t, o, a1, a2, a3, ⟨⟨⟨r, M', b1, b2, b3⟩, b4⟩, b5⟩⟩ := h l D g ad adV p e ha hc hk s m args below hf h1 h2 h3
  exact ⟨t, o, a1, a2, a3, ⟨⟨⟨r, M', b1, hq r M' b2, b3⟩, b4⟩, b5⟩⟩
end
section
section AMR
variable {X : Option (Nat × (Nat → Int32))} {own : String} {cc : ByteArray} {nL : Nat} {rt : Option FieldType} {d : Nat} {Q : Option Int32 → Mem → Prop} {pc : Nat} {L : List (Option Value)} {st : List Value} {M : Mem}
theorem aw_iconst {n : Int} {v : Int32} (hd : decode cc pc = .ok (.iconst n, 1)) (hv : Int32.ofInt n = v) (k : AW X own cc nL rt d Q (pc + 1) L (.int v :: st) M) : AW X own cc nL rt d Q pc L st M := by
  intro p l e R s m args below meth c D g ad adV cells slots Qs H locs ls C hret hP hS hl
  exact lv_iconst C.1 C.2.1 hd hv (k p l e R s m args below meth c D g ad adV cells slots Qs H locs ls C hret hP hS hl)
theorem aw_bipush {n : Int} {v : Int32} (hd : decode cc pc = .ok (.bipush n, 2)) (hv : (Int8.ofInt n).toInt32 = v) (k : AW X own cc nL rt d Q (pc + 2) L (.int v :: st) M) : AW X own cc nL rt d Q pc L st M := by
  intro p l e R s m args below meth c D g ad adV cells slots Qs H locs ls C hret hP hS hl
  exact lv_bipush C.1 C.2.1 hd hv (k p l e R s m args below meth c D g ad adV cells slots Qs H locs ls C hret hP hS hl)
theorem aw_sipush {n : Int} {v : Int32} (hd : decode cc pc = .ok (.sipush n, 3)) (hv : (Int16.ofInt n).toInt32 = v) (k : AW X own cc nL rt d Q (pc + 3) L (.int v :: st) M) : AW X own cc nL rt d Q pc L st M := by
  intro p l e R s m args below meth c D g ad adV cells slots Qs H locs ls C hret hP hS hl
  exact lv_sipush C.1 C.2.1 hd hv (k p l e R s m args below meth c D g ad adV cells slots Qs H locs ls C hret hP hS hl)
theorem aw_ldc {n : Nat} {v : Int32} (hd : decode cc pc = .ok (.ldc n, 2)) (hw : Cond.constant own n v ∈ TT) (k : AW X own cc nL rt d Q (pc + 2) L (.int v :: st) M) : AW X own cc nL rt d Q pc L st M := by
  intro p l e R s m args below meth c D g ad adV cells slots Qs H locs ls C hret hP hS hl
  exact lv_ldc C.1 C.2.1 C.2.2.2.1 (C.2.2.2.2.1 _ hw) hd (k p l e R s m args below meth c D g ad adV cells slots Qs H locs ls C hret hP hS hl)
theorem aw_ldcw {n : Nat} {v : Int32} (hd : decode cc pc = .ok (.ldc_w n, 3)) (hw : Cond.constant own n v ∈ TT) (k : AW X own cc nL rt d Q (pc + 3) L (.int v :: st) M) : AW X own cc nL rt d Q pc L st M := by
  intro p l e R s m args below meth c D g ad adV cells slots Qs H locs ls C hret hP hS hl
  exact lv_ldcw C.1 C.2.1 C.2.2.2.1 (C.2.2.2.2.1 _ hw) hd (k p l e R s m args below meth c D g ad adV cells slots Qs H locs ls C hret hP hS hl)
theorem aw_iload_n {k0 : Fin 4} {i : Nat} {x : Int32} (hd : decode cc pc = .ok (.iload_n k0, 1)) (hi : (k0 : Nat) = i) (hv : L[i]? = some (some (.int x))) (k : AW X own cc nL rt d Q (pc + 1) L (.int x :: st) M) : AW X own cc nL rt d Q pc L st M := by
  intro p l e R s m args below meth c D g ad adV cells slots Qs H locs ls C hret hP hS hl
  exact lv_iload_n C.1 C.2.1 hd hi (hl.at hv) (k p l e R s m args below meth c D g ad adV cells slots Qs H locs ls C hret hP hS hl)
theorem aw_iload {i : Nat} {x : Int32} (hd : decode cc pc = .ok (.iload i, 2)) (hv : L[i]? = some (some (.int x))) (k : AW X own cc nL rt d Q (pc + 2) L (.int x :: st) M) : AW X own cc nL rt d Q pc L st M := by
  intro p l e R s m args below meth c D g ad adV cells slots Qs H locs ls C hret hP hS hl
  exact lv_iload C.1 C.2.1 hd (hl.at hv) (k p l e R s m args below meth c D g ad adV cells slots Qs H locs ls C hret hP hS hl)
theorem aw_aload_n {k0 : Fin 4} {i x : Nat} (hd : decode cc pc = .ok (.aload_n k0, 1)) (hi : (k0 : Nat) = i) (hv : L[i]? = some (some (.ref x))) (k : AW X own cc nL rt d Q (pc + 1) L (.ref x :: st) M) : AW X own cc nL rt d Q pc L st M := by
  intro p l e R s m args below meth c D g ad adV cells slots Qs H locs ls C hret hP hS hl
  exact lv_aload_n C.1 C.2.1 hd hi (hl.at hv) (k p l e R s m args below meth c D g ad adV cells slots Qs H locs ls C hret hP hS hl)
theorem aw_aload {i x : Nat} (hd : decode cc pc = .ok (.aload i, 2)) (hv : L[i]? = some (some (.ref x))) (k : AW X own cc nL rt d Q (pc + 2) L (.ref x :: st) M) : AW X own cc nL rt d Q pc L st M := by
  intro p l e R s m args below meth c D g ad adV cells slots Qs H locs ls C hret hP hS hl
  exact lv_aload C.1 C.2.1 hd (hl.at hv) (k p l e R s m args below meth c D g ad adV cells slots Qs H locs ls C hret hP hS hl)
theorem aw_iadd {x y : Int32} (hd : decode cc pc = .ok (.iadd, 1)) (k : AW X own cc nL rt d Q (pc + 1) L (.int (x + y) :: st) M) : AW X own cc nL rt d Q pc L (.int y :: .int x :: st) M := by
  intro p l e R s m args below meth c D g ad adV cells slots Qs H locs ls C hret hP hS hl
  exact lv_iadd C.1 C.2.1 hd (k p l e R s m args below meth c D g ad adV cells slots Qs H locs ls C hret hP hS hl)
theorem aw_isub {x y : Int32} (hd : decode cc pc = .ok (.isub, 1)) (k : AW X own cc nL rt d Q (pc + 1) L (.int (x - y) :: st) M) : AW X own cc nL rt d Q pc L (.int y :: .int x :: st) M := by
  intro p l e R s m args below meth c D g ad adV cells slots Qs H locs ls C hret hP hS hl
  exact lv_isub C.1 C.2.1 hd (k p l e R s m args below meth c D g ad adV cells slots Qs H locs ls C hret hP hS hl)
theorem aw_imul {x y : Int32} (hd : decode cc pc = .ok (.imul, 1)) (k : AW X own cc nL rt d Q (pc + 1) L (.int (x * y) :: st) M) : AW X own cc nL rt d Q pc L (.int y :: .int x :: st) M := by
  intro p l e R s m args below meth c D g ad adV cells slots Qs H locs ls C hret hP hS hl
  exact lv_imul C.1 C.2.1 hd (k p l e R s m args below meth c D g ad adV cells slots Qs H locs ls C hret hP hS hl)
theorem aw_iand {x y : Int32} (hd : decode cc pc = .ok (.iand, 1)) (k : AW X own cc nL rt d Q (pc + 1) L (.int (x &&& y) :: st) M) : AW X own cc nL rt d Q pc L (.int y :: .int x :: st) M := by
  intro p l e R s m args below meth c D g ad adV cells slots Qs H locs ls C hret hP hS hl
  exact lv_iand C.1 C.2.1 hd (k p l e R s m args below meth c D g ad adV cells slots Qs H locs ls C hret hP hS hl)
theorem aw_ior {x y : Int32} (hd : decode cc pc = .ok (.ior, 1)) (k : AW X own cc nL rt d Q (pc + 1) L (.int (x ||| y) :: st) M) : AW X own cc nL rt d Q pc L (.int y :: .int x :: st) M := by
  intro p l e R s m args below meth c D g ad adV cells slots Qs H locs ls C hret hP hS hl
  exact lv_ior C.1 C.2.1 hd (k p l e R s m args below meth c D g ad adV cells slots Qs H locs ls C hret hP hS hl)
theorem aw_ixor {x y : Int32} (hd : decode cc pc = .ok (.ixor, 1)) (k : AW X own cc nL rt d Q (pc + 1) L (.int (x ^^^ y) :: st) M) : AW X own cc nL rt d Q pc L (.int y :: .int x :: st) M := by
  intro p l e R s m args below meth c D g ad adV cells slots Qs H locs ls C hret hP hS hl
  exact lv_ixor C.1 C.2.1 hd (k p l e R s m args below meth c D g ad adV cells slots Qs H locs ls C hret hP hS hl)
theorem aw_ishl {x y : Int32} (hd : decode cc pc = .ok (.ishl, 1)) (k : AW X own cc nL rt d Q (pc + 1) L (.int (x <<< (y &&& 31)) :: st) M) : AW X own cc nL rt d Q pc L (.int y :: .int x :: st) M := by
  intro p l e R s m args below meth c D g ad adV cells slots Qs H locs ls C hret hP hS hl
  exact lv_ishl C.1 C.2.1 hd (k p l e R s m args below meth c D g ad adV cells slots Qs H locs ls C hret hP hS hl)
theorem aw_ishr {x y : Int32} (hd : decode cc pc = .ok (.ishr, 1)) (k : AW X own cc nL rt d Q (pc + 1) L (.int (x >>> (y &&& 31)) :: st) M) : AW X own cc nL rt d Q pc L (.int y :: .int x :: st) M := by
  intro p l e R s m args below meth c D g ad adV cells slots Qs H locs ls C hret hP hS hl
  exact lv_ishr C.1 C.2.1 hd (k p l e R s m args below meth c D g ad adV cells slots Qs H locs ls C hret hP hS hl)
theorem aw_idiv {x y : Int32} (hd : decode cc pc = .ok (.idiv, 1)) (hne : ¬ y = 0) (k : AW X own cc nL rt d Q (pc + 1) L (.int (x / y) :: st) M) : AW X own cc nL rt d Q pc L (.int y :: .int x :: st) M := by
  intro p l e R s m args below meth c D g ad adV cells slots Qs H locs ls C hret hP hS hl
  exact lv_idiv C.1 C.2.1 hd hne (k p l e R s m args below meth c D g ad adV cells slots Qs H locs ls C hret hP hS hl)
theorem aw_irem {x y : Int32} (hd : decode cc pc = .ok (.irem, 1)) (hne : ¬ y = 0) (k : AW X own cc nL rt d Q (pc + 1) L (.int (x - x / y * y) :: st) M) : AW X own cc nL rt d Q pc L (.int y :: .int x :: st) M := by
  intro p l e R s m args below meth c D g ad adV cells slots Qs H locs ls C hret hP hS hl
  exact lv_irem C.1 C.2.1 hd hne (k p l e R s m args below meth c D g ad adV cells slots Qs H locs ls C hret hP hS hl)
theorem aw_ineg {x : Int32} (hd : decode cc pc = .ok (.ineg, 1)) (k : AW X own cc nL rt d Q (pc + 1) L (.int (-x) :: st) M) : AW X own cc nL rt d Q pc L (.int x :: st) M := by
  intro p l e R s m args below meth c D g ad adV cells slots Qs H locs ls C hret hP hS hl
  exact lv_ineg C.1 C.2.1 hd (k p l e R s m args below meth c D g ad adV cells slots Qs H locs ls C hret hP hS hl)
theorem aw_i2b {x : Int32} (hd : decode cc pc = .ok (.i2b, 1)) (k : AW X own cc nL rt d Q (pc + 1) L (.int x.toInt8.toInt32 :: st) M) : AW X own cc nL rt d Q pc L (.int x :: st) M := by
  intro p l e R s m args below meth c D g ad adV cells slots Qs H locs ls C hret hP hS hl
  exact lv_i2b C.1 C.2.1 hd rfl (k p l e R s m args below meth c D g ad adV cells slots Qs H locs ls C hret hP hS hl)
theorem aw_i2c {x : Int32} (hd : decode cc pc = .ok (.i2c, 1)) (k : AW X own cc nL rt d Q (pc + 1) L (.int (x.toUInt32 % 65536).toInt32 :: st) M) : AW X own cc nL rt d Q pc L (.int x :: st) M := by
  intro p l e R s m args below meth c D g ad adV cells slots Qs H locs ls C hret hP hS hl
  exact lv_i2c C.1 C.2.1 hd rfl (k p l e R s m args below meth c D g ad adV cells slots Qs H locs ls C hret hP hS hl)
theorem aw_iushr {x y : Int32} (hd : decode cc pc = .ok (.iushr, 1)) (k : AW X own cc nL rt d Q (pc + 1) L (.int (x.toUInt32 >>> (y.toUInt32 &&& Int32.toUInt32 31)).toInt32 :: st) M) : AW X own cc nL rt d Q pc L (.int y :: .int x :: st) M := by
  intro p l e R s m args below meth c D g ad adV cells slots Qs H locs ls C hret hP hS hl
  exact lv_iushr C.1 C.2.1 hd rfl (k p l e R s m args below meth c D g ad adV cells slots Qs H locs ls C hret hP hS hl)
theorem aw_dup {v : Value} (hd : decode cc pc = .ok (.dup, 1)) (hv : v.category = 1) (k : AW X own cc nL rt d Q (pc + 1) L (v :: v :: st) M) : AW X own cc nL rt d Q pc L (v :: st) M := by
  intro p l e R s m args below meth c D g ad adV cells slots Qs H locs ls C hret hP hS hl
  exact lv_dup C.1 C.2.1 hd (by rw [cvv_cat]; exact hv) (k p l e R s m args below meth c D g ad adV cells slots Qs H locs ls C hret hP hS hl)
theorem aw_pop {v : Value} (hd : decode cc pc = .ok (.pop, 1)) (hv : v.category = 1) (k : AW X own cc nL rt d Q (pc + 1) L st M) : AW X own cc nL rt d Q pc L (v :: st) M := by
  intro p l e R s m args below meth c D g ad adV cells slots Qs H locs ls C hret hP hS hl
  exact lv_pop C.1 C.2.1 hd (by rw [cvv_cat]; exact hv) (k p l e R s m args below meth c D g ad adV cells slots Qs H locs ls C hret hP hS hl)
theorem aw_dup2 {v w : Value} (hd : decode cc pc = .ok (.dup2, 1)) (hv : v.category = 1) (hw : w.category = 1) (k : AW X own cc nL rt d Q (pc + 1) L (v :: w :: v :: w :: st) M) : AW X own cc nL rt d Q pc L (v :: w :: st) M := by
  intro p l e R s m args below meth c D g ad adV cells slots Qs H locs ls C hret hP hS hl
  exact lv_dup2_11 C.1 C.2.1 hd (by rw [cvv_cat]; exact hv) (by rw [cvv_cat]; exact hw) (k p l e R s m args below meth c D g ad adV cells slots Qs H locs ls C hret hP hS hl)
theorem aw_istore_n {k0 : Fin 4} {i : Nat} {x : Int32} (hd : decode cc pc = .ok (.istore_n k0, 1)) (hi : (k0 : Nat) = i) (hn : i < nL) {L2 : List (Option Value)} (hL : L.set i (some (.int x)) = L2) (k : AW X own cc nL rt d Q (pc + 1) L2 st M) : AW X own cc nL rt d Q pc L ((.int x) :: st) M := by
  subst hL
  intro p l e R s m args below meth c D g ad adV cells slots Qs H locs ls C hret hP hS hl
  exact lv_istore_n C.1 C.2.1 hd hi hl.lv hn rfl (fun ls2 h2 => (k p l e R s m args below meth c D g ad adV cells slots Qs H locs ls2 C hret hP hS (hl.put (v := (.int x)) rfl h2)))
theorem aw_istore {i : Nat} {x : Int32} (hd : decode cc pc = .ok (.istore i, 2)) (hn : i < nL) {L2 : List (Option Value)} (hL : L.set i (some (.int x)) = L2) (k : AW X own cc nL rt d Q (pc + 2) L2 st M) : AW X own cc nL rt d Q pc L ((.int x) :: st) M := by
  subst hL
  intro p l e R s m args below meth c D g ad adV cells slots Qs H locs ls C hret hP hS hl
  exact lv_istore C.1 C.2.1 hd  hl.lv hn rfl (fun ls2 h2 => (k p l e R s m args below meth c D g ad adV cells slots Qs H locs ls2 C hret hP hS (hl.put (v := (.int x)) rfl h2)))
theorem aw_astore_n {k0 : Fin 4} {i x : Nat} (hd : decode cc pc = .ok (.astore_n k0, 1)) (hi : (k0 : Nat) = i) (hn : i < nL) {L2 : List (Option Value)} (hL : L.set i (some (.ref x)) = L2) (k : AW X own cc nL rt d Q (pc + 1) L2 st M) : AW X own cc nL rt d Q pc L ((.ref x) :: st) M := by
  subst hL
  intro p l e R s m args below meth c D g ad adV cells slots Qs H locs ls C hret hP hS hl
  exact lv_astore_n C.1 C.2.1 hd hi hl.lv hn rfl (fun ls2 h2 => (k p l e R s m args below meth c D g ad adV cells slots Qs H locs ls2 C hret hP hS (hl.put (v := (.ref x)) rfl h2)))
theorem aw_iinc {i : Nat} {n : Int} {x : Int32} (hd : decode cc pc = .ok (.iinc i n, 3)) (hv : L[i]? = some (some (.int x))) {y : Int32} (hy : Int32.ofInt n = y) (hn : i < nL) {L2 : List (Option Value)} (hL : L.set i (some (.int (x + y))) = L2) (k : AW X own cc nL rt d Q (pc + 3) L2 st M) : AW X own cc nL rt d Q pc L st M := by
  subst hL; subst hy
  intro p l e R s m args below meth c D g ad adV cells slots Qs H locs ls C hret hP hS hl
  have hm : (i, Value.int x) ∈ lof ad L := lof_mem.mpr ⟨.int x, hv, rfl⟩
  obtain ⟨k0, hk0⟩ := List.getElem?_of_mem hm
  exact lv_iinc C.1 C.2.1 hd hl.lv hk0 rfl hn rfl (fun ls2 h2 => (k p l e R s m args below meth c D g ad adV cells slots Qs H locs ls2 C hret hP hS (hl.put (v := .int (x + Int32.ofInt n)) rfl h2)))
theorem aw_if_eq {x : Int32} {off : Int} {tgt : Nat} (hd : decode cc pc = .ok (.ifCond .eq off, 3)) (ht : (pc : Int) + off = (tgt : Int)) (kt : x = 0 → AW X own cc nL rt d Q tgt L st M) (kf : ¬ x = 0 → AW X own cc nL rt d Q (pc + 3) L st M) : AW X own cc nL rt d Q pc L (.int x :: st) M := by
  intro p l e R s m args below meth c D g ad adV cells slots Qs H locs ls C hret hP hS hl
  exact lv_if_eq C.1 C.2.1 hd ht (fun z => (kt z p l e R s m args below meth c D g ad adV cells slots Qs H locs ls C hret hP hS hl)) (fun z => (kf z p l e R s m args below meth c D g ad adV cells slots Qs H locs ls C hret hP hS hl))
theorem aw_if_ne {x : Int32} {off : Int} {tgt : Nat} (hd : decode cc pc = .ok (.ifCond .ne off, 3)) (ht : (pc : Int) + off = (tgt : Int)) (kt : ¬ x = 0 → AW X own cc nL rt d Q tgt L st M) (kf : x = 0 → AW X own cc nL rt d Q (pc + 3) L st M) : AW X own cc nL rt d Q pc L (.int x :: st) M := by
  intro p l e R s m args below meth c D g ad adV cells slots Qs H locs ls C hret hP hS hl
  exact lv_if_ne C.1 C.2.1 hd ht (fun z => (kt z p l e R s m args below meth c D g ad adV cells slots Qs H locs ls C hret hP hS hl)) (fun z => (kf z p l e R s m args below meth c D g ad adV cells slots Qs H locs ls C hret hP hS hl))
theorem aw_if_lt {x : Int32} {off : Int} {tgt : Nat} (hd : decode cc pc = .ok (.ifCond .lt off, 3)) (ht : (pc : Int) + off = (tgt : Int)) (kt : x < 0 → AW X own cc nL rt d Q tgt L st M) (kf : ¬ x < 0 → AW X own cc nL rt d Q (pc + 3) L st M) : AW X own cc nL rt d Q pc L (.int x :: st) M := by
  intro p l e R s m args below meth c D g ad adV cells slots Qs H locs ls C hret hP hS hl
  exact lv_if_lt C.1 C.2.1 hd ht (fun z => (kt z p l e R s m args below meth c D g ad adV cells slots Qs H locs ls C hret hP hS hl)) (fun z => (kf z p l e R s m args below meth c D g ad adV cells slots Qs H locs ls C hret hP hS hl))
theorem aw_if_ge {x : Int32} {off : Int} {tgt : Nat} (hd : decode cc pc = .ok (.ifCond .ge off, 3)) (ht : (pc : Int) + off = (tgt : Int)) (kt : 0 ≤ x → AW X own cc nL rt d Q tgt L st M) (kf : ¬ 0 ≤ x → AW X own cc nL rt d Q (pc + 3) L st M) : AW X own cc nL rt d Q pc L (.int x :: st) M := by
  intro p l e R s m args below meth c D g ad adV cells slots Qs H locs ls C hret hP hS hl
  exact lv_if_ge C.1 C.2.1 hd ht (fun z => (kt z p l e R s m args below meth c D g ad adV cells slots Qs H locs ls C hret hP hS hl)) (fun z => (kf z p l e R s m args below meth c D g ad adV cells slots Qs H locs ls C hret hP hS hl))
theorem aw_if_gt {x : Int32} {off : Int} {tgt : Nat} (hd : decode cc pc = .ok (.ifCond .gt off, 3)) (ht : (pc : Int) + off = (tgt : Int)) (kt : 0 < x → AW X own cc nL rt d Q tgt L st M) (kf : ¬ 0 < x → AW X own cc nL rt d Q (pc + 3) L st M) : AW X own cc nL rt d Q pc L (.int x :: st) M := by
  intro p l e R s m args below meth c D g ad adV cells slots Qs H locs ls C hret hP hS hl
  exact lv_if_gt C.1 C.2.1 hd ht (fun z => (kt z p l e R s m args below meth c D g ad adV cells slots Qs H locs ls C hret hP hS hl)) (fun z => (kf z p l e R s m args below meth c D g ad adV cells slots Qs H locs ls C hret hP hS hl))
theorem aw_if_le {x : Int32} {off : Int} {tgt : Nat} (hd : decode cc pc = .ok (.ifCond .le off, 3)) (ht : (pc : Int) + off = (tgt : Int)) (kt : x ≤ 0 → AW X own cc nL rt d Q tgt L st M) (kf : ¬ x ≤ 0 → AW X own cc nL rt d Q (pc + 3) L st M) : AW X own cc nL rt d Q pc L (.int x :: st) M := by
  intro p l e R s m args below meth c D g ad adV cells slots Qs H locs ls C hret hP hS hl
  exact lv_if_le C.1 C.2.1 hd ht (fun z => (kt z p l e R s m args below meth c D g ad adV cells slots Qs H locs ls C hret hP hS hl)) (fun z => (kf z p l e R s m args below meth c D g ad adV cells slots Qs H locs ls C hret hP hS hl))
theorem aw_icmp_eq {x y : Int32} {off : Int} {tgt : Nat} (hd : decode cc pc = .ok (.if_icmp .eq off, 3)) (ht : (pc : Int) + off = (tgt : Int)) (kt : x = y → AW X own cc nL rt d Q tgt L st M) (kf : ¬ x = y → AW X own cc nL rt d Q (pc + 3) L st M) : AW X own cc nL rt d Q pc L (.int y :: .int x :: st) M := by
  intro p l e R s m args below meth c D g ad adV cells slots Qs H locs ls C hret hP hS hl
  exact lv_icmp_eq C.1 C.2.1 hd ht (fun z => (kt z p l e R s m args below meth c D g ad adV cells slots Qs H locs ls C hret hP hS hl)) (fun z => (kf z p l e R s m args below meth c D g ad adV cells slots Qs H locs ls C hret hP hS hl))
theorem aw_icmp_ne {x y : Int32} {off : Int} {tgt : Nat} (hd : decode cc pc = .ok (.if_icmp .ne off, 3)) (ht : (pc : Int) + off = (tgt : Int)) (kt : ¬ x = y → AW X own cc nL rt d Q tgt L st M) (kf : x = y → AW X own cc nL rt d Q (pc + 3) L st M) : AW X own cc nL rt d Q pc L (.int y :: .int x :: st) M := by
  intro p l e R s m args below meth c D g ad adV cells slots Qs H locs ls C hret hP hS hl
  exact lv_icmp_ne C.1 C.2.1 hd ht (fun z => (kt z p l e R s m args below meth c D g ad adV cells slots Qs H locs ls C hret hP hS hl)) (fun z => (kf z p l e R s m args below meth c D g ad adV cells slots Qs H locs ls C hret hP hS hl))
theorem aw_icmp_lt {x y : Int32} {off : Int} {tgt : Nat} (hd : decode cc pc = .ok (.if_icmp .lt off, 3)) (ht : (pc : Int) + off = (tgt : Int)) (kt : x < y → AW X own cc nL rt d Q tgt L st M) (kf : ¬ x < y → AW X own cc nL rt d Q (pc + 3) L st M) : AW X own cc nL rt d Q pc L (.int y :: .int x :: st) M := by
  intro p l e R s m args below meth c D g ad adV cells slots Qs H locs ls C hret hP hS hl
  exact lv_icmp_lt C.1 C.2.1 hd ht (fun z => (kt z p l e R s m args below meth c D g ad adV cells slots Qs H locs ls C hret hP hS hl)) (fun z => (kf z p l e R s m args below meth c D g ad adV cells slots Qs H locs ls C hret hP hS hl))
theorem aw_icmp_ge {x y : Int32} {off : Int} {tgt : Nat} (hd : decode cc pc = .ok (.if_icmp .ge off, 3)) (ht : (pc : Int) + off = (tgt : Int)) (kt : y ≤ x → AW X own cc nL rt d Q tgt L st M) (kf : ¬ y ≤ x → AW X own cc nL rt d Q (pc + 3) L st M) : AW X own cc nL rt d Q pc L (.int y :: .int x :: st) M := by
  intro p l e R s m args below meth c D g ad adV cells slots Qs H locs ls C hret hP hS hl
  exact lv_icmp_ge C.1 C.2.1 hd ht (fun z => (kt z p l e R s m args below meth c D g ad adV cells slots Qs H locs ls C hret hP hS hl)) (fun z => (kf z p l e R s m args below meth c D g ad adV cells slots Qs H locs ls C hret hP hS hl))
theorem aw_icmp_gt {x y : Int32} {off : Int} {tgt : Nat} (hd : decode cc pc = .ok (.if_icmp .gt off, 3)) (ht : (pc : Int) + off = (tgt : Int)) (kt : y < x → AW X own cc nL rt d Q tgt L st M) (kf : ¬ y < x → AW X own cc nL rt d Q (pc + 3) L st M) : AW X own cc nL rt d Q pc L (.int y :: .int x :: st) M := by
  intro p l e R s m args below meth c D g ad adV cells slots Qs H locs ls C hret hP hS hl
  exact lv_icmp_gt C.1 C.2.1 hd ht (fun z => (kt z p l e R s m args below meth c D g ad adV cells slots Qs H locs ls C hret hP hS hl)) (fun z => (kf z p l e R s m args below meth c D g ad adV cells slots Qs H locs ls C hret hP hS hl))
theorem aw_icmp_le {x y : Int32} {off : Int} {tgt : Nat} (hd : decode cc pc = .ok (.if_icmp .le off, 3)) (ht : (pc : Int) + off = (tgt : Int)) (kt : x ≤ y → AW X own cc nL rt d Q tgt L st M) (kf : ¬ x ≤ y → AW X own cc nL rt d Q (pc + 3) L st M) : AW X own cc nL rt d Q pc L (.int y :: .int x :: st) M := by
  intro p l e R s m args below meth c D g ad adV cells slots Qs H locs ls C hret hP hS hl
  exact lv_icmp_le C.1 C.2.1 hd ht (fun z => (kt z p l e R s m args below meth c D g ad adV cells slots Qs H locs ls C hret hP hS hl)) (fun z => (kf z p l e R s m args below meth c D g ad adV cells slots Qs H locs ls C hret hP hS hl))
theorem aw_goto {off : Int} {tgt : Nat} (hd : decode cc pc = .ok (.goto off, 3)) (ht : (pc : Int) + off = (tgt : Int)) (k : AW X own cc nL rt d Q tgt L st M) : AW X own cc nL rt d Q pc L st M := by
  intro p l e R s m args below meth c D g ad adV cells slots Qs H locs ls C hret hP hS hl
  exact lv_goto C.1 C.2.1 hd ht (k p l e R s m args below meth c D g ad adV cells slots Qs H locs ls C hret hP hS hl)
theorem aw_tableIn {dflt lo hi : Int} {offs : Array Int} {len : Nat} {x : Int32} {off : Int} {tgt : Nat} (hd : decode cc pc = .ok (.tableswitch dflt lo hi offs, len)) (h1 : ¬ x.toInt < lo) (h2 : ¬ hi < x.toInt) (ho : offs[(x.toInt - lo).toNat]? = some off) (ht : (pc : Int) + off = (tgt : Int)) (k : AW X own cc nL rt d Q tgt L st M) : AW X own cc nL rt d Q pc L (.int x :: st) M := by
  intro p l e R s m args below meth c D g ad adV cells slots Qs H locs ls C hret hP hS hl
  exact lv_tableIn C.1 C.2.1 hd h1 h2 ho ht (k p l e R s m args below meth c D g ad adV cells slots Qs H locs ls C hret hP hS hl)
theorem aw_tableOut {dflt lo hi : Int} {offs : Array Int} {len : Nat} {x : Int32} {tgt : Nat} (hd : decode cc pc = .ok (.tableswitch dflt lo hi offs, len)) (h : x.toInt < lo ∨ hi < x.toInt) (ht : (pc : Int) + dflt = (tgt : Int)) (k : AW X own cc nL rt d Q tgt L st M) : AW X own cc nL rt d Q pc L (.int x :: st) M := by
  intro p l e R s m args below meth c D g ad adV cells slots Qs H locs ls C hret hP hS hl
  exact lv_tableOut C.1 C.2.1 hd h ht (k p l e R s m args below meth c D g ad adV cells slots Qs H locs ls C hret hP hS hl)
theorem aw_lookup {dflt : Int} {ps : Array (Int × Int)} {len : Nat} {x : Int32} {off : Int} {tgt : Nat} (hd : decode cc pc = .ok (.lookupswitch dflt ps, len)) (hp : (ps.toList.zip (ps.toList.drop 1)).all (fun (a, next) => a.1 < next.1) = true) (ho : Op.lookupswitch.offset ps.toList dflt x.toInt = off) (ht : (pc : Int) + off = (tgt : Int)) (k : AW X own cc nL rt d Q tgt L st M) : AW X own cc nL rt d Q pc L (.int x :: st) M := by
  intro p l e R s m args below meth c D g ad adV cells slots Qs H locs ls C hret hP hS hl
  exact lv_lookup C.1 C.2.1 hd hp ho ht (k p l e R s m args below meth c D g ad adV cells slots Qs H locs ls C hret hP hS hl)
theorem aw_less {L2 : List (Option Value)} (hs : ∀ (i : Nat) (v : Value), L2[i]? = some (some v) → L[i]? = some (some v)) (k : AW X own cc nL rt d Q pc L2 st M) : AW X own cc nL rt d Q pc L st M := by
  intro p l e R s m args below meth c D g ad adV cells slots Qs H locs ls C hret hP hS hl
  exact (k p l e R s m args below meth c D g ad adV cells slots Qs H locs ls C hret hP hS (hl.less hs))
theorem less_nil : ∀ (i : Nat) (v : Value), ([] : List (Option Value))[i]? = some (some v) → ([] : List (Option Value))[i]? = some (some v) := fun _ _ h => h
theorem less_k {L L2 : List (Option Value)} {a : Option Value} (h : ∀ (i : Nat) (v : Value), L2[i]? = some (some v) → L[i]? = some (some v)) : ∀ (i : Nat) (v : Value), (a :: L2)[i]? = some (some v) → (a :: L)[i]? = some (some v)
  | 0, _, hv => hv
  | i + 1, v, hv => h i v hv
theorem less_d {L L2 : List (Option Value)} {a : Option Value} (h : ∀ (i : Nat) (v : Value), L2[i]? = some (some v) → L[i]? = some (some v)) : ∀ (i : Nat) (v : Value), (none :: L2)[i]? = some (some v) → (a :: L)[i]? = some (some v)
  | 0, _, hv => by cases hv
  | i + 1, v, hv => h i v hv
abbrev ix (i : Int32) : Nat := i.toNatClampNeg
/-- a write -/
def wr (M : Mem) (k j : Nat) (x : Int32) : Mem := va_up M k (upd (M k) j x)
theorem entD_eq {g : G3} {ad : Nat → Nat} {M : Mem} {k : Nat} {c : CD} (h : cellD k = c) : entD g ad M k = entC g ad M k c := by rw [entD, h]
theorem aw_getf {idx ci j k0 : Nat} {sds : List SD} {sd : SD} (hd : decode cc pc = .ok (.getfield idx, 3)) (hf : FLk own idx ci j) (hk : k0 < K0) (hc : cellD k0 = .inl (ci, sds)) (hj : sds[j]? = some sd) {v : Value} (hv : avl M k0 j sd = v) (k : AW X own cc nL rt d Q (pc + 3) L (v :: st) M) : AW X own cc nL rt d Q pc L (.ref k0 :: st) M := by
  subst hv
  intro p l e R s m args below meth c D g ad adV cells slots Qs H locs ls C hret hP hS hl
  obtain ⟨C1, F, N, ty, ⟨c1, c2, c3, c4⟩, hN, hw, hs⟩ := hf
  have he : (wsD g ad M)[k0]? = some (ad k0, .inr (ci, sdL ad M k0 sds)) := by rw [wsD_at hk, entD_eq hc]; rfl
  have k2 := (k p l e R s m args below meth c D g ad adV cells slots Qs H locs ls C hret hP hS hl)
  rw [List.map_cons, cvv_avl] at k2
  exact va_get (C := C1) (T := F) (N := N) (ref := C1) C.1 C.2.1 C.2.2.2.2.1 c2 C.2.2.2.1 C.2.2.2.2.2.2.1.1 hP k0 he c1 j hN (C.2.2.2.2.1 _ hw) (fun x h => by rw [hs] at h; exact h) (sdL_at hj) hd k2
theorem aw_putf {idx ci j k0 : Nat} {sds : List SD} {ty : FieldType} {x : Int32} (hd : decode cc pc = .ok (.putfield idx, 3)) (hf : FPk own idx ci j ty) (hk : k0 < K0) (hc : cellD k0 = .inl (ci, sds)) (hj : sds[j]? = some (.inr false)) (hn : narrow ty (.int x) = .int x) (hfit : fits ty (.int x) = true) (k : AW X own cc nL rt d Q (pc + 3) L st (wr M k0 j x)) : AW X own cc nL rt d Q pc L (.int x :: .ref k0 :: st) M := by
  intro p l e R s m args below meth c D g ad adV cells slots Qs H locs ls C hret hP hS hl
  obtain ⟨C1, F, N, ty0, ⟨c1, c2, c3, c4⟩, hN, hw, hs, hfin, hty⟩ := hf
  have he : (wsD g ad M)[k0]? = some (ad k0, .inr (ci, sdL ad M k0 sds)) := by rw [wsD_at hk, entD_eq hc]; rfl
  have hset : (wsD g ad M).set k0 (ad k0, .inr (ci, (sdL ad M k0 sds).set j (.int x))) = wsD g ad (wr M k0 j x) := by
    refine wsD_set _ ?_
    rw [entD_eq hc]
    show Sum.inr _ = Sum.inr _
    have h1 : svl ad (va_up M k0 (upd (M k0) j x)) k0 j (.inr false) = .int x := by
      show Value.int ((if k0 = k0 then upd (M k0) j x else M k0) j) = Value.int x
      rw [if_pos rfl]
      show Value.int (if j = j then x else M k0 j) = Value.int x
      rw [if_pos rfl]
    have h2 := sdL_set (ad := ad) (M := M) (k := k0) (x := x) hj
    rw [h1] at h2
    rw [h2]
  refine va_put (C := C1) (T := F) (N := N) (ref := C1) (ty := ty) C.1 C.2.1 C.2.2.2.2.1 c2 ty0 c3 c4 C.2.2.2.1 C.2.2.2.2.2.2.1.1 hP (wsD_D C.2.2.2.2.2.2.1.2.1) hS k0 he c1 j hN (C.2.2.2.2.1 _ hw) (fun x h => by rw [hs] at h; exact h) hfin (by rw [c3 j hN, hty]) hn hfit (by rw [sdL_len]; exact (List.getElem?_eq_some_iff.mp hj).1) hd (fun H1 locs1 hP1 hD1 hS1 => ?_)
  have hP1 : va_P D vwCl (wsD g ad (wr M k0 j x)) H1 := by rw [← hset]; exact hP1
  exact (k p l e R s m args below meth c D g ad adV cells slots Qs H1 locs1 ls C hret hP1 hS1 hl)
theorem aw_putr {idx ci j k0 r : Nat} {sds : List SD} {ty : FieldType} (hd : decode cc pc = .ok (.putfield idx, 3)) (hf : FPk own idx ci j ty) (hk : k0 < K0) (hc : cellD k0 = .inl (ci, sds)) (hj : sds[j]? = some (.inr true)) (hr : r < 2 ^ 31) (hn : ∀ a, narrow ty (.ref a) = .ref a) (hfit : ∀ a, fits ty (.ref a) = true) (k : AW X own cc nL rt d Q (pc + 3) L st (wr M k0 j (nI r))) : AW X own cc nL rt d Q pc L (.ref r :: .ref k0 :: st) M := by
  intro p l e R s m args below meth c D g ad adV cells slots Qs H locs ls C hret hP hS hl
  obtain ⟨C1, F, N, ty0, ⟨c1, c2, c3, c4⟩, hN, hw, hs, hfin, hty⟩ := hf
  have he : (wsD g ad M)[k0]? = some (ad k0, .inr (ci, sdL ad M k0 sds)) := by rw [wsD_at hk, entD_eq hc]; rfl
  have hset : (wsD g ad M).set k0 (ad k0, .inr (ci, (sdL ad M k0 sds).set j (.ref (ad r)))) = wsD g ad (wr M k0 j (nI r)) := by
    refine wsD_set _ ?_
    rw [entD_eq hc]
    show Sum.inr _ = Sum.inr _
    have h1 : svl ad (va_up M k0 (upd (M k0) j (nI r))) k0 j (.inr true) = .ref (ad r) := by
      show Value.ref (ad ((if k0 = k0 then upd (M k0) j (nI r) else M k0) j).toNatClampNeg) = Value.ref (ad r)
      rw [if_pos rfl]
      show Value.ref (ad (if j = j then nI r else M k0 j).toNatClampNeg) = Value.ref (ad r)
      rw [if_pos rfl, nI_clamp hr]
    have h2 := sdL_set (ad := ad) (M := M) (k := k0) (x := nI r) hj
    rw [h1] at h2
    rw [h2]
  refine va_put (C := C1) (T := F) (N := N) (ref := C1) (ty := ty) C.1 C.2.1 C.2.2.2.2.1 c2 ty0 c3 c4 C.2.2.2.1 C.2.2.2.2.2.2.1.1 hP (wsD_D C.2.2.2.2.2.2.1.2.1) hS k0 he c1 j hN (C.2.2.2.2.1 _ hw) (fun x h => by rw [hs] at h; exact h) hfin (by rw [c3 j hN, hty]) (hn _) (hfit _) (by rw [sdL_len]; exact (List.getElem?_eq_some_iff.mp hj).1) hd (fun H1 locs1 hP1 hD1 hS1 => ?_)
  have hP1 : va_P D vwCl (wsD g ad (wr M k0 j (nI r))) H1 := by rw [← hset]; exact hP1
  exact (k p l e R s m args below meth c D g ad adV cells slots Qs H1 locs1 ls C hret hP1 hS1 hl)
theorem aw_iald {k0 n : Nat} {i : Int32} (hd : decode cc pc = .ok (.iaload, 1)) (hk : k0 < K0) (hc : cellD k0 = .inr (.inl (false, n))) (hin : vp_in i n) (k : AW X own cc nL rt d Q (pc + 1) L (.int (M k0 (ix i)) :: st) M) : AW X own cc nL rt d Q pc L (.int i :: .ref k0 :: st) M := by
  intro p l e R s m args below meth c D g ad adV cells slots Qs H locs ls C hret hP hS hl
  have he : (wsD g ad M)[k0]? = some (ad k0, .inl (g.1, n, .inl (M k0))) := by rw [wsD_at hk, entD_eq hc]; rfl
  exact va_iald C.1 C.2.1 C.2.2.2.2.2.2.1.1 hP k0 0 he rfl hin hd (k p l e R s m args below meth c D g ad adV cells slots Qs H locs ls C hret hP hS hl)
theorem aw_bald {k0 n : Nat} {i : Int32} (hd : decode cc pc = .ok (.baload, 1)) (hk : k0 < K0) (hc : cellD k0 = .inr (.inl (true, n))) (hin : vp_in i n) (k : AW X own cc nL rt d Q (pc + 1) L (.int (M k0 (ix i)) :: st) M) : AW X own cc nL rt d Q pc L (.int i :: .ref k0 :: st) M := by
  intro p l e R s m args below meth c D g ad adV cells slots Qs H locs ls C hret hP hS hl
  have he : (wsD g ad M)[k0]? = some (ad k0, .inl (g.2.1, n, .inl (M k0))) := by rw [wsD_at hk, entD_eq hc]; rfl
  exact va_bald C.1 C.2.1 C.2.2.2.2.2.2.1.1 hP k0 1 he rfl hin hd (k p l e R s m args below meth c D g ad adV cells slots Qs H locs ls C hret hP hS hl)
theorem aw_iast {k0 n : Nat} {i x : Int32} (hd : decode cc pc = .ok (.iastore, 1)) (hk : k0 < K0) (hc : cellD k0 = .inr (.inl (false, n))) (hin : vp_in i n) (k : AW X own cc nL rt d Q (pc + 1) L st (wr M k0 (ix i) x)) : AW X own cc nL rt d Q pc L (.int x :: .int i :: .ref k0 :: st) M := by
  intro p l e R s m args below meth c D g ad adV cells slots Qs H locs ls C hret hP hS hl
  have he : (wsD g ad M)[k0]? = some (ad k0, .inl (g.1, n, .inl (M k0))) := by rw [wsD_at hk, entD_eq hc]; rfl
  have hset : (wsD g ad M).set k0 (ad k0, .inl (g.1, n, .inl (upd (M k0) i.toNatClampNeg x))) = wsD g ad (wr M k0 (ix i) x) := by
    refine wsD_set _ ?_
    rw [entD_eq hc]
    show Sum.inl (g.1, n, _) = Sum.inl (g.1, n, Sum.inl (if k0 = k0 then upd (M k0) (ix i) x else M k0))
    rw [if_pos rfl]
  refine va_iast C.1 C.2.1 C.2.2.2.2.2.2.1.1 hP (wsD_D C.2.2.2.2.2.2.1.2.1) hS k0 0 he rfl hin hd (fun H1 locs1 hP1 hD1 hS1 => ?_)
  rw [hset] at hP1
  exact (k p l e R s m args below meth c D g ad adV cells slots Qs H1 locs1 ls C hret hP1 hS1 hl)
theorem aw_bast {k0 n : Nat} {i x : Int32} (hd : decode cc pc = .ok (.bastore, 1)) (hk : k0 < K0) (hc : cellD k0 = .inr (.inl (true, n))) (hin : vp_in i n) (k : AW X own cc nL rt d Q (pc + 1) L st (wr M k0 (ix i) (vp_nar .byte x))) : AW X own cc nL rt d Q pc L (.int x :: .int i :: .ref k0 :: st) M := by
  intro p l e R s m args below meth c D g ad adV cells slots Qs H locs ls C hret hP hS hl
  have he : (wsD g ad M)[k0]? = some (ad k0, .inl (g.2.1, n, .inl (M k0))) := by rw [wsD_at hk, entD_eq hc]; rfl
  have hset : (wsD g ad M).set k0 (ad k0, .inl (g.2.1, n, .inl (upd (M k0) i.toNatClampNeg (vp_nar .byte x)))) = wsD g ad (wr M k0 (ix i) (vp_nar .byte x)) := by
    refine wsD_set _ ?_
    rw [entD_eq hc]
    show Sum.inl (g.2.1, n, _) = Sum.inl (g.2.1, n, Sum.inl (if k0 = k0 then upd (M k0) (ix i) (vp_nar .byte x) else M k0))
    rw [if_pos rfl]
  refine va_bast C.1 C.2.1 C.2.2.2.2.2.2.1.1 hP (wsD_D C.2.2.2.2.2.2.1.2.1) hS k0 1 he rfl hin hd (fun H1 locs1 hP1 hD1 hS1 => ?_)
  rw [hset] at hP1
  exact (k p l e R s m args below meth c D g ad adV cells slots Qs H1 locs1 ls C hret hP1 hS1 hl)
theorem aw_aald {k0 r : Nat} {rs : List Nat} {i : Int32} (hd : decode cc pc = .ok (.aaload, 1)) (hk : k0 < K0) (hc : cellD k0 = .inr (.inr rs)) (hin : vp_in i rs.length) (hr : rs[ix i]? = some r) (k : AW X own cc nL rt d Q (pc + 1) L (.ref r :: st) M) : AW X own cc nL rt d Q pc L (.int i :: .ref k0 :: st) M := by
  intro p l e R s m args below meth c D g ad adV cells slots Qs H locs ls C hret hP hS hl
  have he : (wsD g ad M)[k0]? = some (ad k0, .inl (g.2.2, rs.length, .inr (.inr (.inr (.inr (fun i => (rs[i]?).map ad)))))) := by rw [wsD_at hk, entD_eq hc]; rfl
  refine va_aldq C.1 C.2.1 C.2.2.2.2.2.2.1.1 hP k0 2 he rfl hin hd ?_
  have h1 : va_rf ((fun i => (rs[i]?).map ad) i.toNatClampNeg) = .ref (ad r) := by
    show va_rf ((rs[ix i]?).map ad) = _
    rw [hr]; rfl
  rw [h1]
  exact (k p l e R s m args below meth c D g ad adV cells slots Qs H locs ls C hret hP hS hl)
/-- the script -/
theorem aw_sld {N : Nat} {xs : Nat → Int32} {i : Int32} (hX : X = some (N, xs)) (hd : decode cc pc = .ok (.iaload, 1)) (hin : vp_in i N) (k : AW X own cc nL rt d Q (pc + 1) L (.int (xs (ix i)) :: st) M) : AW X own cc nL rt d Q pc L (.int i :: .ref 3000 :: st) M := by
  intro p l e R s m args below meth c D g ad adV cells slots Qs H locs ls C hret hP hS hl
  obtain ⟨x1, x2, x3⟩ := C.2.2.2.2.2.2.2.2 N xs hX
  exact va_sld C.1 C.2.1 x1 x2 x3 hS hin hd (k p l e R s m args below meth c D g ad adV cells slots Qs H locs ls C hret hP hS hl)
theorem aw_slen {N : Nat} {xs : Nat → Int32} (hX : X = some (N, xs)) (hd : decode cc pc = .ok (.arraylength, 1)) (k : AW X own cc nL rt d Q (pc + 1) L (.int (nI N) :: st) M) : AW X own cc nL rt d Q pc L (.ref 3000 :: st) M := by
  intro p l e R s m args below meth c D g ad adV cells slots Qs H locs ls C hret hP hS hl
  obtain ⟨x1, x2, x3⟩ := C.2.2.2.2.2.2.2.2 N xs hX
  exact va_slen C.1 C.2.1 x1 x2 x3 hS hd (k p l e R s m args below meth c D g ad adV cells slots Qs H locs ls C hret hP hS hl)
theorem aw_iret {v : Int32} {ty : FieldType} (hd : decode cc pc = .ok (.ireturn, 1)) (hrt : rt = some ty) (hn : narrow ty (.int v) = .int v) (h : Q (some v) M) : AW X own cc nL rt d Q pc L [.int v] M := by
  intro p l e R s m args below meth c D g ad adV cells slots Qs H locs ls C hret hP hS hl
  exact hret (some v) M H locs pc ls h ⟨hd, ty, hrt, hn⟩ hP hS
theorem aw_vret (hd : decode cc pc = .ok (.return_, 1)) (hrt : rt = none) (h : Q none M) : AW X own cc nL rt d Q pc L [] M := by
  intro p l e R s m args below meth c D g ad adV cells slots Qs H locs ls C hret hP hS hl
  exact hret none M H locs pc ls h ⟨hd, hrt⟩ hP hS
theorem cat_sum (ad : Nat → Nat) (st : List Value) : ((st.map (cvv ad)).map fun v => v.category).sum = (st.map fun v => v.category).sum := by
  rw [List.map_map]
  congr 1
  apply List.map_congr_left
  intro v _
  exact cvv_cat v
theorem tt_ws {args : Array Value} {s : State} {mi : MI} (hts : ∀ w ∈ TT, w.before args s = true) (hc : Cond.code mi.1 mi.2.1 mi.2.2.1 mi.2.2.2 ∈ TT) : ∀ w ∈ (Cond.code mi.1 mi.2.1 mi.2.2.1 mi.2.2.2 :: TT), ∀ (a' : Array Value) (U : State), s.WarmedH U.vm → w.before a' U = true := by
  intro w hw a' U hW
  have hw2 : w ∈ TT := by
    rcases List.mem_cons.mp hw with rfl | h
    · exact hc
    · exact h
  exact word_at hW (good_of_word (tt_good hw2)) (hts w hw2)
theorem am_blind {D : va_G} {g : G3} {ad adV : Nat → Nat} {av : List Value} {M : Mem} : FrameBlind (va_Pc (av.map (cvv ad)) (fun U => STc D g ad adV U ∧ va_P D vwCl (wsD g ad M) U.heap)) := by
  intro a U f mk h
  exact ⟨h.1, h.2.1.call f mk a, h.2.2⟩
theorem am_cont {p : Program} {l : Launch} {e : Env} {R : Room} {s : State} {m : MethodId} {args : Array Value} {below : List Frame} {meth : Method} {c : Code} {H : Heap} {locs : List Loc} {cells slots : Nat} {Qs : State → Prop} {D : va_G} {g : G3} {ad : Nat → Nat} {Q : Option Int32 → Mem → Prop} {a : Array Value} {pc : Nat} {ls : Array Slot} {st0 rest : List Value}
    (hr : va_Run p l e R s m args below meth c H locs cells slots 0 0 (F0 m pc ls st0) rest (QM D g ad Q a) (AD ad)) (hS : va_S (AD ad) s.heap H locs)
    (kk : ∀ (r : Option Int32) (M' : Mem) (H1 : Heap) (locs1 : List Loc), Q r M' → va_P D vwCl (wsD g ad M') H1 → va_S (AD ad) s.heap H1 locs1 → W p l e R s m args below meth c H1 locs1 cells slots Qs (F0 m (pc + 3) ls (rst r ++ rest))) : W p l e R s m args below meth c H locs cells slots Qs (F0 m pc ls st0) := by
  intro T hT X
  obtain ⟨v, st₀, t, T', L, h0, X', hL, e1, e2, ⟨⟨r, M', hv, hq, hp⟩, hz, hk⟩, st⟩ := hr T hT X
  cases hv
  rw [h0] at hz hk
  obtain ⟨t2, a1, b1⟩ := kk r M' T'.heap (locs ++ L) hq (by rw [e1]; exact hp)
    ⟨Nat.le_trans hS.1 (by rw [e1]; exact hz), fun q h1 h2 => by rw [e1, hk q (Nat.lt_of_lt_of_le h1 hS.1) h2]; exact hS.2.1 q h1 h2, fun q hq => by
      rcases List.mem_append.mp hq with h | h
      · exact hS.2.2 q h
      · exact hL q h⟩ T' rfl X'
  exact ⟨t2, st t2 a1, b1⟩
theorem rst_map (ad : Nat → Nat) (r : Option Int32) (st : List Value) : (rst r ++ st).map (cvv ad) = rst r ++ st.map (cvv ad) := by cases r <;> rfl
theorem aw_callS {mi : MI} {n idx : Nat} {av st0 : List Value} (hd : decode cc pc = .ok (.invokestatic idx, 3)) (hw : Cond.methodLink own idx mi.1 ∈ TT) (ho : MSk mi n) (hn : av.length = n) (hst : av.reverse ++ st = st0) (hc8 : (st.map fun v => v.category).sum ≤ 8) (h : AM d mi av M (fun r M' => AW X own cc nL rt (d + 1) Q (pc + 3) L (rst r ++ st) M')) : AW X own cc nL rt (d + 1) Q pc L st0 M := by
  subst hst
  intro p l e R s m args below meth c D g ad adV cells slots Qs H locs ls C hret hP hS hl
  obtain ⟨hx, hb, hml, hown, hts, hrt, hST, ⟨r1, r2, r3, r4⟩, hX⟩ := id C
  obtain ⟨⟨i1, i2, ⟨i3, i4, i5⟩, i6, i7⟩, i8⟩ := ho
  have hrun := va_runS (p := p) (l := l) (e := e) (R := R) (s := s) (m := m) (args := args) (below := below) (meth := meth) (c := c) (H := H) (locs := locs) (cells := cells) (slots := slots) (g := F0 m pc ls ((av.reverse ++ st).map (cvv ad))) (As := av.map (cvv ad)) (rest := st.map (cvv ad)) (n := n) (y := mi.1) (bytes := mi.2.1) (maxL := mi.2.2.1) (ret := mi.2.2.2) ⟨hx, hb, hml, hown, hts⟩ (h l D g ad adV) ⟨⟨rfl, rfl, (show d + 1 ≤ R.frames by omega), (show 8 + (mi.2.2.1 + 11) + 64 * d ≤ R.locals by omega), tt_ws hts i2, List.mem_cons_self, hts _ i2, hts _ i1, ⟨i3, i4⟩, (fun sig h => by rw [h] at i5; exact (Option.some.inj i5).symm), hts _ hw⟩, hts _ i8⟩ ⟨am_blind, fun U hU hW => ⟨rfl, hST.go hS hU hW, by rw [hU]; exact hP⟩⟩ rfl (by rw [List.length_map]; exact hn) hl.1 (by show (av.reverse ++ st).map (cvv ad) = _; rw [List.map_append, List.map_reverse]) (lv_room (by rw [cat_sum]; exact hc8)) hd ⟨r3, r4⟩
  refine am_cont hrun hS (fun r M2 H1 locs1 hq hP1 hS1 => ?_)
  have k2 := hq p l e R s m args below meth c D g ad adV cells slots Qs H1 locs1 ls C hret hP1 hS1 hl
  rw [rst_map] at k2
  exact k2
theorem aw_callN {mi : MI} {n idx : Nat} {host : String} {av st0 : List Value} (hd : decode cc pc = .ok (.invokestatic idx, 3)) (hw : (own, idx, mi.1, host) ∈ nestW) (ho : MSk mi n) (hn : av.length = n) (hst : av.reverse ++ st = st0) (hc8 : (st.map fun v => v.category).sum ≤ 8) (h : AM d mi av M (fun r M' => AW X own cc nL rt (d + 1) Q (pc + 3) L (rst r ++ st) M')) : AW X own cc nL rt (d + 1) Q pc L st0 M := by
  subst hst
  intro p l e R s m args below meth c D g ad adV cells slots Qs H locs ls C hret hP hS hl
  obtain ⟨hx, hb, hml, hown, hts, hrt, hST, ⟨r1, r2, r3, r4⟩, hX⟩ := id C
  obtain ⟨⟨i1, i2, ⟨i3, i4, i5⟩, i6, i7⟩, i8⟩ := ho
  have hrun := va_runSN (p := p) (l := l) (e := e) (R := R) (s := s) (m := m) (args := args) (below := below) (meth := meth) (c := c) (H := H) (locs := locs) (cells := cells) (slots := slots) (g := F0 m pc ls ((av.reverse ++ st).map (cvv ad))) (As := av.map (cvv ad)) (rest := st.map (cvv ad)) (n := n) (y := mi.1) (host := host) (bytes := mi.2.1) (maxL := mi.2.2.1) (ret := mi.2.2.2) ⟨hx, hb, hml, hown, hts⟩ (h l D g ad adV) ⟨⟨⟨rfl, rfl, (show d + 1 ≤ R.frames by omega), (show 8 + (mi.2.2.1 + 11) + 64 * d ≤ R.locals by omega), tt_ws hts i2, List.mem_cons_self⟩, hts _ i2, hts _ i1, ⟨i3, i4⟩, (fun sig h => by rw [h] at i5; exact (Option.some.inj i5).symm), va_Nw.use rfl (hST.2.2.1 _ hw)⟩, hts _ i8, trivial⟩ ⟨am_blind, fun U hU hW => ⟨rfl, hST.go hS hU hW, by rw [hU]; exact hP⟩⟩ rfl (by rw [List.length_map]; exact hn) hl.1 (by show (av.reverse ++ st).map (cvv ad) = _; rw [List.map_append, List.map_reverse]) (lv_room (by rw [cat_sum]; exact hc8)) hd ⟨r3, r4⟩
  refine am_cont hrun hS (fun r M2 H1 locs1 hq hP1 hS1 => ?_)
  have k2 := hq p l e R s m args below meth c D g ad adV cells slots Qs H1 locs1 ls C hret hP1 hS1 hl
  rw [rst_map] at k2
  exact k2
theorem aw_callV {mi : MI} {n idx k0 ci : Nat} {sds : List SD} {C1 : String} {F : u_T} {N : Nat} {ty : Nat → FieldType} {av st0 : List Value} (hd : decode cc pc = .ok (.invokevirtual idx, 3)) (hw : Cond.methodLink own idx mi.1 ∈ TT) (ho : MVk mi n) (hk : k0 < K0) (hcell : cellD k0 = .inl (ci, sds)) (hcl : CLk ci C1 F N ty) (hC1 : mi.1.cls = C1) (hn : av.length = n) (hst : av.reverse ++ .ref k0 :: st = st0) (hc8 : (st.map fun v => v.category).sum ≤ 8) (h : AM d mi (.ref k0 :: av) M (fun r M' => AW X own cc nL rt (d + 1) Q (pc + 3) L (rst r ++ st) M')) : AW X own cc nL rt (d + 1) Q pc L st0 M := by
  subst hst
  intro p l e R s m args below meth c D g ad adV cells slots Qs H locs ls C hret hP hS hl
  obtain ⟨hx, hb, hml, hown, hts, hrt, hST, ⟨r1, r2, r3, r4⟩, hX⟩ := id C
  obtain ⟨⟨i1, i2, ⟨i3, i4, i5⟩, i6, i7⟩, i8⟩ := ho
  have he : (wsD g ad M)[k0]? = some (ad k0, .inr (ci, sdL ad M k0 sds)) := by rw [wsD_at hk, entD_eq hcell]; rfl
  have hrun := va_runV (p := p) (l := l) (e := e) (R := R) (s := s) (m := m) (args := args) (below := below) (meth := meth) (c := c) (H := H) (locs := locs) (cells := cells) (slots := slots) (g := F0 m pc ls ((av.reverse ++ .ref k0 :: st).map (cvv ad))) (As := av.map (cvv ad)) (rest := st.map (cvv ad)) (n := n) (y := mi.1) (C := mi.1.cls) (b := ad k0) (bytes := mi.2.1) (maxL := mi.2.2.1) (ret := mi.2.2.2) ⟨hx, hb, hml, hown, hts⟩ (h l D g ad adV) ⟨⟨rfl, rfl, (show d + 1 ≤ R.frames by omega), (show 8 + (mi.2.2.1 + 11) + 64 * d ≤ R.locals by omega), tt_ws hts i2, List.mem_cons_self, hts _ i2, hts _ i1, ⟨i3, i4⟩, (fun sig h => by rw [h] at i5; exact (Option.some.inj i5).symm), hts _ hw⟩, hts _ i8.1, hts _ i8.2⟩ ⟨am_blind, by rw [hC1]; exact va_recv hST.1 hP hcl.1 he, fun U hU hW => ⟨rfl, hST.go hS hU hW, by rw [hU]; exact hP⟩⟩ rfl (by rw [List.length_map]; exact hn) hl.1 (by show (av.reverse ++ .ref k0 :: st).map (cvv ad) = _; rw [List.map_append, List.map_reverse]; rfl) (lv_room (by rw [cat_sum]; exact hc8)) hd ⟨r3, r4⟩
  refine am_cont hrun hS (fun r M2 H1 locs1 hq hP1 hS1 => ?_)
  have k2 := hq p l e R s m args below meth c D g ad adV cells slots Qs H1 locs1 ls C hret hP1 hS1 hl
  rw [rst_map] at k2
  exact k2
theorem aw_mmin {idx : Nat} {x y : Int32} (hd : decode cc pc = .ok (.invokestatic idx, 3)) (hw : Cond.methodLink own idx Lib.Math.min.name ∈ TT) (h1 : Cond.static Lib.Math.min.name ∈ TT) (h2 : Cond.initialized "java/lang/Math" ∈ TT) (h3 : Cond.code Lib.Math.min.name Lib.Math.min.code 2 (some .int) ∈ TT) (hc8 : (st.map fun v => v.category).sum ≤ 8) (k : AW X own cc nL rt (d + 1) Q (pc + 3) L (.int (if y < x then y else x) :: st) M) : AW X own cc nL rt (d + 1) Q pc L (.int y :: .int x :: st) M := by
  intro p l e R s m args below meth c D g ad adV cells slots Qs H locs ls C hret hP hS hl
  obtain ⟨r1, r2, r3, r4⟩ := C.2.2.2.2.2.2.2.1
  exact va_mmin C.1 C.2.1 (C.2.2.1.trans hl.1.symm) C.2.2.2.1 (C.2.2.2.2.1 _ hw) (C.2.2.2.2.1 _ h1) (C.2.2.2.2.1 _ h2) (C.2.2.2.2.1 _ h3) (by omega) (by rw [cat_sum]; omega) r3 r4 hd (k p l e R s m args below meth c D g ad adV cells slots Qs H locs ls C hret hP hS hl)
theorem aw_mmax {idx : Nat} {x y : Int32} (hd : decode cc pc = .ok (.invokestatic idx, 3)) (hw : Cond.methodLink own idx Lib.Math.max.name ∈ TT) (h1 : Cond.static Lib.Math.max.name ∈ TT) (h2 : Cond.initialized "java/lang/Math" ∈ TT) (h3 : Cond.code Lib.Math.max.name Lib.Math.max.code 2 (some .int) ∈ TT) (hc8 : (st.map fun v => v.category).sum ≤ 8) (k : ∀ z : Int32, z = (if x < y then y else x) → AW X own cc nL rt (d + 1) Q (pc + 3) L (.int z :: st) M) : AW X own cc nL rt (d + 1) Q pc L (.int y :: .int x :: st) M := by
  intro p l e R s m args below meth c D g ad adV cells slots Qs H locs ls C hret hP hS hl
  obtain ⟨r1, r2, r3, r4⟩ := C.2.2.2.2.2.2.2.1
  exact va_mmax C.1 C.2.1 (C.2.2.1.trans hl.1.symm) C.2.2.2.1 (C.2.2.2.2.1 _ hw) (C.2.2.2.2.1 _ h1) (C.2.2.2.2.1 _ h2) (C.2.2.2.2.1 _ h3) (by omega) (by rw [cat_sum]; omega) r3 r4 hd (k _ rfl p l e R s m args below meth c D g ad adV cells slots Qs H locs ls C hret hP hS hl)
theorem aw_copy {idx k0 k1 n0 n1 : Nat} {sp dp n : Int32} (hd : decode cc pc = .ok (.invokestatic idx, 3)) (hw : Cond.methodLink own idx arraycopyName ∈ TT) (h1 : Cond.native arraycopyName ∈ TT) (h2 : Cond.static arraycopyName ∈ TT) (h3 : Cond.initialized "java/lang/System" ∈ TT) (hk0 : k0 < K0) (hc0 : cellD k0 = .inr (.inl (false, n0))) (hk1 : k1 < K0) (hc1 : cellD k1 = .inr (.inl (false, n1))) (g1 : ¬ sp < 0) (g2 : ¬ dp < 0) (g3 : ¬ n < 0) (g4 : ix sp + ix n ≤ n0) (g5 : ix dp + ix n ≤ n1) (hc8 : (st.map fun v => v.category).sum ≤ 8) (k : AW X own cc nL rt (d + 1) Q (pc + 3) L st (va_up M k1 (va_cpy (M k0) (M k1) (ix sp) (ix dp) (ix n)))) : AW X own cc nL rt (d + 1) Q pc L (.int n :: .int dp :: .ref k1 :: .int sp :: .ref k0 :: st) M := by
  intro p l e R s m args below meth c D g ad adV cells slots Qs H locs ls C hret hP hS hl
  obtain ⟨r1, r2, r3, r4⟩ := C.2.2.2.2.2.2.2.1
  have he0 : (wsD g ad M)[k0]? = some (ad k0, .inl (g.1, n0, .inl (M k0))) := by rw [wsD_at hk0, entD_eq hc0]; rfl
  have he1 : (wsD g ad M)[k1]? = some (ad k1, .inl (g.1, n1, .inl (M k1))) := by rw [wsD_at hk1, entD_eq hc1]; rfl
  have hset : (wsD g ad M).set k1 (ad k1, .inl (g.1, n1, .inl (va_cpy (M k0) (M k1) sp.toNatClampNeg dp.toNatClampNeg n.toNatClampNeg))) = wsD g ad (va_up M k1 (va_cpy (M k0) (M k1) (ix sp) (ix dp) (ix n))) := by
    refine wsD_set _ ?_
    rw [entD_eq hc1]
    show Sum.inl (g.1, n1, _) = Sum.inl (g.1, n1, Sum.inl (if k1 = k1 then va_cpy (M k0) (M k1) (ix sp) (ix dp) (ix n) else M k1))
    rw [if_pos rfl]
  refine va_copyi C.1 C.2.1 (C.2.2.1.trans hl.1.symm) C.2.2.2.1 (C.2.2.2.2.1 _ hw) (C.2.2.2.2.1 _ h1) (C.2.2.2.2.1 _ h2) (C.2.2.2.2.1 _ h3) C.2.2.2.2.2.2.1.1 hP (wsD_D C.2.2.2.2.2.2.1.2.1) hS k0 k1 0 0 he0 he1 rfl rfl rfl g1 g2 g3 g4 g5 (fun i _ => rfl) (by omega) (by rw [cat_sum]; have e : nativeFrameWords "java/lang/System" "arraycopy" 5 + 11 ≤ 50 := (by decide); omega) hd (fun H1 locs1 hP1 hD1 hS1 => ?_)
  rw [hset] at hP1
  exact (k p l e R s m args below meth c D g ad adV cells slots Qs H1 locs1 ls C hret hP1 hS1 hl)
end AMR
end
