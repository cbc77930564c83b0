section
-- ===== PART A: goes FIRST, ahead of the names: the tables' words, and 'selects' of the private methods out of them =====
/-- a private method of a class that the tables say can be made, by its rows of tables_1 -/
def lw_okq (q : MethodName × Nat) : Prop := (q.1.cls ≠ "java/lang/invoke/MethodHandle" ∧ q.1.cls ≠ "java/lang/invoke/VarHandle") ∧ Cond.instantiable q.1.cls q.2 ∈ tables_1 ∧ Cond.privateMethod q.1 ∈ tables_1 ∧ Cond.instanceMethod q.1 ∈ tables_1
theorem lw_p0 : lw_okq (⟨"RankBook", "folioFault", "(I)I"⟩, 14) := ⟨⟨by decide +kernel, by decide +kernel⟩, List.mem_of_getElem? (i := 15) (by decide +kernel), List.mem_of_getElem? (i := 110) (by decide +kernel), List.mem_of_getElem? (i := 111) (by decide +kernel)⟩
theorem lw_p1 : lw_okq (⟨"RankBook", "settle", "(I)Z"⟩, 14) := ⟨⟨by decide +kernel, by decide +kernel⟩, List.mem_of_getElem? (i := 15) (by decide +kernel), List.mem_of_getElem? (i := 114) (by decide +kernel), List.mem_of_getElem? (i := 115) (by decide +kernel)⟩
theorem lw_p2 : lw_okq (⟨"RankBook", "folioAt", "(I)LRankBook$Folio;"⟩, 14) := ⟨⟨by decide +kernel, by decide +kernel⟩, List.mem_of_getElem? (i := 15) (by decide +kernel), List.mem_of_getElem? (i := 148) (by decide +kernel), List.mem_of_getElem? (i := 149) (by decide +kernel)⟩
theorem lw_p3 : lw_okq (⟨"RankBook", "dayFault", "(I)I"⟩, 14) := ⟨⟨by decide +kernel, by decide +kernel⟩, List.mem_of_getElem? (i := 15) (by decide +kernel), List.mem_of_getElem? (i := 171) (by decide +kernel), List.mem_of_getElem? (i := 172) (by decide +kernel)⟩
theorem lw_p4 : lw_okq (⟨"RankBook", "isPastOrToday", "(I)Z"⟩, 14) := ⟨⟨by decide +kernel, by decide +kernel⟩, List.mem_of_getElem? (i := 15) (by decide +kernel), List.mem_of_getElem? (i := 180) (by decide +kernel), List.mem_of_getElem? (i := 181) (by decide +kernel)⟩
theorem lw_p5 : lw_okq (⟨"RankBook", "enterFault", "(LRankBook$Folio;IJIJ)I"⟩, 14) := ⟨⟨by decide +kernel, by decide +kernel⟩, List.mem_of_getElem? (i := 15) (by decide +kernel), List.mem_of_getElem? (i := 188) (by decide +kernel), List.mem_of_getElem? (i := 189) (by decide +kernel)⟩
theorem lw_p6 : lw_okq (⟨"RankBook", "newAct", "()LRankBook$Act;"⟩, 14) := ⟨⟨by decide +kernel, by decide +kernel⟩, List.mem_of_getElem? (i := 15) (by decide +kernel), List.mem_of_getElem? (i := 204) (by decide +kernel), List.mem_of_getElem? (i := 205) (by decide +kernel)⟩
theorem lw_p7 : lw_okq (⟨"RankBook", "addEntry", "(LRankBook$Entry;)I"⟩, 14) := ⟨⟨by decide +kernel, by decide +kernel⟩, List.mem_of_getElem? (i := 15) (by decide +kernel), List.mem_of_getElem? (i := 418) (by decide +kernel), List.mem_of_getElem? (i := 419) (by decide +kernel)⟩
theorem lw_p8 : lw_okq (⟨"RankBook", "entryAt", "(I)LRankBook$Entry;"⟩, 14) := ⟨⟨by decide +kernel, by decide +kernel⟩, List.mem_of_getElem? (i := 15) (by decide +kernel), List.mem_of_getElem? (i := 426) (by decide +kernel), List.mem_of_getElem? (i := 427) (by decide +kernel)⟩
theorem lw_p9 : lw_okq (⟨"RankBook", "oweFault", "(LRankBook$Entry;J)I"⟩, 14) := ⟨⟨by decide +kernel, by decide +kernel⟩, List.mem_of_getElem? (i := 15) (by decide +kernel), List.mem_of_getElem? (i := 441) (by decide +kernel), List.mem_of_getElem? (i := 442) (by decide +kernel)⟩
theorem lw_p10 : lw_okq (⟨"RankBook", "payFault", "(LRankBook$Entry;J)I"⟩, 14) := ⟨⟨by decide +kernel, by decide +kernel⟩, List.mem_of_getElem? (i := 15) (by decide +kernel), List.mem_of_getElem? (i := 464) (by decide +kernel), List.mem_of_getElem? (i := 465) (by decide +kernel)⟩
theorem lw_p11 : lw_okq (⟨"RankBook", "divideFault", "(LRankBook$Entry;JZZ)I"⟩, 14) := ⟨⟨by decide +kernel, by decide +kernel⟩, List.mem_of_getElem? (i := 15) (by decide +kernel), List.mem_of_getElem? (i := 487) (by decide +kernel), List.mem_of_getElem? (i := 488) (by decide +kernel)⟩
theorem lw_p12 : lw_okq (⟨"RankBook", "divide", "(LRankBook$Entry;JI)I"⟩, 14) := ⟨⟨by decide +kernel, by decide +kernel⟩, List.mem_of_getElem? (i := 15) (by decide +kernel), List.mem_of_getElem? (i := 491) (by decide +kernel), List.mem_of_getElem? (i := 492) (by decide +kernel)⟩
theorem lw_p13 : lw_okq (⟨"RankBook", "postFault", "(LRankBook$Entry;LRankBook$Entry;J)I"⟩, 14) := ⟨⟨by decide +kernel, by decide +kernel⟩, List.mem_of_getElem? (i := 15) (by decide +kernel), List.mem_of_getElem? (i := 507) (by decide +kernel), List.mem_of_getElem? (i := 508) (by decide +kernel)⟩
theorem lw_p14 : lw_okq (⟨"RankBook", "liveInOneFolio", "(LRankBook$Whole;LRankBook$Whole;)Z"⟩, 14) := ⟨⟨by decide +kernel, by decide +kernel⟩, List.mem_of_getElem? (i := 15) (by decide +kernel), List.mem_of_getElem? (i := 511) (by decide +kernel), List.mem_of_getElem? (i := 512) (by decide +kernel)⟩
theorem lw_p15 : lw_okq (⟨"RankBook$Circle", "add", "(LRankBook$Whole;)V"⟩, 3) := ⟨⟨by decide +kernel, by decide +kernel⟩, List.mem_of_getElem? (i := 27) (by decide +kernel), List.mem_of_getElem? (i := 522) (by decide +kernel), List.mem_of_getElem? (i := 523) (by decide +kernel)⟩
def lw_privs_1 : List (MethodName × Nat) := [(⟨"RankBook", "folioFault", "(I)I"⟩, 14), (⟨"RankBook", "settle", "(I)Z"⟩, 14), (⟨"RankBook", "folioAt", "(I)LRankBook$Folio;"⟩, 14), (⟨"RankBook", "dayFault", "(I)I"⟩, 14), (⟨"RankBook", "isPastOrToday", "(I)Z"⟩, 14), (⟨"RankBook", "enterFault", "(LRankBook$Folio;IJIJ)I"⟩, 14), (⟨"RankBook", "newAct", "()LRankBook$Act;"⟩, 14), (⟨"RankBook", "addEntry", "(LRankBook$Entry;)I"⟩, 14), (⟨"RankBook", "entryAt", "(I)LRankBook$Entry;"⟩, 14), (⟨"RankBook", "oweFault", "(LRankBook$Entry;J)I"⟩, 14), (⟨"RankBook", "payFault", "(LRankBook$Entry;J)I"⟩, 14), (⟨"RankBook", "divideFault", "(LRankBook$Entry;JZZ)I"⟩, 14), (⟨"RankBook", "divide", "(LRankBook$Entry;JI)I"⟩, 14), (⟨"RankBook", "postFault", "(LRankBook$Entry;LRankBook$Entry;J)I"⟩, 14), (⟨"RankBook", "liveInOneFolio", "(LRankBook$Whole;LRankBook$Whole;)Z"⟩, 14), (⟨"RankBook$Circle", "add", "(LRankBook$Whole;)V"⟩, 3)]
theorem lw_r1 : ∀ q ∈ lw_privs_1, lw_okq q := List.forall_mem_cons.mpr ⟨lw_p0, List.forall_mem_cons.mpr ⟨lw_p1, List.forall_mem_cons.mpr ⟨lw_p2, List.forall_mem_cons.mpr ⟨lw_p3, List.forall_mem_cons.mpr ⟨lw_p4, List.forall_mem_cons.mpr ⟨lw_p5, List.forall_mem_cons.mpr ⟨lw_p6, List.forall_mem_cons.mpr ⟨lw_p7, List.forall_mem_cons.mpr ⟨lw_p8, List.forall_mem_cons.mpr ⟨lw_p9, List.forall_mem_cons.mpr ⟨lw_p10, List.forall_mem_cons.mpr ⟨lw_p11, List.forall_mem_cons.mpr ⟨lw_p12, List.forall_mem_cons.mpr ⟨lw_p13, List.forall_mem_cons.mpr ⟨lw_p14, List.forall_mem_cons.mpr ⟨lw_p15, fun _ h => absurd h List.not_mem_nil⟩⟩⟩⟩⟩⟩⟩⟩⟩⟩⟩⟩⟩⟩⟩⟩
theorem lw_p16 : lw_okq (⟨"RankBook", "postAt", "(I)LRankBook$Post;"⟩, 14) := ⟨⟨by decide +kernel, by decide +kernel⟩, List.mem_of_getElem? (i := 15) (by decide +kernel), List.mem_of_getElem? (i := 576) (by decide +kernel), List.mem_of_getElem? (i := 577) (by decide +kernel)⟩
theorem lw_p17 : lw_okq (⟨"RankBook", "lieFault", "(LRankBook$Entry;I)I"⟩, 14) := ⟨⟨by decide +kernel, by decide +kernel⟩, List.mem_of_getElem? (i := 15) (by decide +kernel), List.mem_of_getElem? (i := 587) (by decide +kernel), List.mem_of_getElem? (i := 588) (by decide +kernel)⟩
theorem lw_p18 : lw_okq (⟨"RankBook", "strikeFault", "(LRankBook$Entry;)I"⟩, 14) := ⟨⟨by decide +kernel, by decide +kernel⟩, List.mem_of_getElem? (i := 15) (by decide +kernel), List.mem_of_getElem? (i := 614) (by decide +kernel), List.mem_of_getElem? (i := 615) (by decide +kernel)⟩
theorem lw_p19 : lw_okq (⟨"RankBook", "keepFault", "(LRankBook$Entry;LRankBook$Entry;)I"⟩, 14) := ⟨⟨by decide +kernel, by decide +kernel⟩, List.mem_of_getElem? (i := 15) (by decide +kernel), List.mem_of_getElem? (i := 622) (by decide +kernel), List.mem_of_getElem? (i := 623) (by decide +kernel)⟩
theorem lw_p20 : lw_okq (⟨"RankBook$Ranking", "rankPlaces", "(Z)V"⟩, 5) := ⟨⟨by decide +kernel, by decide +kernel⟩, List.mem_of_getElem? (i := 630) (by decide +kernel), List.mem_of_getElem? (i := 662) (by decide +kernel), List.mem_of_getElem? (i := 663) (by decide +kernel)⟩
theorem lw_p21 : lw_okq (⟨"RankBook", "nth", "(LRankBook$Folio;ILRankBook$Moment;I)I"⟩, 14) := ⟨⟨by decide +kernel, by decide +kernel⟩, List.mem_of_getElem? (i := 15) (by decide +kernel), List.mem_of_getElem? (i := 690) (by decide +kernel), List.mem_of_getElem? (i := 691) (by decide +kernel)⟩
theorem lw_p22 : lw_okq (⟨"RankBook", "standing", "(LRankBook$Entry;I)LRankBook$Whole;"⟩, 14) := ⟨⟨by decide +kernel, by decide +kernel⟩, List.mem_of_getElem? (i := 15) (by decide +kernel), List.mem_of_getElem? (i := 703) (by decide +kernel), List.mem_of_getElem? (i := 704) (by decide +kernel)⟩
theorem lw_p23 : lw_okq (⟨"RankBook", "offer", "(LRankBook$Folio;IJJ)LRankBook$Sale;"⟩, 14) := ⟨⟨by decide +kernel, by decide +kernel⟩, List.mem_of_getElem? (i := 15) (by decide +kernel), List.mem_of_getElem? (i := 723) (by decide +kernel), List.mem_of_getElem? (i := 724) (by decide +kernel)⟩
theorem lw_p24 : lw_okq (⟨"RankBook$Sale", "makeReady", "(LRankBook$Whole;)V"⟩, 2) := ⟨⟨by decide +kernel, by decide +kernel⟩, List.mem_of_getElem? (i := 730) (by decide +kernel), List.mem_of_getElem? (i := 748) (by decide +kernel), List.mem_of_getElem? (i := 749) (by decide +kernel)⟩
theorem lw_p25 : lw_okq (⟨"RankBook$Terms", "rentYears", "(I)I"⟩, 8) := ⟨⟨by decide +kernel, by decide +kernel⟩, List.mem_of_getElem? (i := 225) (by decide +kernel), List.mem_of_getElem? (i := 760) (by decide +kernel), List.mem_of_getElem? (i := 761) (by decide +kernel)⟩
theorem lw_p26 : lw_okq (⟨"RankBook$Terms", "withInterest", "(JI)J"⟩, 8) := ⟨⟨by decide +kernel, by decide +kernel⟩, List.mem_of_getElem? (i := 225) (by decide +kernel), List.mem_of_getElem? (i := 770) (by decide +kernel), List.mem_of_getElem? (i := 771) (by decide +kernel)⟩
theorem lw_p27 : lw_okq (⟨"RankBook$Sale", "payPlaces", "(Z)V"⟩, 2) := ⟨⟨by decide +kernel, by decide +kernel⟩, List.mem_of_getElem? (i := 730) (by decide +kernel), List.mem_of_getElem? (i := 779) (by decide +kernel), List.mem_of_getElem? (i := 780) (by decide +kernel)⟩
theorem lw_p28 : lw_okq (⟨"RankBook$Sale", "settleLeaves", "(LRankBook$Whole;LRankBook$Act;)V"⟩, 2) := ⟨⟨by decide +kernel, by decide +kernel⟩, List.mem_of_getElem? (i := 730) (by decide +kernel), List.mem_of_getElem? (i := 817) (by decide +kernel), List.mem_of_getElem? (i := 818) (by decide +kernel)⟩
theorem lw_p29 : lw_okq (⟨"RankBookModel", "isEntry", "(I)Z"⟩, 65) := ⟨⟨by decide +kernel, by decide +kernel⟩, List.mem_of_getElem? (i := 868) (by decide +kernel), List.mem_of_getElem? (i := 1076) (by decide +kernel), List.mem_of_getElem? (i := 1077) (by decide +kernel)⟩
theorem lw_p30 : lw_okq (⟨"RankBookModel", "dues", "(I)V"⟩, 65) := ⟨⟨by decide +kernel, by decide +kernel⟩, List.mem_of_getElem? (i := 868) (by decide +kernel), List.mem_of_getElem? (i := 1081) (by decide +kernel), List.mem_of_getElem? (i := 1082) (by decide +kernel)⟩
theorem lw_p31 : lw_okq (⟨"RankBookModel", "leavesOf", "(I)V"⟩, 65) := ⟨⟨by decide +kernel, by decide +kernel⟩, List.mem_of_getElem? (i := 868) (by decide +kernel), List.mem_of_getElem? (i := 1085) (by decide +kernel), List.mem_of_getElem? (i := 1086) (by decide +kernel)⟩
def lw_privs_2 : List (MethodName × Nat) := [(⟨"RankBook", "postAt", "(I)LRankBook$Post;"⟩, 14), (⟨"RankBook", "lieFault", "(LRankBook$Entry;I)I"⟩, 14), (⟨"RankBook", "strikeFault", "(LRankBook$Entry;)I"⟩, 14), (⟨"RankBook", "keepFault", "(LRankBook$Entry;LRankBook$Entry;)I"⟩, 14), (⟨"RankBook$Ranking", "rankPlaces", "(Z)V"⟩, 5), (⟨"RankBook", "nth", "(LRankBook$Folio;ILRankBook$Moment;I)I"⟩, 14), (⟨"RankBook", "standing", "(LRankBook$Entry;I)LRankBook$Whole;"⟩, 14), (⟨"RankBook", "offer", "(LRankBook$Folio;IJJ)LRankBook$Sale;"⟩, 14), (⟨"RankBook$Sale", "makeReady", "(LRankBook$Whole;)V"⟩, 2), (⟨"RankBook$Terms", "rentYears", "(I)I"⟩, 8), (⟨"RankBook$Terms", "withInterest", "(JI)J"⟩, 8), (⟨"RankBook$Sale", "payPlaces", "(Z)V"⟩, 2), (⟨"RankBook$Sale", "settleLeaves", "(LRankBook$Whole;LRankBook$Act;)V"⟩, 2), (⟨"RankBookModel", "isEntry", "(I)Z"⟩, 65), (⟨"RankBookModel", "dues", "(I)V"⟩, 65), (⟨"RankBookModel", "leavesOf", "(I)V"⟩, 65)]
theorem lw_r2 : ∀ q ∈ lw_privs_2, lw_okq q := List.forall_mem_cons.mpr ⟨lw_p16, List.forall_mem_cons.mpr ⟨lw_p17, List.forall_mem_cons.mpr ⟨lw_p18, List.forall_mem_cons.mpr ⟨lw_p19, List.forall_mem_cons.mpr ⟨lw_p20, List.forall_mem_cons.mpr ⟨lw_p21, List.forall_mem_cons.mpr ⟨lw_p22, List.forall_mem_cons.mpr ⟨lw_p23, List.forall_mem_cons.mpr ⟨lw_p24, List.forall_mem_cons.mpr ⟨lw_p25, List.forall_mem_cons.mpr ⟨lw_p26, List.forall_mem_cons.mpr ⟨lw_p27, List.forall_mem_cons.mpr ⟨lw_p28, List.forall_mem_cons.mpr ⟨lw_p29, List.forall_mem_cons.mpr ⟨lw_p30, List.forall_mem_cons.mpr ⟨lw_p31, fun _ h => absurd h List.not_mem_nil⟩⟩⟩⟩⟩⟩⟩⟩⟩⟩⟩⟩⟩⟩⟩⟩
theorem lw_p32 : lw_okq (⟨"RankBookModel", "gather", "(I)V"⟩, 65) := ⟨⟨by decide +kernel, by decide +kernel⟩, List.mem_of_getElem? (i := 868) (by decide +kernel), List.mem_of_getElem? (i := 1089) (by decide +kernel), List.mem_of_getElem? (i := 1090) (by decide +kernel)⟩
theorem lw_p33 : lw_okq (⟨"RankBookModel", "dueOfSum", "(IJ)J"⟩, 65) := ⟨⟨by decide +kernel, by decide +kernel⟩, List.mem_of_getElem? (i := 868) (by decide +kernel), List.mem_of_getElem? (i := 1093) (by decide +kernel), List.mem_of_getElem? (i := 1094) (by decide +kernel)⟩
theorem lw_p34 : lw_okq (⟨"RankBookModel", "refuse", "(I)I"⟩, 65) := ⟨⟨by decide +kernel, by decide +kernel⟩, List.mem_of_getElem? (i := 868) (by decide +kernel), List.mem_of_getElem? (i := 1104) (by decide +kernel), List.mem_of_getElem? (i := 1105) (by decide +kernel)⟩
theorem lw_p35 : lw_okq (⟨"RankBookModel", "wrong", "(II)I"⟩, 65) := ⟨⟨by decide +kernel, by decide +kernel⟩, List.mem_of_getElem? (i := 868) (by decide +kernel), List.mem_of_getElem? (i := 1112) (by decide +kernel), List.mem_of_getElem? (i := 1113) (by decide +kernel)⟩
theorem lw_p36 : lw_okq (⟨"RankBookModel", "no", "(I)Z"⟩, 65) := ⟨⟨by decide +kernel, by decide +kernel⟩, List.mem_of_getElem? (i := 868) (by decide +kernel), List.mem_of_getElem? (i := 1116) (by decide +kernel), List.mem_of_getElem? (i := 1117) (by decide +kernel)⟩
theorem lw_p37 : lw_okq (⟨"RankBookModel", "wrongBits", "(IJ)I"⟩, 65) := ⟨⟨by decide +kernel, by decide +kernel⟩, List.mem_of_getElem? (i := 868) (by decide +kernel), List.mem_of_getElem? (i := 1133) (by decide +kernel), List.mem_of_getElem? (i := 1134) (by decide +kernel)⟩
theorem lw_p38 : lw_okq (⟨"RankBookModel", "make", "(IIIIIJ)I"⟩, 65) := ⟨⟨by decide +kernel, by decide +kernel⟩, List.mem_of_getElem? (i := 868) (by decide +kernel), List.mem_of_getElem? (i := 1138) (by decide +kernel), List.mem_of_getElem? (i := 1139) (by decide +kernel)⟩
theorem lw_p39 : lw_okq (⟨"RankBookModel", "dateNow", "()I"⟩, 65) := ⟨⟨by decide +kernel, by decide +kernel⟩, List.mem_of_getElem? (i := 868) (by decide +kernel), List.mem_of_getElem? (i := 1142) (by decide +kernel), List.mem_of_getElem? (i := 1143) (by decide +kernel)⟩
theorem lw_p40 : lw_okq (⟨"RankBookModel", "livesNow", "(I)Z"⟩, 65) := ⟨⟨by decide +kernel, by decide +kernel⟩, List.mem_of_getElem? (i := 868) (by decide +kernel), List.mem_of_getElem? (i := 1155) (by decide +kernel), List.mem_of_getElem? (i := 1156) (by decide +kernel)⟩
theorem lw_p41 : lw_okq (⟨"RankBookModel", "now", "()V"⟩, 65) := ⟨⟨by decide +kernel, by decide +kernel⟩, List.mem_of_getElem? (i := 868) (by decide +kernel), List.mem_of_getElem? (i := 1159) (by decide +kernel), List.mem_of_getElem? (i := 1160) (by decide +kernel)⟩
theorem lw_p42 : lw_okq (⟨"RankBookModel", "view", "(II)V"⟩, 65) := ⟨⟨by decide +kernel, by decide +kernel⟩, List.mem_of_getElem? (i := 868) (by decide +kernel), List.mem_of_getElem? (i := 1163) (by decide +kernel), List.mem_of_getElem? (i := 1164) (by decide +kernel)⟩
theorem lw_p43 : lw_okq (⟨"RankBookModel", "lives", "(I)Z"⟩, 65) := ⟨⟨by decide +kernel, by decide +kernel⟩, List.mem_of_getElem? (i := 868) (by decide +kernel), List.mem_of_getElem? (i := 1167) (by decide +kernel), List.mem_of_getElem? (i := 1168) (by decide +kernel)⟩
theorem lw_p44 : lw_okq (⟨"RankBookModel", "counts", "(II)Z"⟩, 65) := ⟨⟨by decide +kernel, by decide +kernel⟩, List.mem_of_getElem? (i := 868) (by decide +kernel), List.mem_of_getElem? (i := 1171) (by decide +kernel), List.mem_of_getElem? (i := 1172) (by decide +kernel)⟩
theorem lw_p45 : lw_okq (⟨"RankBookModel", "sumBelow", "(I)J"⟩, 65) := ⟨⟨by decide +kernel, by decide +kernel⟩, List.mem_of_getElem? (i := 868) (by decide +kernel), List.mem_of_getElem? (i := 1175) (by decide +kernel), List.mem_of_getElem? (i := 1176) (by decide +kernel)⟩
theorem lw_p46 : lw_okq (⟨"RankBookModel", "parting", "(IJIZ)I"⟩, 65) := ⟨⟨by decide +kernel, by decide +kernel⟩, List.mem_of_getElem? (i := 868) (by decide +kernel), List.mem_of_getElem? (i := 1191) (by decide +kernel), List.mem_of_getElem? (i := 1192) (by decide +kernel)⟩
theorem lw_p47 : lw_okq (⟨"RankBookModel", "part", "(IJI)I"⟩, 65) := ⟨⟨by decide +kernel, by decide +kernel⟩, List.mem_of_getElem? (i := 868) (by decide +kernel), List.mem_of_getElem? (i := 1195) (by decide +kernel), List.mem_of_getElem? (i := 1196) (by decide +kernel)⟩
def lw_privs_3 : List (MethodName × Nat) := [(⟨"RankBookModel", "gather", "(I)V"⟩, 65), (⟨"RankBookModel", "dueOfSum", "(IJ)J"⟩, 65), (⟨"RankBookModel", "refuse", "(I)I"⟩, 65), (⟨"RankBookModel", "wrong", "(II)I"⟩, 65), (⟨"RankBookModel", "no", "(I)Z"⟩, 65), (⟨"RankBookModel", "wrongBits", "(IJ)I"⟩, 65), (⟨"RankBookModel", "make", "(IIIIIJ)I"⟩, 65), (⟨"RankBookModel", "dateNow", "()I"⟩, 65), (⟨"RankBookModel", "livesNow", "(I)Z"⟩, 65), (⟨"RankBookModel", "now", "()V"⟩, 65), (⟨"RankBookModel", "view", "(II)V"⟩, 65), (⟨"RankBookModel", "lives", "(I)Z"⟩, 65), (⟨"RankBookModel", "counts", "(II)Z"⟩, 65), (⟨"RankBookModel", "sumBelow", "(I)J"⟩, 65), (⟨"RankBookModel", "parting", "(IJIZ)I"⟩, 65), (⟨"RankBookModel", "part", "(IJI)I"⟩, 65)]
theorem lw_r3 : ∀ q ∈ lw_privs_3, lw_okq q := List.forall_mem_cons.mpr ⟨lw_p32, List.forall_mem_cons.mpr ⟨lw_p33, List.forall_mem_cons.mpr ⟨lw_p34, List.forall_mem_cons.mpr ⟨lw_p35, List.forall_mem_cons.mpr ⟨lw_p36, List.forall_mem_cons.mpr ⟨lw_p37, List.forall_mem_cons.mpr ⟨lw_p38, List.forall_mem_cons.mpr ⟨lw_p39, List.forall_mem_cons.mpr ⟨lw_p40, List.forall_mem_cons.mpr ⟨lw_p41, List.forall_mem_cons.mpr ⟨lw_p42, List.forall_mem_cons.mpr ⟨lw_p43, List.forall_mem_cons.mpr ⟨lw_p44, List.forall_mem_cons.mpr ⟨lw_p45, List.forall_mem_cons.mpr ⟨lw_p46, List.forall_mem_cons.mpr ⟨lw_p47, fun _ h => absurd h List.not_mem_nil⟩⟩⟩⟩⟩⟩⟩⟩⟩⟩⟩⟩⟩⟩⟩⟩
theorem lw_p48 : lw_okq (⟨"RankBookModel", "measure", "(I)V"⟩, 65) := ⟨⟨by decide +kernel, by decide +kernel⟩, List.mem_of_getElem? (i := 868) (by decide +kernel), List.mem_of_getElem? (i := 1207) (by decide +kernel), List.mem_of_getElem? (i := 1208) (by decide +kernel)⟩
theorem lw_p49 : lw_okq (⟨"RankBookModel", "isUndone", "(I)Z"⟩, 65) := ⟨⟨by decide +kernel, by decide +kernel⟩, List.mem_of_getElem? (i := 868) (by decide +kernel), List.mem_of_getElem? (i := 1211) (by decide +kernel), List.mem_of_getElem? (i := 1212) (by decide +kernel)⟩
theorem lw_p50 : lw_okq (⟨"RankBookModel", "draw", "(II)V"⟩, 65) := ⟨⟨by decide +kernel, by decide +kernel⟩, List.mem_of_getElem? (i := 868) (by decide +kernel), List.mem_of_getElem? (i := 1215) (by decide +kernel), List.mem_of_getElem? (i := 1216) (by decide +kernel)⟩
theorem lw_p51 : lw_okq (⟨"RankBookModel", "lies", "(II)Z"⟩, 65) := ⟨⟨by decide +kernel, by decide +kernel⟩, List.mem_of_getElem? (i := 868) (by decide +kernel), List.mem_of_getElem? (i := 1231) (by decide +kernel), List.mem_of_getElem? (i := 1232) (by decide +kernel)⟩
theorem lw_p52 : lw_okq (⟨"RankBookModel", "hasLeafOn", "(II)Z"⟩, 65) := ⟨⟨by decide +kernel, by decide +kernel⟩, List.mem_of_getElem? (i := 868) (by decide +kernel), List.mem_of_getElem? (i := 1235) (by decide +kernel), List.mem_of_getElem? (i := 1236) (by decide +kernel)⟩
theorem lw_p53 : lw_okq (⟨"RankBookModel", "isOff", "(II)Z"⟩, 65) := ⟨⟨by decide +kernel, by decide +kernel⟩, List.mem_of_getElem? (i := 868) (by decide +kernel), List.mem_of_getElem? (i := 1239) (by decide +kernel), List.mem_of_getElem? (i := 1240) (by decide +kernel)⟩
theorem lw_p54 : lw_okq (⟨"RankBookModel", "orderOn", "(II)V"⟩, 65) := ⟨⟨by decide +kernel, by decide +kernel⟩, List.mem_of_getElem? (i := 868) (by decide +kernel), List.mem_of_getElem? (i := 1255) (by decide +kernel), List.mem_of_getElem? (i := 1256) (by decide +kernel)⟩
theorem lw_p55 : lw_okq (⟨"RankBookModel", "placesOn", "(II)V"⟩, 65) := ⟨⟨by decide +kernel, by decide +kernel⟩, List.mem_of_getElem? (i := 868) (by decide +kernel), List.mem_of_getElem? (i := 1259) (by decide +kernel), List.mem_of_getElem? (i := 1260) (by decide +kernel)⟩
theorem lw_p56 : lw_okq (⟨"RankBookModel", "stand", "(IZ)V"⟩, 65) := ⟨⟨by decide +kernel, by decide +kernel⟩, List.mem_of_getElem? (i := 868) (by decide +kernel), List.mem_of_getElem? (i := 1263) (by decide +kernel), List.mem_of_getElem? (i := 1264) (by decide +kernel)⟩
theorem lw_p57 : lw_okq (⟨"RankBookModel", "isAhead", "(IIZ)Z"⟩, 65) := ⟨⟨by decide +kernel, by decide +kernel⟩, List.mem_of_getElem? (i := 868) (by decide +kernel), List.mem_of_getElem? (i := 1267) (by decide +kernel), List.mem_of_getElem? (i := 1268) (by decide +kernel)⟩
theorem lw_p58 : lw_okq (⟨"RankBookModel", "whose", "(I)I"⟩, 65) := ⟨⟨by decide +kernel, by decide +kernel⟩, List.mem_of_getElem? (i := 868) (by decide +kernel), List.mem_of_getElem? (i := 1271) (by decide +kernel), List.mem_of_getElem? (i := 1272) (by decide +kernel)⟩
theorem lw_p59 : lw_okq (⟨"RankBookModel", "isFirst", "(I)Z"⟩, 65) := ⟨⟨by decide +kernel, by decide +kernel⟩, List.mem_of_getElem? (i := 868) (by decide +kernel), List.mem_of_getElem? (i := 1275) (by decide +kernel), List.mem_of_getElem? (i := 1276) (by decide +kernel)⟩
theorem lw_p60 : lw_okq (⟨"RankBookModel", "standsAt", "(I)I"⟩, 65) := ⟨⟨by decide +kernel, by decide +kernel⟩, List.mem_of_getElem? (i := 868) (by decide +kernel), List.mem_of_getElem? (i := 1279) (by decide +kernel), List.mem_of_getElem? (i := 1280) (by decide +kernel)⟩
theorem lw_p61 : lw_okq (⟨"RankBookModel", "isPosted", "(II)Z"⟩, 65) := ⟨⟨by decide +kernel, by decide +kernel⟩, List.mem_of_getElem? (i := 868) (by decide +kernel), List.mem_of_getElem? (i := 1283) (by decide +kernel), List.mem_of_getElem? (i := 1284) (by decide +kernel)⟩
theorem lw_p62 : lw_okq (⟨"RankBookModel", "isRanked", "(II)Z"⟩, 65) := ⟨⟨by decide +kernel, by decide +kernel⟩, List.mem_of_getElem? (i := 868) (by decide +kernel), List.mem_of_getElem? (i := 1295) (by decide +kernel), List.mem_of_getElem? (i := 1296) (by decide +kernel)⟩
theorem lw_p63 : lw_okq (⟨"RankBookModel", "wrongSale", "(IIJJ)I"⟩, 65) := ⟨⟨by decide +kernel, by decide +kernel⟩, List.mem_of_getElem? (i := 868) (by decide +kernel), List.mem_of_getElem? (i := 1315) (by decide +kernel), List.mem_of_getElem? (i := 1316) (by decide +kernel)⟩
def lw_privs_4 : List (MethodName × Nat) := [(⟨"RankBookModel", "measure", "(I)V"⟩, 65), (⟨"RankBookModel", "isUndone", "(I)Z"⟩, 65), (⟨"RankBookModel", "draw", "(II)V"⟩, 65), (⟨"RankBookModel", "lies", "(II)Z"⟩, 65), (⟨"RankBookModel", "hasLeafOn", "(II)Z"⟩, 65), (⟨"RankBookModel", "isOff", "(II)Z"⟩, 65), (⟨"RankBookModel", "orderOn", "(II)V"⟩, 65), (⟨"RankBookModel", "placesOn", "(II)V"⟩, 65), (⟨"RankBookModel", "stand", "(IZ)V"⟩, 65), (⟨"RankBookModel", "isAhead", "(IIZ)Z"⟩, 65), (⟨"RankBookModel", "whose", "(I)I"⟩, 65), (⟨"RankBookModel", "isFirst", "(I)Z"⟩, 65), (⟨"RankBookModel", "standsAt", "(I)I"⟩, 65), (⟨"RankBookModel", "isPosted", "(II)Z"⟩, 65), (⟨"RankBookModel", "isRanked", "(II)Z"⟩, 65), (⟨"RankBookModel", "wrongSale", "(IIJJ)I"⟩, 65)]
theorem lw_r4 : ∀ q ∈ lw_privs_4, lw_okq q := List.forall_mem_cons.mpr ⟨lw_p48, List.forall_mem_cons.mpr ⟨lw_p49, List.forall_mem_cons.mpr ⟨lw_p50, List.forall_mem_cons.mpr ⟨lw_p51, List.forall_mem_cons.mpr ⟨lw_p52, List.forall_mem_cons.mpr ⟨lw_p53, List.forall_mem_cons.mpr ⟨lw_p54, List.forall_mem_cons.mpr ⟨lw_p55, List.forall_mem_cons.mpr ⟨lw_p56, List.forall_mem_cons.mpr ⟨lw_p57, List.forall_mem_cons.mpr ⟨lw_p58, List.forall_mem_cons.mpr ⟨lw_p59, List.forall_mem_cons.mpr ⟨lw_p60, List.forall_mem_cons.mpr ⟨lw_p61, List.forall_mem_cons.mpr ⟨lw_p62, List.forall_mem_cons.mpr ⟨lw_p63, fun _ h => absurd h List.not_mem_nil⟩⟩⟩⟩⟩⟩⟩⟩⟩⟩⟩⟩⟩⟩⟩⟩
theorem lw_p64 : lw_okq (⟨"RankBookModel", "give", "(IIJJ)J"⟩, 65) := ⟨⟨by decide +kernel, by decide +kernel⟩, List.mem_of_getElem? (i := 868) (by decide +kernel), List.mem_of_getElem? (i := 1319) (by decide +kernel), List.mem_of_getElem? (i := 1320) (by decide +kernel)⟩
theorem lw_p65 : lw_okq (⟨"RankBookModel", "prepare", "(I)V"⟩, 65) := ⟨⟨by decide +kernel, by decide +kernel⟩, List.mem_of_getElem? (i := 868) (by decide +kernel), List.mem_of_getElem? (i := 1323) (by decide +kernel), List.mem_of_getElem? (i := 1324) (by decide +kernel)⟩
theorem lw_p66 : lw_okq (⟨"RankBookModel", "dueIn", "(I)J"⟩, 65) := ⟨⟨by decide +kernel, by decide +kernel⟩, List.mem_of_getElem? (i := 868) (by decide +kernel), List.mem_of_getElem? (i := 1327) (by decide +kernel), List.mem_of_getElem? (i := 1328) (by decide +kernel)⟩
theorem lw_p67 : lw_okq (⟨"RankBookModel", "gotBy", "(I)J"⟩, 65) := ⟨⟨by decide +kernel, by decide +kernel⟩, List.mem_of_getElem? (i := 868) (by decide +kernel), List.mem_of_getElem? (i := 1331) (by decide +kernel), List.mem_of_getElem? (i := 1332) (by decide +kernel)⟩
theorem lw_p68 : lw_okq (⟨"RankBookModel", "gets", "(IJ)V"⟩, 65) := ⟨⟨by decide +kernel, by decide +kernel⟩, List.mem_of_getElem? (i := 868) (by decide +kernel), List.mem_of_getElem? (i := 1335) (by decide +kernel), List.mem_of_getElem? (i := 1336) (by decide +kernel)⟩
theorem lw_p69 : lw_okq (⟨"RankBookModel", "gives", "(IJ)V"⟩, 65) := ⟨⟨by decide +kernel, by decide +kernel⟩, List.mem_of_getElem? (i := 868) (by decide +kernel), List.mem_of_getElem? (i := 1339) (by decide +kernel), List.mem_of_getElem? (i := 1340) (by decide +kernel)⟩
def lw_privs_5 : List (MethodName × Nat) := [(⟨"RankBookModel", "give", "(IIJJ)J"⟩, 65), (⟨"RankBookModel", "prepare", "(I)V"⟩, 65), (⟨"RankBookModel", "dueIn", "(I)J"⟩, 65), (⟨"RankBookModel", "gotBy", "(I)J"⟩, 65), (⟨"RankBookModel", "gets", "(IJ)V"⟩, 65), (⟨"RankBookModel", "gives", "(IJ)V"⟩, 65)]
theorem lw_r5 : ∀ q ∈ lw_privs_5, lw_okq q := List.forall_mem_cons.mpr ⟨lw_p64, List.forall_mem_cons.mpr ⟨lw_p65, List.forall_mem_cons.mpr ⟨lw_p66, List.forall_mem_cons.mpr ⟨lw_p67, List.forall_mem_cons.mpr ⟨lw_p68, List.forall_mem_cons.mpr ⟨lw_p69, fun _ h => absurd h List.not_mem_nil⟩⟩⟩⟩⟩⟩
def lw_privs : List (MethodName × Nat) := lw_privs_1 ++ (lw_privs_2 ++ (lw_privs_3 ++ (lw_privs_4 ++ (lw_privs_5))))
def lw_tbl : List Cond := k2_sels lw_privs ++ tables_1
theorem lw_privs_ok : ∀ q ∈ lw_privs, lw_okq q := by
  show ∀ q ∈ lw_privs_1 ++ (lw_privs_2 ++ (lw_privs_3 ++ (lw_privs_4 ++ (lw_privs_5)))), lw_okq q
  exact List.forall_mem_append.mpr ⟨lw_r1, List.forall_mem_append.mpr ⟨lw_r2, List.forall_mem_append.mpr ⟨lw_r3, List.forall_mem_append.mpr ⟨lw_r4, lw_r5⟩⟩⟩⟩
end
section
/-! ===== BEGIN words of one list among another's, by their places ===== -/
theorem goodIn_r {big : List Cond} (ws : List Cond) (ps : List Nat) (hp : ws = ps.filterMap (fun i => big[i]?)) (h : ws.all goodWord = true) : GoodIn big ws := by
  intro w hw
  have h1 := List.all_eq_true.mp h w hw
  rw [hp] at hw
  obtain ⟨i, -, hi⟩ := List.mem_filterMap.mp hw
  have hm : w ∈ big := by first | exact List.mem_of_getElem? hi | exact List.getElem?_mem hi
  exact ⟨hm, good_of_word h1⟩
theorem goodIn_app {big a b : List Cond} (ha : GoodIn big a) (hb : GoodIn big b) : GoodIn big (a ++ b) := fun w h => (List.mem_append.mp h).elim (ha w) (hb w)
theorem goodIn_ca {big a b : List Cond} {c : Cond} (ha : GoodIn big (c :: a)) (hb : GoodIn big b) : GoodIn big (c :: (a ++ b)) := fun w h => (List.mem_cons.mp h).elim (fun e => ha w (List.mem_cons.mpr (Or.inl e))) (fun h => (List.mem_append.mp h).elim (fun h => ha w (List.mem_cons.mpr (Or.inr h))) (hb w))
theorem goodIn_sub {big ws : List Cond} (hm : ∀ w ∈ ws, w ∈ big) (h : ws.all goodWord = true) : GoodIn big ws := fun w hw => ⟨hm w hw, good_of_word (List.all_eq_true.mp h w hw)⟩
/-! ===== END ===== -/

/-! ===== BEGIN printed: names, fields, word lists, decode rows ===== -/
def RX0 : String := "RankBook$Act"
def TX0 : u_T := fun k => match k with
  | 0 => ("RankBook$Act", "dated", "I", true)
  | _ => ("RankBook$Act", "known", "I", true)
def tyX0 : Nat → FieldType := fun k => match k with
  | 0 => .int
  | _ => .int
abbrev wsX00 : List Cond := u_ws RX0 TX0 2
theorem nmX0 : ∀ a, a < 2 → ∀ b, b < 2 → a ≠ b → (TX0 a).2.1 ≠ (TX0 b).2.1 := by decide +kernel
theorem tyX0_ok : ∀ k, k < 2 → parseFieldDescriptor (TX0 k).2.2.1 = some (tyX0 k) := by decide +kernel
abbrev cX0_init : ByteArray := prog_2_method_1_code
def yX0_init : MethodName := ⟨RX0, "<init>", "(II)V"⟩
abbrev cX0_happened : ByteArray := prog_2_method_2_code
def yX0_happened : MethodName := ⟨RX0, "happened", "(LRankBook$Act;LRankBook$Moment;)Z"⟩
def RX1 : String := "RankBook$Circle"
def TX1 : u_T := fun k => match k with
  | 0 => ("RankBook$Circle", "wholes", "[I", true)
  | 1 => ("RankBook$Circle", "length", "I", false)
  | _ => ("RankBook$Circle", "refusals", "I", false)
def tyX1 : Nat → FieldType := fun k => match k with
  | 0 => .array .int
  | 1 => .int
  | _ => .int
abbrev wsX10 : List Cond := u_ws RX1 TX1 3
theorem nmX1 : ∀ a, a < 3 → ∀ b, b < 3 → a ≠ b → (TX1 a).2.1 ≠ (TX1 b).2.1 := by decide +kernel
theorem tyX1_ok : ∀ k, k < 3 → parseFieldDescriptor (TX1 k).2.2.1 = some (tyX1 k) := by decide +kernel
abbrev cX1_init : ByteArray := prog_3_method_1_code
def yX1_init : MethodName := ⟨RX1, "<init>", "()V"⟩
abbrev cX1_wholeAt : ByteArray := prog_3_method_2_code
def yX1_wholeAt : MethodName := ⟨RX1, "wholeAt", "(I)I"⟩
abbrev cX1_closedBy : ByteArray := prog_3_method_3_code
def yX1_closedBy : MethodName := ⟨RX1, "closedBy", "(LRankBook$Whole;LRankBook$Whole;LRankBook$Post;)Z"⟩
abbrev cX1_measureSteps : ByteArray := prog_3_method_4_code
def yX1_measureSteps : MethodName := ⟨RX1, "measureSteps", "(LRankBook$Whole;LRankBook$Whole;LRankBook$Post;)V"⟩
abbrev cX1_nearer : ByteArray := prog_3_method_5_code
def yX1_nearer : MethodName := ⟨RX1, "nearer", "(LRankBook$Whole;LRankBook$Post;)LRankBook$Whole;"⟩
abbrev cX1_add : ByteArray := prog_3_method_6_code
def yX1_add : MethodName := ⟨RX1, "add", "(LRankBook$Whole;)V"⟩
def RX2 : String := "RankBook$Entry"
def TX2 : u_T := fun k => match k with
  | 0 => ("RankBook$Entry", "number", "I", true)
  | 1 => ("RankBook$Entry", "whole", "LRankBook$Whole;", true)
  | 2 => ("RankBook$Entry", "parent", "LRankBook$Entry;", true)
  | 3 => ("RankBook$Entry", "owner", "I", true)
  | 4 => ("RankBook$Entry", "owed", "J", false)
  | 5 => ("RankBook$Entry", "hasParts", "Z", false)
  | 6 => ("RankBook$Entry", "releases", "[LRankBook$Act;", false)
  | 7 => ("RankBook$Entry", "previousLeaf", "LRankBook$Entry;", false)
  | 8 => ("RankBook$Entry", "nextLeaf", "LRankBook$Entry;", false)
  | 9 => ("RankBook$Entry", "leafDue", "J", false)
  | 10 => ("RankBook$Entry", "leafHas", "J", false)
  | 11 => ("RankBook$Entry", "latestShare", "J", false)
  | _ => ("RankBook$Entry", "toldShare", "J", false)
def tyX2 : Nat → FieldType := fun k => match k with
  | 0 => .int
  | 1 => .object "RankBook$Whole"
  | 2 => .object "RankBook$Entry"
  | 3 => .int
  | 4 => .long
  | 5 => .boolean
  | 6 => .array (.object "RankBook$Act")
  | 7 => .object "RankBook$Entry"
  | 8 => .object "RankBook$Entry"
  | 9 => .long
  | 10 => .long
  | 11 => .long
  | _ => .long
abbrev wsX20 : List Cond := u_ws RX2 TX2 13
theorem nmX2 : ∀ a, a < 13 → ∀ b, b < 13 → a ≠ b → (TX2 a).2.1 ≠ (TX2 b).2.1 := by decide +kernel
theorem tyX2_ok : ∀ k, k < 13 → parseFieldDescriptor (TX2 k).2.2.1 = some (tyX2 k) := by decide +kernel
abbrev cX2_init : ByteArray := prog_4_method_1_code
def yX2_init : MethodName := ⟨RX2, "<init>", "(ILRankBook$Whole;LRankBook$Entry;JI)V"⟩
abbrev cX2_isBelow : ByteArray := prog_4_method_2_code
def yX2_isBelow : MethodName := ⟨RX2, "isBelow", "(LRankBook$Entry;)Z"⟩
abbrev cX2_recordRelease : ByteArray := prog_4_method_3_code
def yX2_recordRelease : MethodName := ⟨RX2, "recordRelease", "(ILRankBook$Act;)V"⟩
abbrev cX2_isReleased : ByteArray := prog_4_method_4_code
def yX2_isReleased : MethodName := ⟨RX2, "isReleased", "(ILRankBook$Moment;)Z"⟩
abbrev cX2_liesOn : ByteArray := prog_4_method_5_code
def yX2_liesOn : MethodName := ⟨RX2, "liesOn", "(ILRankBook$Moment;)Z"⟩
def RX3 : String := "RankBook$Folio"
def TX3 : u_T := fun k => match k with
  | 0 => ("RankBook$Folio", "number", "I", true)
  | 1 => ("RankBook$Folio", "size", "I", true)
  | 2 => ("RankBook$Folio", "torn", "J", false)
  | 3 => ("RankBook$Folio", "first", "LRankBook$Whole;", false)
  | _ => ("RankBook$Folio", "last", "LRankBook$Whole;", false)
def tyX3 : Nat → FieldType := fun k => match k with
  | 0 => .int
  | 1 => .int
  | 2 => .long
  | 3 => .object "RankBook$Whole"
  | _ => .object "RankBook$Whole"
abbrev wsX30 : List Cond := u_ws RX3 TX3 5
theorem nmX3 : ∀ a, a < 5 → ∀ b, b < 5 → a ≠ b → (TX3 a).2.1 ≠ (TX3 b).2.1 := by decide +kernel
theorem tyX3_ok : ∀ k, k < 5 → parseFieldDescriptor (TX3 k).2.2.1 = some (tyX3 k) := by decide +kernel
abbrev cX3_init : ByteArray := prog_5_method_1_code
def yX3_init : MethodName := ⟨RX3, "<init>", "(II)V"⟩
abbrev cX3_hasParcel : ByteArray := prog_5_method_2_code
def yX3_hasParcel : MethodName := ⟨RX3, "hasParcel", "(I)Z"⟩
abbrev cX3_isTorn : ByteArray := prog_5_method_3_code
def yX3_isTorn : MethodName := ⟨RX3, "isTorn", "(I)Z"⟩
abbrev cX3_tearOff : ByteArray := prog_5_method_4_code
def yX3_tearOff : MethodName := ⟨RX3, "tearOff", "(I)V"⟩
abbrev cX3_allParcels : ByteArray := prog_5_method_5_code
def yX3_allParcels : MethodName := ⟨RX3, "allParcels", "()J"⟩
abbrev cX3_insert : ByteArray := prog_5_method_6_code
def yX3_insert : MethodName := ⟨RX3, "insert", "(LRankBook$Whole;)V"⟩
def RX4 : String := "RankBook$Moment"
def TX4 : u_T := fun k => match k with
  | 0 => ("RankBook$Moment", "day", "I", true)
  | _ => ("RankBook$Moment", "known", "I", true)
def tyX4 : Nat → FieldType := fun k => match k with
  | 0 => .int
  | _ => .int
abbrev wsX40 : List Cond := u_ws RX4 TX4 2
theorem nmX4 : ∀ a, a < 2 → ∀ b, b < 2 → a ≠ b → (TX4 a).2.1 ≠ (TX4 b).2.1 := by decide +kernel
theorem tyX4_ok : ∀ k, k < 2 → parseFieldDescriptor (TX4 k).2.2.1 = some (tyX4 k) := by decide +kernel
abbrev cX4_init : ByteArray := prog_6_method_1_code
def yX4_init : MethodName := ⟨RX4, "<init>", "(II)V"⟩
def RX5 : String := "RankBook$Post"
def TX5 : u_T := fun k => match k with
  | 0 => ("RankBook$Post", "number", "I", true)
  | 1 => ("RankBook$Post", "giver", "LRankBook$Entry;", true)
  | 2 => ("RankBook$Post", "taker", "LRankBook$Entry;", true)
  | 3 => ("RankBook$Post", "limit", "J", true)
  | 4 => ("RankBook$Post", "made", "LRankBook$Act;", true)
  | 5 => ("RankBook$Post", "undone", "LRankBook$Act;", false)
  | _ => ("RankBook$Post", "next", "LRankBook$Post;", false)
def tyX5 : Nat → FieldType := fun k => match k with
  | 0 => .int
  | 1 => .object "RankBook$Entry"
  | 2 => .object "RankBook$Entry"
  | 3 => .long
  | 4 => .object "RankBook$Act"
  | 5 => .object "RankBook$Act"
  | _ => .object "RankBook$Post"
abbrev wsX50 : List Cond := u_ws RX5 TX5 7
theorem nmX5 : ∀ a, a < 7 → ∀ b, b < 7 → a ≠ b → (TX5 a).2.1 ≠ (TX5 b).2.1 := by decide +kernel
theorem tyX5_ok : ∀ k, k < 7 → parseFieldDescriptor (TX5 k).2.2.1 = some (tyX5 k) := by decide +kernel
abbrev cX5_init : ByteArray := prog_7_method_1_code
def yX5_init : MethodName := ⟨RX5, "<init>", "(ILRankBook$Entry;LRankBook$Entry;JLRankBook$Act;)V"⟩
abbrev cX5_countsOn : ByteArray := prog_7_method_2_code
def yX5_countsOn : MethodName := ⟨RX5, "countsOn", "(LRankBook$Folio;ILRankBook$Moment;)Z"⟩
abbrev cX5_changePlaces : ByteArray := prog_7_method_3_code
def yX5_changePlaces : MethodName := ⟨RX5, "changePlaces", "()V"⟩
def RX6 : String := "RankBook$Ranking"
def TX6 : u_T := fun k => match k with
  | 0 => ("RankBook$Ranking", "folio", "LRankBook$Folio;", true)
  | 1 => ("RankBook$Ranking", "parcel", "I", true)
  | 2 => ("RankBook$Ranking", "moment", "LRankBook$Moment;", true)
  | 3 => ("RankBook$Ranking", "firstPost", "LRankBook$Post;", true)
  | _ => ("RankBook$Ranking", "size", "I", false)
def tyX6 : Nat → FieldType := fun k => match k with
  | 0 => .object "RankBook$Folio"
  | 1 => .int
  | 2 => .object "RankBook$Moment"
  | 3 => .object "RankBook$Post"
  | _ => .int
abbrev wsX60 : List Cond := u_ws RX6 TX6 5
theorem nmX6 : ∀ a, a < 5 → ∀ b, b < 5 → a ≠ b → (TX6 a).2.1 ≠ (TX6 b).2.1 := by decide +kernel
theorem tyX6_ok : ∀ k, k < 5 → parseFieldDescriptor (TX6 k).2.2.1 = some (tyX6 k) := by decide +kernel
abbrev cX6_init : ByteArray := prog_8_method_1_code
def yX6_init : MethodName := ⟨RX6, "<init>", "(LRankBook$Folio;ILRankBook$Moment;LRankBook$Post;)V"⟩
abbrev cX6_arrange : ByteArray := prog_8_method_2_code
def yX6_arrange : MethodName := ⟨RX6, "arrange", "()V"⟩
abbrev cX6_rankPlaces : ByteArray := prog_8_method_3_code
def yX6_rankPlaces : MethodName := ⟨RX6, "rankPlaces", "(Z)V"⟩
abbrev cX6_placedBy : ByteArray := prog_8_method_4_code
def yX6_placedBy : MethodName := ⟨RX6, "placedBy", "(LRankBook$Whole;Z)LRankBook$Whole;"⟩
abbrev cX6_wholeAt : ByteArray := prog_8_method_5_code
def yX6_wholeAt : MethodName := ⟨RX6, "wholeAt", "(I)LRankBook$Whole;"⟩
def RX7 : String := "RankBook$Sale"
def TX7 : u_T := fun k => match k with
  | 0 => ("RankBook$Sale", "ranking", "LRankBook$Ranking;", true)
  | _ => ("RankBook$Sale", "left", "J", false)
def tyX7 : Nat → FieldType := fun k => match k with
  | 0 => .object "RankBook$Ranking"
  | _ => .long
abbrev wsX70 : List Cond := u_ws RX7 TX7 2
theorem nmX7 : ∀ a, a < 2 → ∀ b, b < 2 → a ≠ b → (TX7 a).2.1 ≠ (TX7 b).2.1 := by decide +kernel
theorem tyX7_ok : ∀ k, k < 2 → parseFieldDescriptor (TX7 k).2.2.1 = some (tyX7 k) := by decide +kernel
abbrev cX7_init : ByteArray := prog_9_method_1_code
def yX7_init : MethodName := ⟨RX7, "<init>", "(LRankBook$Ranking;J)V"⟩
abbrev cX7_distribute : ByteArray := prog_9_method_2_code
def yX7_distribute : MethodName := ⟨RX7, "distribute", "()V"⟩
abbrev cX7_makeReady : ByteArray := prog_9_method_3_code
def yX7_makeReady : MethodName := ⟨RX7, "makeReady", "(LRankBook$Whole;)V"⟩
abbrev cX7_payPlaces : ByteArray := prog_9_method_4_code
def yX7_payPlaces : MethodName := ⟨RX7, "payPlaces", "(Z)V"⟩
abbrev cX7_giveWay : ByteArray := prog_9_method_5_code
def yX7_giveWay : MethodName := ⟨RX7, "giveWay", "(LRankBook$Post;)V"⟩
abbrev cX7_hasBelow : ByteArray := prog_9_method_6_code
def yX7_hasBelow : MethodName := ⟨RX7, "hasBelow", "(LRankBook$Entry;)J"⟩
abbrev cX7_give : ByteArray := prog_9_method_7_code
def yX7_give : MethodName := ⟨RX7, "give", "(LRankBook$Entry;J)V"⟩
abbrev cX7_get : ByteArray := prog_9_method_8_code
def yX7_get : MethodName := ⟨RX7, "get", "(LRankBook$Entry;J)J"⟩
abbrev cX7_tellShares : ByteArray := prog_9_method_9_code
def yX7_tellShares : MethodName := ⟨RX7, "tellShares", "(LRankBook$Whole;)V"⟩
abbrev cX7_carryOut : ByteArray := prog_9_method_10_code
def yX7_carryOut : MethodName := ⟨RX7, "carryOut", "()V"⟩
abbrev cX7_settleLeaves : ByteArray := prog_9_method_11_code
def yX7_settleLeaves : MethodName := ⟨RX7, "settleLeaves", "(LRankBook$Whole;LRankBook$Act;)V"⟩
def RX8 : String := "RankBook$Terms"
def TX8 : u_T := fun k => match k with
  | 0 => ("RankBook$Terms", "kind", "I", true)
  | 1 => ("RankBook$Terms", "rate", "I", true)
  | 2 => ("RankBook$Terms", "top", "J", true)
  | 3 => ("RankBook$Terms", "interestFrom", "I", false)
  | 4 => ("RankBook$Terms", "interestYears", "I", false)
  | 5 => ("RankBook$Terms", "claimed", "LRankBook$Act;", false)
  | 6 => ("RankBook$Terms", "aheadFrom", "I", false)
  | _ => ("RankBook$Terms", "touched", "Z", false)
def tyX8 : Nat → FieldType := fun k => match k with
  | 0 => .int
  | 1 => .int
  | 2 => .long
  | 3 => .int
  | 4 => .int
  | 5 => .object "RankBook$Act"
  | 6 => .int
  | _ => .boolean
abbrev wsX80 : List Cond := u_ws RX8 TX8 8
theorem nmX8 : ∀ a, a < 8 → ∀ b, b < 8 → a ≠ b → (TX8 a).2.1 ≠ (TX8 b).2.1 := by decide +kernel
theorem tyX8_ok : ∀ k, k < 8 → parseFieldDescriptor (TX8 k).2.2.1 = some (tyX8 k) := by decide +kernel
abbrev cX8_init : ByteArray := prog_10_method_1_code
def yX8_init : MethodName := ⟨RX8, "<init>", "(IIJI)V"⟩
abbrev cX8_isDivisible : ByteArray := prog_10_method_2_code
def yX8_isDivisible : MethodName := ⟨RX8, "isDivisible", "()Z"⟩
abbrev cX8_hasPaper : ByteArray := prog_10_method_3_code
def yX8_hasPaper : MethodName := ⟨RX8, "hasPaper", "()Z"⟩
abbrev cX8_claimAhead : ByteArray := prog_10_method_4_code
def yX8_claimAhead : MethodName := ⟨RX8, "claimAhead", "(IILRankBook$Act;)V"⟩
abbrev cX8_goesAhead : ByteArray := prog_10_method_5_code
def yX8_goesAhead : MethodName := ⟨RX8, "goesAhead", "(LRankBook$Moment;)Z"⟩
abbrev cX8_dueOf : ByteArray := prog_10_method_6_code
def yX8_dueOf : MethodName := ⟨RX8, "dueOf", "(JI)J"⟩
abbrev cX8_withInterest : ByteArray := prog_10_method_7_code
def yX8_withInterest : MethodName := ⟨RX8, "withInterest", "(JI)J"⟩
abbrev cX8_rentYears : ByteArray := prog_10_method_8_code
def yX8_rentYears : MethodName := ⟨RX8, "rentYears", "(I)I"⟩
def RX9 : String := "RankBook$Whole"
def TX9 : u_T := fun k => match k with
  | 0 => ("RankBook$Whole", "folio", "LRankBook$Folio;", true)
  | 1 => ("RankBook$Whole", "enteredFor", "J", true)
  | 2 => ("RankBook$Whole", "entered", "LRankBook$Act;", true)
  | 3 => ("RankBook$Whole", "terms", "LRankBook$Terms;", true)
  | 4 => ("RankBook$Whole", "struck", "LRankBook$Act;", false)
  | 5 => ("RankBook$Whole", "paperThere", "Z", false)
  | 6 => ("RankBook$Whole", "partner", "LRankBook$Whole;", false)
  | 7 => ("RankBook$Whole", "kept", "LRankBook$Act;", false)
  | 8 => ("RankBook$Whole", "root", "LRankBook$Entry;", false)
  | 9 => ("RankBook$Whole", "firstLeaf", "LRankBook$Entry;", false)
  | 10 => ("RankBook$Whole", "lastLeaf", "LRankBook$Entry;", false)
  | 11 => ("RankBook$Whole", "previous", "LRankBook$Whole;", false)
  | 12 => ("RankBook$Whole", "next", "LRankBook$Whole;", false)
  | 13 => ("RankBook$Whole", "liesThere", "Z", false)
  | 14 => ("RankBook$Whole", "rank", "I", false)
  | 15 => ("RankBook$Whole", "moves", "I", false)
  | _ => ("RankBook$Whole", "steps", "I", false)
def tyX9 : Nat → FieldType := fun k => match k with
  | 0 => .object "RankBook$Folio"
  | 1 => .long
  | 2 => .object "RankBook$Act"
  | 3 => .object "RankBook$Terms"
  | 4 => .object "RankBook$Act"
  | 5 => .boolean
  | 6 => .object "RankBook$Whole"
  | 7 => .object "RankBook$Act"
  | 8 => .object "RankBook$Entry"
  | 9 => .object "RankBook$Entry"
  | 10 => .object "RankBook$Entry"
  | 11 => .object "RankBook$Whole"
  | 12 => .object "RankBook$Whole"
  | 13 => .boolean
  | 14 => .int
  | 15 => .int
  | _ => .int
abbrev wsX90 : List Cond := u_ws RX9 TX9 17
theorem nmX9 : ∀ a, a < 17 → ∀ b, b < 17 → a ≠ b → (TX9 a).2.1 ≠ (TX9 b).2.1 := by decide +kernel
theorem tyX9_ok : ∀ k, k < 17 → parseFieldDescriptor (TX9 k).2.2.1 = some (tyX9 k) := by decide +kernel
abbrev cX9_init : ByteArray := prog_11_method_1_code
def yX9_init : MethodName := ⟨RX9, "<init>", "(LRankBook$Folio;JLRankBook$Act;LRankBook$Terms;)V"⟩
abbrev cX9_begin : ByteArray := prog_11_method_2_code
def yX9_begin : MethodName := ⟨RX9, "begin", "(LRankBook$Entry;)V"⟩
abbrev cX9_number : ByteArray := prog_11_method_3_code
def yX9_number : MethodName := ⟨RX9, "number", "()I"⟩
abbrev cX9_livesAt : ByteArray := prog_11_method_4_code
def yX9_livesAt : MethodName := ⟨RX9, "livesAt", "(LRankBook$Moment;)Z"⟩
abbrev cX9_replaceLeaf : ByteArray := prog_11_method_5_code
def yX9_replaceLeaf : MethodName := ⟨RX9, "replaceLeaf", "(LRankBook$Entry;LRankBook$Entry;LRankBook$Entry;)V"⟩
abbrev cX9_owedBelow : ByteArray := prog_11_method_6_code
def yX9_owedBelow : MethodName := ⟨RX9, "owedBelow", "(LRankBook$Entry;)J"⟩
abbrev cX9_spreadDue : ByteArray := prog_11_method_7_code
def yX9_spreadDue : MethodName := ⟨RX9, "spreadDue", "(I)V"⟩
abbrev cX9_leafDueBelow : ByteArray := prog_11_method_8_code
def yX9_leafDueBelow : MethodName := ⟨RX9, "leafDueBelow", "(LRankBook$Entry;)J"⟩
def RX10 : String := "RankBook"
def TX10 : u_T := fun k => match k with
  | 0 => ("RankBook", "folios", "[LRankBook$Folio;", true)
  | 1 => ("RankBook", "entries", "[LRankBook$Entry;", true)
  | 2 => ("RankBook", "latestCircle", "LRankBook$Circle;", true)
  | 3 => ("RankBook", "folioCount", "I", false)
  | 4 => ("RankBook", "entryCount", "I", false)
  | 5 => ("RankBook", "postCount", "I", false)
  | 6 => ("RankBook", "firstPost", "LRankBook$Post;", false)
  | 7 => ("RankBook", "lastPost", "LRankBook$Post;", false)
  | 8 => ("RankBook", "now", "LRankBook$Moment;", false)
  | 9 => ("RankBook", "actDay", "I", false)
  | 10 => ("RankBook", "chosenFolio", "I", false)
  | 11 => ("RankBook", "ownerHas", "J", false)
  | 12 => ("RankBook", "soldCount", "I", false)
  | _ => ("RankBook", "status", "I", false)
def tyX10 : Nat → FieldType := fun k => match k with
  | 0 => .array (.object "RankBook$Folio")
  | 1 => .array (.object "RankBook$Entry")
  | 2 => .object "RankBook$Circle"
  | 3 => .int
  | 4 => .int
  | 5 => .int
  | 6 => .object "RankBook$Post"
  | 7 => .object "RankBook$Post"
  | 8 => .object "RankBook$Moment"
  | 9 => .int
  | 10 => .int
  | 11 => .long
  | 12 => .int
  | _ => .int
abbrev wsX100 : List Cond := u_ws RX10 TX10 14
theorem nmX10 : ∀ a, a < 14 → ∀ b, b < 14 → a ≠ b → (TX10 a).2.1 ≠ (TX10 b).2.1 := by decide +kernel
theorem tyX10_ok : ∀ k, k < 14 → parseFieldDescriptor (TX10 k).2.2.1 = some (tyX10 k) := by decide +kernel
abbrev cX10_init : ByteArray := prog_1_method_1_code
def yX10_init : MethodName := ⟨RX10, "<init>", "()V"⟩
abbrev cX10_folio : ByteArray := prog_1_method_2_code
def yX10_folio : MethodName := ⟨RX10, "folio", "(I)I"⟩
abbrev cX10_folioFault : ByteArray := prog_1_method_3_code
def yX10_folioFault : MethodName := ⟨RX10, "folioFault", "(I)I"⟩
abbrev cX10_tear : ByteArray := prog_1_method_4_code
def yX10_tear : MethodName := ⟨RX10, "tear", "(II)Z"⟩
abbrev cX10_day : ByteArray := prog_1_method_5_code
def yX10_day : MethodName := ⟨RX10, "day", "(I)Z"⟩
abbrev cX10_dayFault : ByteArray := prog_1_method_6_code
def yX10_dayFault : MethodName := ⟨RX10, "dayFault", "(I)I"⟩
abbrev cX10_since : ByteArray := prog_1_method_7_code
def yX10_since : MethodName := ⟨RX10, "since", "(I)Z"⟩
abbrev cX10_enter : ByteArray := prog_1_method_8_code
def yX10_enter : MethodName := ⟨RX10, "enter", "(IIJIJ)I"⟩
abbrev cX10_enterFault : ByteArray := prog_1_method_9_code
def yX10_enterFault : MethodName := ⟨RX10, "enterFault", "(LRankBook$Folio;IJIJ)I"⟩
abbrev cX10_maxRate : ByteArray := prog_1_method_10_code
def yX10_maxRate : MethodName := ⟨RX10, "maxRate", "(I)I"⟩
abbrev cX10_claim : ByteArray := prog_1_method_11_code
def yX10_claim : MethodName := ⟨RX10, "claim", "(III)Z"⟩
abbrev cX10_claimFault : ByteArray := prog_1_method_12_code
def yX10_claimFault : MethodName := ⟨RX10, "claimFault", "(LRankBook$Entry;II)I"⟩
abbrev cX10_owe : ByteArray := prog_1_method_13_code
def yX10_owe : MethodName := ⟨RX10, "owe", "(IJ)Z"⟩
abbrev cX10_oweFault : ByteArray := prog_1_method_14_code
def yX10_oweFault : MethodName := ⟨RX10, "oweFault", "(LRankBook$Entry;J)I"⟩
abbrev cX10_pay : ByteArray := prog_1_method_15_code
def yX10_pay : MethodName := ⟨RX10, "pay", "(IJ)J"⟩
abbrev cX10_payFault : ByteArray := prog_1_method_16_code
def yX10_payFault : MethodName := ⟨RX10, "payFault", "(LRankBook$Entry;J)I"⟩
abbrev cX10_paper : ByteArray := prog_1_method_17_code
def yX10_paper : MethodName := ⟨RX10, "paper", "(IZ)Z"⟩
abbrev cX10_paperFault : ByteArray := prog_1_method_18_code
def yX10_paperFault : MethodName := ⟨RX10, "paperFault", "(LRankBook$Entry;)I"⟩
abbrev cX10_split : ByteArray := prog_1_method_19_code
def yX10_split : MethodName := ⟨RX10, "split", "(IJ)I"⟩
abbrev cX10_hand : ByteArray := prog_1_method_20_code
def yX10_hand : MethodName := ⟨RX10, "hand", "(IJI)I"⟩
abbrev cX10_divideFault : ByteArray := prog_1_method_21_code
def yX10_divideFault : MethodName := ⟨RX10, "divideFault", "(LRankBook$Entry;JZZ)I"⟩
abbrev cX10_divide : ByteArray := prog_1_method_22_code
def yX10_divide : MethodName := ⟨RX10, "divide", "(LRankBook$Entry;JI)I"⟩
abbrev cX10_post : ByteArray := prog_1_method_23_code
def yX10_post : MethodName := ⟨RX10, "post", "(IIJ)I"⟩
abbrev cX10_postFault : ByteArray := prog_1_method_24_code
def yX10_postFault : MethodName := ⟨RX10, "postFault", "(LRankBook$Entry;LRankBook$Entry;J)I"⟩
abbrev cX10_undo : ByteArray := prog_1_method_25_code
def yX10_undo : MethodName := ⟨RX10, "undo", "(I)Z"⟩
abbrev cX10_undoFault : ByteArray := prog_1_method_26_code
def yX10_undoFault : MethodName := ⟨RX10, "undoFault", "(LRankBook$Post;)I"⟩
abbrev cX10_release : ByteArray := prog_1_method_27_code
def yX10_release : MethodName := ⟨RX10, "release", "(II)Z"⟩
abbrev cX10_strike : ByteArray := prog_1_method_28_code
def yX10_strike : MethodName := ⟨RX10, "strike", "(I)Z"⟩
abbrev cX10_strikeFault : ByteArray := prog_1_method_29_code
def yX10_strikeFault : MethodName := ⟨RX10, "strikeFault", "(LRankBook$Entry;)I"⟩
abbrev cX10_keep : ByteArray := prog_1_method_30_code
def yX10_keep : MethodName := ⟨RX10, "keep", "(II)Z"⟩
abbrev cX10_keepFault : ByteArray := prog_1_method_31_code
def yX10_keepFault : MethodName := ⟨RX10, "keepFault", "(LRankBook$Entry;LRankBook$Entry;)I"⟩
abbrev cX10_many : ByteArray := prog_1_method_32_code
def yX10_many : MethodName := ⟨RX10, "many", "(II)I"⟩
abbrev cX10_list : ByteArray := prog_1_method_33_code
def yX10_list : MethodName := ⟨RX10, "list", "(III)I"⟩
abbrev cX10_rank : ByteArray := prog_1_method_34_code
def yX10_rank : MethodName := ⟨RX10, "rank", "(II)I"⟩
abbrev cX10_why : ByteArray := prog_1_method_35_code
def yX10_why : MethodName := ⟨RX10, "why", "(II)I"⟩
abbrev cX10_as : ByteArray := prog_1_method_36_code
def yX10_as : MethodName := ⟨RX10, "as", "(IIII)I"⟩
abbrev cX10_choose : ByteArray := prog_1_method_37_code
def yX10_choose : MethodName := ⟨RX10, "choose", "(I)Z"⟩
abbrev cX10_nth : ByteArray := prog_1_method_38_code
def yX10_nth : MethodName := ⟨RX10, "nth", "(LRankBook$Folio;ILRankBook$Moment;I)I"⟩
abbrev cX10_standing : ByteArray := prog_1_method_39_code
def yX10_standing : MethodName := ⟨RX10, "standing", "(LRankBook$Entry;I)LRankBook$Whole;"⟩
abbrev cX10_sale : ByteArray := prog_1_method_40_code
def yX10_sale : MethodName := ⟨RX10, "sale", "(IIJJ)J"⟩
abbrev cX10_sell : ByteArray := prog_1_method_41_code
def yX10_sell : MethodName := ⟨RX10, "sell", "(IIJJ)J"⟩
abbrev cX10_offer : ByteArray := prog_1_method_42_code
def yX10_offer : MethodName := ⟨RX10, "offer", "(LRankBook$Folio;IJJ)LRankBook$Sale;"⟩
abbrev cX10_saleFault : ByteArray := prog_1_method_43_code
def yX10_saleFault : MethodName := ⟨RX10, "saleFault", "(LRankBook$Folio;IJJ)I"⟩
abbrev cX10_share : ByteArray := prog_1_method_44_code
def yX10_share : MethodName := ⟨RX10, "share", "(I)J"⟩
abbrev cX10_tell : ByteArray := prog_1_method_45_code
def yX10_tell : MethodName := ⟨RX10, "tell", "(IJ)Z"⟩
abbrev cX10_check : ByteArray := prog_1_method_46_code
def yX10_check : MethodName := ⟨RX10, "check", "(J)I"⟩
abbrev cX10_circle : ByteArray := prog_1_method_47_code
def yX10_circle : MethodName := ⟨RX10, "circle", "(I)I"⟩
abbrev cX10_due : ByteArray := prog_1_method_48_code
def yX10_due : MethodName := ⟨RX10, "due", "(I)J"⟩
abbrev cX10_kind : ByteArray := prog_1_method_49_code
def yX10_kind : MethodName := ⟨RX10, "kind", "(II)I"⟩
abbrev cX10_sum : ByteArray := prog_1_method_50_code
def yX10_sum : MethodName := ⟨RX10, "sum", "(I)J"⟩
abbrev cX10_parcels : ByteArray := prog_1_method_51_code
def yX10_parcels : MethodName := ⟨RX10, "parcels", "(I)J"⟩
abbrev cX10_status : ByteArray := prog_1_method_52_code
def yX10_status : MethodName := ⟨RX10, "status", "()I"⟩
abbrev cX10_count : ByteArray := prog_1_method_53_code
def yX10_count : MethodName := ⟨RX10, "count", "(I)I"⟩
abbrev cX10_settle : ByteArray := prog_1_method_54_code
def yX10_settle : MethodName := ⟨RX10, "settle", "(I)Z"⟩
abbrev cX10_newAct : ByteArray := prog_1_method_55_code
def yX10_newAct : MethodName := ⟨RX10, "newAct", "()LRankBook$Act;"⟩
abbrev cX10_isPastOrToday : ByteArray := prog_1_method_56_code
def yX10_isPastOrToday : MethodName := ⟨RX10, "isPastOrToday", "(I)Z"⟩
abbrev cX10_isSum : ByteArray := prog_1_method_57_code
def yX10_isSum : MethodName := ⟨RX10, "isSum", "(J)Z"⟩
abbrev cX10_liveInOneFolio : ByteArray := prog_1_method_58_code
def yX10_liveInOneFolio : MethodName := ⟨RX10, "liveInOneFolio", "(LRankBook$Whole;LRankBook$Whole;)Z"⟩
abbrev cX10_parcelFault : ByteArray := prog_1_method_59_code
def yX10_parcelFault : MethodName := ⟨RX10, "parcelFault", "(LRankBook$Folio;I)I"⟩
abbrev cX10_lieFault : ByteArray := prog_1_method_60_code
def yX10_lieFault : MethodName := ⟨RX10, "lieFault", "(LRankBook$Entry;I)I"⟩
abbrev cX10_folioAt : ByteArray := prog_1_method_61_code
def yX10_folioAt : MethodName := ⟨RX10, "folioAt", "(I)LRankBook$Folio;"⟩
abbrev cX10_entryAt : ByteArray := prog_1_method_62_code
def yX10_entryAt : MethodName := ⟨RX10, "entryAt", "(I)LRankBook$Entry;"⟩
abbrev cX10_postAt : ByteArray := prog_1_method_63_code
def yX10_postAt : MethodName := ⟨RX10, "postAt", "(I)LRankBook$Post;"⟩
abbrev cX10_addEntry : ByteArray := prog_1_method_64_code
def yX10_addEntry : MethodName := ⟨RX10, "addEntry", "(LRankBook$Entry;)I"⟩
def RX11 : String := "RankBookModel"
def TX11 : u_T := fun k => match k with
  | 0 => ("RankBookModel", "size", "[I", true)
  | 1 => ("RankBookModel", "torn", "[Z", true)
  | 2 => ("RankBookModel", "folios", "I", false)
  | 3 => ("RankBookModel", "kindOf", "[I", true)
  | 4 => ("RankBookModel", "folioOf", "[I", true)
  | 5 => ("RankBookModel", "wholeOf", "[I", true)
  | 6 => ("RankBookModel", "parent", "[I", true)
  | 7 => ("RankBookModel", "ownerOf", "[I", true)
  | 8 => ("RankBookModel", "sumOf", "[J", true)
  | 9 => ("RankBookModel", "first", "[I", true)
  | 10 => ("RankBookModel", "bits", "[J", true)
  | 11 => ("RankBookModel", "rate", "[I", true)
  | 12 => ("RankBookModel", "top", "[J", true)
  | 13 => ("RankBookModel", "dated", "[I", true)
  | 14 => ("RankBookModel", "known", "[I", true)
  | 15 => ("RankBookModel", "struckDated", "[I", true)
  | 16 => ("RankBookModel", "struckKnown", "[I", true)
  | 17 => ("RankBookModel", "runs", "[I", true)
  | 18 => ("RankBookModel", "touched", "[Z", true)
  | 19 => ("RankBookModel", "noPaper", "[Z", true)
  | 20 => ("RankBookModel", "from", "[I", true)
  | 21 => ("RankBookModel", "years", "[I", true)
  | 22 => ("RankBookModel", "claimDated", "[I", true)
  | 23 => ("RankBookModel", "claimKnown", "[I", true)
  | 24 => ("RankBookModel", "keeps", "[I", true)
  | 25 => ("RankBookModel", "keptBy", "[I", true)
  | 26 => ("RankBookModel", "keptDated", "[I", true)
  | 27 => ("RankBookModel", "keptKnown", "[I", true)
  | 28 => ("RankBookModel", "offDated", "[I", true)
  | 29 => ("RankBookModel", "offKnown", "[I", true)
  | 30 => ("RankBookModel", "entries", "I", false)
  | 31 => ("RankBookModel", "postA", "[I", true)
  | 32 => ("RankBookModel", "postB", "[I", true)
  | 33 => ("RankBookModel", "limit", "[J", true)
  | 34 => ("RankBookModel", "postDated", "[I", true)
  | 35 => ("RankBookModel", "postKnown", "[I", true)
  | 36 => ("RankBookModel", "undoneDated", "[I", true)
  | 37 => ("RankBookModel", "undoneKnown", "[I", true)
  | 38 => ("RankBookModel", "posts", "I", false)
  | 39 => ("RankBookModel", "today", "I", false)
  | 40 => ("RankBookModel", "told", "I", false)
  | 41 => ("RankBookModel", "status", "I", false)
  | 42 => ("RankBookModel", "chosen", "I", false)
  | 43 => ("RankBookModel", "sold", "I", false)
  | 44 => ("RankBookModel", "circles", "I", false)
  | 45 => ("RankBookModel", "day", "I", false)
  | 46 => ("RankBookModel", "as", "I", false)
  | 47 => ("RankBookModel", "leaf", "[I", true)
  | 48 => ("RankBookModel", "leaves", "I", false)
  | 49 => ("RankBookModel", "dueOf", "[J", true)
  | 50 => ("RankBookModel", "far", "[I", true)
  | 51 => ("RankBookModel", "ring", "[I", true)
  | 52 => ("RankBookModel", "ringMany", "I", false)
  | 53 => ("RankBookModel", "placeOf", "[I", true)
  | 54 => ("RankBookModel", "byCaution", "[Z", true)
  | 55 => ("RankBookModel", "order", "[I", true)
  | 56 => ("RankBookModel", "swaps", "[I", true)
  | 57 => ("RankBookModel", "places", "I", false)
  | 58 => ("RankBookModel", "stands", "I", false)
  | 59 => ("RankBookModel", "got", "[J", true)
  | 60 => ("RankBookModel", "dues", "[J", true)
  | 61 => ("RankBookModel", "counted", "[Z", true)
  | 62 => ("RankBookModel", "shares", "[J", true)
  | 63 => ("RankBookModel", "toldShares", "[J", true)
  | _ => ("RankBookModel", "owner", "J", false)
def tyX11 : Nat → FieldType := fun k => match k with
  | 0 => .array .int
  | 1 => .array .boolean
  | 2 => .int
  | 3 => .array .int
  | 4 => .array .int
  | 5 => .array .int
  | 6 => .array .int
  | 7 => .array .int
  | 8 => .array .long
  | 9 => .array .int
  | 10 => .array .long
  | 11 => .array .int
  | 12 => .array .long
  | 13 => .array .int
  | 14 => .array .int
  | 15 => .array .int
  | 16 => .array .int
  | 17 => .array .int
  | 18 => .array .boolean
  | 19 => .array .boolean
  | 20 => .array .int
  | 21 => .array .int
  | 22 => .array .int
  | 23 => .array .int
  | 24 => .array .int
  | 25 => .array .int
  | 26 => .array .int
  | 27 => .array .int
  | 28 => .array .int
  | 29 => .array .int
  | 30 => .int
  | 31 => .array .int
  | 32 => .array .int
  | 33 => .array .long
  | 34 => .array .int
  | 35 => .array .int
  | 36 => .array .int
  | 37 => .array .int
  | 38 => .int
  | 39 => .int
  | 40 => .int
  | 41 => .int
  | 42 => .int
  | 43 => .int
  | 44 => .int
  | 45 => .int
  | 46 => .int
  | 47 => .array .int
  | 48 => .int
  | 49 => .array .long
  | 50 => .array .int
  | 51 => .array .int
  | 52 => .int
  | 53 => .array .int
  | 54 => .array .boolean
  | 55 => .array .int
  | 56 => .array .int
  | 57 => .int
  | 58 => .int
  | 59 => .array .long
  | 60 => .array .long
  | 61 => .array .boolean
  | 62 => .array .long
  | 63 => .array .long
  | _ => .long
abbrev wsX110 : List Cond := u_ws RX11 TX11 65
theorem nmX11 : ∀ a, a < 65 → ∀ b, b < 65 → a ≠ b → (TX11 a).2.1 ≠ (TX11 b).2.1 := by decide +kernel
theorem tyX11_ok : ∀ k, k < 65 → parseFieldDescriptor (TX11 k).2.2.1 = some (tyX11 k) := by decide +kernel
abbrev cX11_init : ByteArray := prog_13_method_1_code
def yX11_init : MethodName := ⟨RX11, "<init>", "()V"⟩
abbrev cX11_refuse : ByteArray := prog_13_method_2_code
def yX11_refuse : MethodName := ⟨RX11, "refuse", "(I)I"⟩
abbrev cX11_no : ByteArray := prog_13_method_3_code
def yX11_no : MethodName := ⟨RX11, "no", "(I)Z"⟩
abbrev cX11_dateNow : ByteArray := prog_13_method_4_code
def yX11_dateNow : MethodName := ⟨RX11, "dateNow", "()I"⟩
abbrev cX11_isEntry : ByteArray := prog_13_method_5_code
def yX11_isEntry : MethodName := ⟨RX11, "isEntry", "(I)Z"⟩
abbrev cX11_wrong : ByteArray := prog_13_method_6_code
def yX11_wrong : MethodName := ⟨RX11, "wrong", "(II)I"⟩
abbrev cX11_view : ByteArray := prog_13_method_7_code
def yX11_view : MethodName := ⟨RX11, "view", "(II)V"⟩
abbrev cX11_now : ByteArray := prog_13_method_8_code
def yX11_now : MethodName := ⟨RX11, "now", "()V"⟩
abbrev cX11_counts : ByteArray := prog_13_method_9_code
def yX11_counts : MethodName := ⟨RX11, "counts", "(II)Z"⟩
abbrev cX11_lives : ByteArray := prog_13_method_10_code
def yX11_lives : MethodName := ⟨RX11, "lives", "(I)Z"⟩
abbrev cX11_isOff : ByteArray := prog_13_method_11_code
def yX11_isOff : MethodName := ⟨RX11, "isOff", "(II)Z"⟩
abbrev cX11_hasLeafOn : ByteArray := prog_13_method_12_code
def yX11_hasLeafOn : MethodName := ⟨RX11, "hasLeafOn", "(II)Z"⟩
abbrev cX11_lies : ByteArray := prog_13_method_13_code
def yX11_lies : MethodName := ⟨RX11, "lies", "(II)Z"⟩
abbrev cX11_gather : ByteArray := prog_13_method_14_code
def yX11_gather : MethodName := ⟨RX11, "gather", "(I)V"⟩
abbrev cX11_leavesOf : ByteArray := prog_13_method_15_code
def yX11_leavesOf : MethodName := ⟨RX11, "leavesOf", "(I)V"⟩
abbrev cX11_sumBelow : ByteArray := prog_13_method_16_code
def yX11_sumBelow : MethodName := ⟨RX11, "sumBelow", "(I)J"⟩
abbrev cX11_dueOfSum : ByteArray := prog_13_method_17_code
def yX11_dueOfSum : MethodName := ⟨RX11, "dueOfSum", "(IJ)J"⟩
abbrev cX11_dues : ByteArray := prog_13_method_18_code
def yX11_dues : MethodName := ⟨RX11, "dues", "(I)V"⟩
abbrev cX11_due : ByteArray := prog_13_method_19_code
def yX11_due : MethodName := ⟨RX11, "due", "(I)J"⟩
abbrev cX11_folio : ByteArray := prog_13_method_20_code
def yX11_folio : MethodName := ⟨RX11, "folio", "(I)I"⟩
abbrev cX11_tear : ByteArray := prog_13_method_21_code
def yX11_tear : MethodName := ⟨RX11, "tear", "(II)Z"⟩
abbrev cX11_day : ByteArray := prog_13_method_22_code
def yX11_day : MethodName := ⟨RX11, "day", "(I)Z"⟩
abbrev cX11_since : ByteArray := prog_13_method_23_code
def yX11_since : MethodName := ⟨RX11, "since", "(I)Z"⟩
abbrev cX11_make : ByteArray := prog_13_method_24_code
def yX11_make : MethodName := ⟨RX11, "make", "(IIIIIJ)I"⟩
abbrev cX11_wrongBits : ByteArray := prog_13_method_25_code
def yX11_wrongBits : MethodName := ⟨RX11, "wrongBits", "(IJ)I"⟩
abbrev cX11_enter : ByteArray := prog_13_method_26_code
def yX11_enter : MethodName := ⟨RX11, "enter", "(IIJIJ)I"⟩
abbrev cX11_claim : ByteArray := prog_13_method_27_code
def yX11_claim : MethodName := ⟨RX11, "claim", "(III)Z"⟩
abbrev cX11_livesNow : ByteArray := prog_13_method_28_code
def yX11_livesNow : MethodName := ⟨RX11, "livesNow", "(I)Z"⟩
abbrev cX11_owe : ByteArray := prog_13_method_29_code
def yX11_owe : MethodName := ⟨RX11, "owe", "(IJ)Z"⟩
abbrev cX11_pay : ByteArray := prog_13_method_30_code
def yX11_pay : MethodName := ⟨RX11, "pay", "(IJ)J"⟩
abbrev cX11_paper : ByteArray := prog_13_method_31_code
def yX11_paper : MethodName := ⟨RX11, "paper", "(IZ)Z"⟩
abbrev cX11_parting : ByteArray := prog_13_method_32_code
def yX11_parting : MethodName := ⟨RX11, "parting", "(IJIZ)I"⟩
abbrev cX11_part : ByteArray := prog_13_method_33_code
def yX11_part : MethodName := ⟨RX11, "part", "(IJI)I"⟩
abbrev cX11_split : ByteArray := prog_13_method_34_code
def yX11_split : MethodName := ⟨RX11, "split", "(IJ)I"⟩
abbrev cX11_hand : ByteArray := prog_13_method_35_code
def yX11_hand : MethodName := ⟨RX11, "hand", "(IJI)I"⟩
abbrev cX11_isUndone : ByteArray := prog_13_method_36_code
def yX11_isUndone : MethodName := ⟨RX11, "isUndone", "(I)Z"⟩
abbrev cX11_measure : ByteArray := prog_13_method_37_code
def yX11_measure : MethodName := ⟨RX11, "measure", "(I)V"⟩
abbrev cX11_draw : ByteArray := prog_13_method_38_code
def yX11_draw : MethodName := ⟨RX11, "draw", "(II)V"⟩
abbrev cX11_post : ByteArray := prog_13_method_39_code
def yX11_post : MethodName := ⟨RX11, "post", "(IIJ)I"⟩
abbrev cX11_circle : ByteArray := prog_13_method_40_code
def yX11_circle : MethodName := ⟨RX11, "circle", "(I)I"⟩
abbrev cX11_undo : ByteArray := prog_13_method_41_code
def yX11_undo : MethodName := ⟨RX11, "undo", "(I)Z"⟩
abbrev cX11_release : ByteArray := prog_13_method_42_code
def yX11_release : MethodName := ⟨RX11, "release", "(II)Z"⟩
abbrev cX11_strike : ByteArray := prog_13_method_43_code
def yX11_strike : MethodName := ⟨RX11, "strike", "(I)Z"⟩
abbrev cX11_keep : ByteArray := prog_13_method_44_code
def yX11_keep : MethodName := ⟨RX11, "keep", "(II)Z"⟩
abbrev cX11_isFirst : ByteArray := prog_13_method_45_code
def yX11_isFirst : MethodName := ⟨RX11, "isFirst", "(I)Z"⟩
abbrev cX11_whose : ByteArray := prog_13_method_46_code
def yX11_whose : MethodName := ⟨RX11, "whose", "(I)I"⟩
abbrev cX11_isAhead : ByteArray := prog_13_method_47_code
def yX11_isAhead : MethodName := ⟨RX11, "isAhead", "(IIZ)Z"⟩
abbrev cX11_stand : ByteArray := prog_13_method_48_code
def yX11_stand : MethodName := ⟨RX11, "stand", "(IZ)V"⟩
abbrev cX11_placesOn : ByteArray := prog_13_method_49_code
def yX11_placesOn : MethodName := ⟨RX11, "placesOn", "(II)V"⟩
abbrev cX11_isPosted : ByteArray := prog_13_method_50_code
def yX11_isPosted : MethodName := ⟨RX11, "isPosted", "(II)Z"⟩
abbrev cX11_standsAt : ByteArray := prog_13_method_51_code
def yX11_standsAt : MethodName := ⟨RX11, "standsAt", "(I)I"⟩
abbrev cX11_orderOn : ByteArray := prog_13_method_52_code
def yX11_orderOn : MethodName := ⟨RX11, "orderOn", "(II)V"⟩
abbrev cX11_many : ByteArray := prog_13_method_53_code
def yX11_many : MethodName := ⟨RX11, "many", "(II)I"⟩
abbrev cX11_list : ByteArray := prog_13_method_54_code
def yX11_list : MethodName := ⟨RX11, "list", "(III)I"⟩
abbrev cX11_isRanked : ByteArray := prog_13_method_55_code
def yX11_isRanked : MethodName := ⟨RX11, "isRanked", "(II)Z"⟩
abbrev cX11_rank : ByteArray := prog_13_method_56_code
def yX11_rank : MethodName := ⟨RX11, "rank", "(II)I"⟩
abbrev cX11_why : ByteArray := prog_13_method_57_code
def yX11_why : MethodName := ⟨RX11, "why", "(II)I"⟩
abbrev cX11_as : ByteArray := prog_13_method_58_code
def yX11_as : MethodName := ⟨RX11, "as", "(IIII)I"⟩
abbrev cX11_choose : ByteArray := prog_13_method_59_code
def yX11_choose : MethodName := ⟨RX11, "choose", "(I)Z"⟩
abbrev cX11_dueIn : ByteArray := prog_13_method_60_code
def yX11_dueIn : MethodName := ⟨RX11, "dueIn", "(I)J"⟩
abbrev cX11_gotBy : ByteArray := prog_13_method_61_code
def yX11_gotBy : MethodName := ⟨RX11, "gotBy", "(I)J"⟩
abbrev cX11_gets : ByteArray := prog_13_method_62_code
def yX11_gets : MethodName := ⟨RX11, "gets", "(IJ)V"⟩
abbrev cX11_gives : ByteArray := prog_13_method_63_code
def yX11_gives : MethodName := ⟨RX11, "gives", "(IJ)V"⟩
abbrev cX11_prepare : ByteArray := prog_13_method_64_code
def yX11_prepare : MethodName := ⟨RX11, "prepare", "(I)V"⟩
abbrev cX11_give : ByteArray := prog_13_method_65_code
def yX11_give : MethodName := ⟨RX11, "give", "(IIJJ)J"⟩
abbrev cX11_wrongSale : ByteArray := prog_13_method_66_code
def yX11_wrongSale : MethodName := ⟨RX11, "wrongSale", "(IIJJ)I"⟩
abbrev cX11_sale : ByteArray := prog_13_method_67_code
def yX11_sale : MethodName := ⟨RX11, "sale", "(IIJJ)J"⟩
abbrev cX11_sell : ByteArray := prog_13_method_68_code
def yX11_sell : MethodName := ⟨RX11, "sell", "(IIJJ)J"⟩
abbrev cX11_share : ByteArray := prog_13_method_69_code
def yX11_share : MethodName := ⟨RX11, "share", "(I)J"⟩
abbrev cX11_tell : ByteArray := prog_13_method_70_code
def yX11_tell : MethodName := ⟨RX11, "tell", "(IJ)Z"⟩
abbrev cX11_check : ByteArray := prog_13_method_71_code
def yX11_check : MethodName := ⟨RX11, "check", "(J)I"⟩
abbrev cX11_kind : ByteArray := prog_13_method_72_code
def yX11_kind : MethodName := ⟨RX11, "kind", "(II)I"⟩
abbrev cX11_sum : ByteArray := prog_13_method_73_code
def yX11_sum : MethodName := ⟨RX11, "sum", "(I)J"⟩
abbrev cX11_parcels : ByteArray := prog_13_method_74_code
def yX11_parcels : MethodName := ⟨RX11, "parcels", "(I)J"⟩
abbrev cX11_status : ByteArray := prog_13_method_75_code
def yX11_status : MethodName := ⟨RX11, "status", "()I"⟩
abbrev cX11_count : ByteArray := prog_13_method_76_code
def yX11_count : MethodName := ⟨RX11, "count", "(I)I"⟩
def RJ9 : String := "java/lang/Math"
def TJ9 : u_T := fun k => match k with
  | _ => ("", "", "", false)
def tyJ9 : Nat → FieldType := fun k => match k with
  | _ => .int
abbrev wsJ90 : List Cond := u_ws RJ9 TJ9 0
theorem nmJ9 : ∀ a, a < 0 → ∀ b, b < 0 → a ≠ b → (TJ9 a).2.1 ≠ (TJ9 b).2.1 := by decide +kernel
theorem tyJ9_ok : ∀ k, k < 0 → parseFieldDescriptor (TJ9 k).2.2.1 = some (tyJ9 k) := by decide +kernel
abbrev cJ9_max_7cf53 : ByteArray := prog_14_method_65_code
def yJ9_max_7cf53 : MethodName := ⟨RJ9, "max", "(II)I"⟩
abbrev cJ9_min_7cf53 : ByteArray := prog_14_method_69_code
def yJ9_min_7cf53 : MethodName := ⟨RJ9, "min", "(II)I"⟩
abbrev cJ9_min_f86c9 : ByteArray := prog_14_method_70_code
def yJ9_min_f86c9 : MethodName := ⟨RJ9, "min", "(JJ)J"⟩
def RL : String := "RankBookLaw"
abbrev cL_law : ByteArray := code
def yL_law : MethodName := ⟨RL, "law", "([I)Z"⟩
end
section
/-! ===== the world by maps, and its tie to the kit's pools ===== -/
abbrev cls : List vw_C := [(RX0, TX0, 2), (RX1, TX1, 3), (RX2, TX2, 13), (RX3, TX3, 5), (RX4, TX4, 2), (RX5, TX5, 7), (RX6, TX6, 5), (RX7, TX7, 2), (RX8, TX8, 8), (RX9, TX9, 17), (RX10, TX10, 14), (RX11, TX11, 65)]
def cR (ci : Nat) : String := match ci with
  | 0 => RX0 | 1 => RX1 | 2 => RX2 | 3 => RX3 | 4 => RX4 | 5 => RX5 | 6 => RX6 | 7 => RX7 | 8 => RX8 | 9 => RX9 | 10 => RX10 | _ => RX11
def cT (ci : Nat) : u_T := match ci with
  | 0 => TX0 | 1 => TX1 | 2 => TX2 | 3 => TX3 | 4 => TX4 | 5 => TX5 | 6 => TX6 | 7 => TX7 | 8 => TX8 | 9 => TX9 | 10 => TX10 | _ => TX11
def cY (ci : Nat) : Nat → FieldType := match ci with
  | 0 => tyX0 | 1 => tyX1 | 2 => tyX2 | 3 => tyX3 | 4 => tyX4 | 5 => tyX5 | 6 => tyX6 | 7 => tyX7 | 8 => tyX8 | 9 => tyX9 | 10 => tyX10 | _ => tyX11
def cN (ci : Nat) : Nat := match ci with
  | 0 => 2 | 1 => 3 | 2 => 13 | 3 => 5 | 4 => 2 | 5 => 7 | 6 => 5 | 7 => 2 | 8 => 8 | 9 => 17 | 10 => 14 | _ => 65
theorem cls_get : ∀ ci, ci < 12 → cls[ci]? = some (cR ci, cT ci, cN ci) := by
  intro ci h
  match ci, h with
  | 0, _ => rfl | 1, _ => rfl | 2, _ => rfl | 3, _ => rfl | 4, _ => rfl | 5, _ => rfl | 6, _ => rfl | 7, _ => rfl | 8, _ => rfl | 9, _ => rfl | 10, _ => rfl | 11, _ => rfl
  | n + 12, h => omega
theorem cls_nm : ∀ ci, ci < 12 → ∀ a, a < cN ci → ∀ b, b < cN ci → a ≠ b → (cT ci a).2.1 ≠ (cT ci b).2.1 := by
  intro ci h
  match ci, h with
  | 0, _ => exact nmX0 | 1, _ => exact nmX1 | 2, _ => exact nmX2 | 3, _ => exact nmX3 | 4, _ => exact nmX4 | 5, _ => exact nmX5 | 6, _ => exact nmX6 | 7, _ => exact nmX7 | 8, _ => exact nmX8 | 9, _ => exact nmX9 | 10, _ => exact nmX10 | 11, _ => exact nmX11
  | n + 12, h => omega
theorem cls_ty : ∀ ci, ci < 12 → ∀ k, k < cN ci → parseFieldDescriptor (cT ci k).2.2.1 = some (cY ci k) := by
  intro ci h
  match ci, h with
  | 0, _ => exact tyX0_ok | 1, _ => exact tyX1_ok | 2, _ => exact tyX2_ok | 3, _ => exact tyX3_ok | 4, _ => exact tyX4_ok | 5, _ => exact tyX5_ok | 6, _ => exact tyX6_ok | 7, _ => exact tyX7_ok | 8, _ => exact tyX8_ok | 9, _ => exact tyX9_ok | 10, _ => exact tyX10_ok | 11, _ => exact tyX11_ok
  | n + 12, h => omega
set_option maxRecDepth 100000 in
theorem cls_in0 : ∀ ci, ci < 12 → ∀ w ∈ u_ws (cR ci) (cT ci) (cN ci), w ∈ lw_tbl := by
  intro ci h
  match ci, h with
  | 0, _ => decide +kernel
  | 1, _ => decide +kernel
  | 2, _ => decide +kernel
  | 3, _ => decide +kernel
  | 4, _ => decide +kernel
  | 5, _ => decide +kernel
  | 6, _ => decide +kernel
  | 7, _ => decide +kernel
  | 8, _ => decide +kernel
  | 9, _ => decide +kernel
  | 10, _ => decide +kernel
  | 11, _ => decide +kernel
  | n + 12, h => omega
/-- the words that pass on to a callee as they are -/
def tb : List Cond := lw_tbl.filter goodWord
theorem tb_of {w : Cond} (h : w ∈ lw_tbl) (hg : goodWord w = true) : w ∈ tb := List.mem_filter.mpr ⟨h, hg⟩
theorem tb_at {w : Cond} (i : Nat) (h : tables_1[i]? = some w) (hg : goodWord w = true) : w ∈ tb := tb_of (List.mem_append_right _ (List.mem_of_getElem? h)) hg
theorem tb_sel {w : Cond} (i : Nat) (h : (k2_sels lw_privs)[i]? = some w) (hg : goodWord w = true) : w ∈ tb := tb_of (List.mem_append_left _ (List.mem_of_getElem? h)) hg
theorem cls_inG : ∀ ci, ci < 12 → (u_ws (cR ci) (cT ci) (cN ci)).all goodWord = true := by
  intro ci h
  match ci, h with
  | 0, _ => decide +kernel
  | 1, _ => decide +kernel
  | 2, _ => decide +kernel
  | 3, _ => decide +kernel
  | 4, _ => decide +kernel
  | 5, _ => decide +kernel
  | 6, _ => decide +kernel
  | 7, _ => decide +kernel
  | 8, _ => decide +kernel
  | 9, _ => decide +kernel
  | 10, _ => decide +kernel
  | 11, _ => decide +kernel
  | n + 12, h => omega
theorem cls_in : ∀ ci, ci < 12 → ∀ w ∈ u_ws (cR ci) (cT ci) (cN ci), w ∈ tb := fun ci h w hw => tb_of (cls_in0 ci h w hw) (List.all_eq_true.mp (cls_inG ci h) w hw)
theorem cls_inst0 : ∀ ci, ci < 12 → Cond.instantiable (cR ci) (cN ci) ∈ lw_tbl ∧ Cond.initialized (cR ci) ∈ lw_tbl := by
  intro ci h
  match ci, h with
  | 0, _ => decide +kernel
  | 1, _ => decide +kernel
  | 2, _ => decide +kernel
  | 3, _ => decide +kernel
  | 4, _ => decide +kernel
  | 5, _ => decide +kernel
  | 6, _ => decide +kernel
  | 7, _ => decide +kernel
  | 8, _ => decide +kernel
  | 9, _ => decide +kernel
  | 10, _ => decide +kernel
  | 11, _ => decide +kernel
  | n + 12, h => omega
theorem cls_inst (ci : Nat) (h : ci < 12) : Cond.instantiable (cR ci) (cN ci) ∈ tb ∧ Cond.initialized (cR ci) ∈ tb := ⟨tb_of (cls_inst0 ci h).1 rfl, tb_of (cls_inst0 ci h).2 rfl⟩
/-- values: an int, a long, a reference (0 is null, a + 1 the cell a) -/
abbrev Av : Type := Int32 ⊕ Int64 ⊕ Nat
abbrev vI (x : Int32) : Av := .inl x
abbrev vJ (x : Int64) : Av := .inr (.inl x)
abbrev vR (a : Nat) : Av := .inr (.inr a)
def nz (a : Nat) : Option Nat := if a = 0 then none else some (a - 1)
def rn (a : Nat) : Value := va_rf (nz a)
def tv (v : Av) : Value := match v with
  | .inl x => .int x
  | .inr (.inl x) => .long x
  | .inr (.inr a) => rn a
theorem nz_0 : nz 0 = none := rfl
theorem nz_ne {a : Nat} (h : a ≠ 0) : nz a = some (a - 1) := by simp [nz, h]
theorem rn_0 : rn 0 = .null := rfl
theorem rn_ne {a : Nat} (h : a ≠ 0) : rn a = .ref (a - 1) := by simp [rn, nz, h, va_rf]
theorem nz_inj {a b : Nat} : nz a = nz b ↔ a = b := by
  unfold nz
  by_cases h1 : a = 0 <;> by_cases h2 : b = 0 <;> simp [h1, h2] <;> omega
def cat (v : Av) : Nat := match v with
  | .inl _ => 1
  | .inr (.inl _) => 2
  | .inr (.inr _) => 1
def isJ (v : Av) : Bool := match v with
  | .inl _ => false
  | .inr (.inl _) => true
  | .inr (.inr _) => false
theorem rn_cat (a : Nat) : (rn a).category = 1 := by
  by_cases h : a = 0
  · subst h; rfl
  · rw [rn_ne h]; rfl
theorem cat_tv (v : Av) : (tv v).category = cat v := by
  rcases v with x | x | a
  · rfl
  · rfl
  · exact rn_cat a
theorem cat_J (v : Av) : cat v = if isJ v then 2 else 1 := by rcases v with x | x | a <;> rfl
/-- the world: kinds of the addresses (0: none; c+1: an object of class c; 13 int[], 14 long[], 15 boolean[], 16 Act[], 17 Entry[], 18 Folio[]), fields of ints, longs, references, lengths, contents of ints, longs, references -/
abbrev Wd : Type := (Nat → Nat) × (Nat → Nat → Nat → Int32) × (Nat → Nat → Nat → Int64) × (Nat → Nat → Nat → Nat) × (Nat → Nat) × (Nat → Nat → Int32) × (Nat → Nat → Int64) × (Nat → Nat → Nat)
def wK (w : Wd) : Nat → Nat := w.1
def wI (w : Wd) : Nat → Nat → Nat → Int32 := w.2.1
def wJ (w : Wd) : Nat → Nat → Nat → Int64 := w.2.2.1
def wR (w : Wd) : Nat → Nat → Nat → Nat := w.2.2.2.1
def wL (w : Wd) : Nat → Nat := w.2.2.2.2.1
def xI (w : Wd) : Nat → Nat → Int32 := w.2.2.2.2.2.1
def xJ (w : Wd) : Nat → Nat → Int64 := w.2.2.2.2.2.2.1
def xR (w : Wd) : Nat → Nat → Nat := w.2.2.2.2.2.2.2
def u3 {α : Type} (f : Nat → Nat → Nat → α) (c k a : Nat) (v : α) : Nat → Nat → Nat → α := fun c' k' a' => if c' = c ∧ k' = k ∧ a' = a then v else f c' k' a'
def u2 {α : Type} (f : Nat → Nat → α) (a i : Nat) (v : α) : Nat → Nat → α := fun a' i' => if a' = a ∧ i' = i then v else f a' i'
def z3 {α : Type} (f : Nat → Nat → Nat → α) (q : Nat) (v : α) : Nat → Nat → Nat → α := fun c' k' a' => if a' = q then v else f c' k' a'
def z2 {α : Type} (f : Nat → Nat → α) (q : Nat) (v : α) : Nat → Nat → α := fun a' i' => if a' = q then v else f a' i'
def sI (w : Wd) (c k a : Nat) (v : Int32) : Wd := (w.1, u3 w.2.1 c k a v, w.2.2)
def sJ (w : Wd) (c k a : Nat) (v : Int64) : Wd := (w.1, w.2.1, u3 w.2.2.1 c k a v, w.2.2.2)
def sR (w : Wd) (c k a : Nat) (v : Nat) : Wd := (w.1, w.2.1, w.2.2.1, u3 w.2.2.2.1 c k a v, w.2.2.2.2)
def yI (w : Wd) (a i : Nat) (v : Int32) : Wd := (w.1, w.2.1, w.2.2.1, w.2.2.2.1, w.2.2.2.2.1, u2 w.2.2.2.2.2.1 a i v, w.2.2.2.2.2.2)
def yJ (w : Wd) (a i : Nat) (v : Int64) : Wd := (w.1, w.2.1, w.2.2.1, w.2.2.2.1, w.2.2.2.2.1, w.2.2.2.2.2.1, u2 w.2.2.2.2.2.2.1 a i v, w.2.2.2.2.2.2.2)
def yR (w : Wd) (a i : Nat) (v : Nat) : Wd := (w.1, w.2.1, w.2.2.1, w.2.2.2.1, w.2.2.2.2.1, w.2.2.2.2.2.1, w.2.2.2.2.2.2.1, u2 w.2.2.2.2.2.2.2 a i v)
def nO (w : Wd) (ci q : Nat) : Wd := (va_up w.1 q (ci + 1), z3 w.2.1 q 0, z3 w.2.2.1 q 0, z3 w.2.2.2.1 q 0, w.2.2.2.2)
def nA (w : Wd) (t q n : Nat) : Wd := (va_up w.1 q t, w.2.1, w.2.2.1, w.2.2.2.1, va_up w.2.2.2.2.1 q n, z2 w.2.2.2.2.2.1 q 0, z2 w.2.2.2.2.2.2.1 q 0, z2 w.2.2.2.2.2.2.2 q 0)
def fk (t : FieldType) : Nat := match t with
  | .long => 1
  | .object _ => 2
  | .array _ => 2
  | _ => 0
def fv (w : Wd) (ci k a : Nat) : Value := match fk (cY ci k) with
  | 1 => .long (wJ w ci k a)
  | 2 => rn (wR w ci k a)
  | _ => .int (wI w ci k a)
def fl (w : Wd) (ci a : Nat) : List Value := (List.range (cN ci)).map (fun k => fv w ci k a)
def ac (w : Wd) (t a : Nat) : (Nat → Int32) ⊕ (Nat → Int64) ⊕ (Nat → UInt32) ⊕ (Nat → UInt64) ⊕ (Nat → Option Nat) :=
  if t = 13 ∨ t = 15 then .inl (xI w a) else if t = 14 then .inr (.inl (xJ w a)) else .inr (.inr (.inr (.inr (fun i => nz (xR w a i)))))
def wF (cy : Nat → ClassId) (w : Wd) (a : Nat) : va_E := if wK w a ≤ 12 then .inr (wK w a - 1, fl w (wK w a - 1) a) else .inl (cy (wK w a), wL w a, ac w (wK w a) a)
/-- the claim's context: launch, slots of the classes, array classes, the first heap -/
abbrev Cx : Type := Launch × va_G × (Nat → ClassId) × Heap
abbrev Fr (X : Cx) : Nat → Prop := fun q => X.2.2.2.size ≤ q
def tyA (t : Nat) : FieldType := match t with
  | 13 => .int | 14 => .long | 15 => .boolean | 16 => .object RX0 | 17 => .object RX2 | _ => .object RX3
abbrev tysX (X : Cx) : List (ClassId × FieldType) := [(X.2.2.1 13, .int), (X.2.2.1 14, .long), (X.2.2.1 15, .boolean), (X.2.2.1 16, .object RX0), (X.2.2.1 17, .object RX2), (X.2.2.1 18, .object RX3)]
theorem tysX_get (X : Cx) : ∀ t, 13 ≤ t → t < 19 → (tysX X)[t - 13]? = some (X.2.2.1 t, tyA t) := by
  intro t h1 h2
  match t, h1, h2 with
  | 13, _, _ => rfl | 14, _, _ => rfl | 15, _, _ => rfl | 16, _, _ => rfl | 17, _, _ => rfl | 18, _, _ => rfl
  | n + 19, h1, h2 => omega
def wG (cy : Nat → ClassId) (w : Wd) (q : Nat) : va_E := wF cy w (q + 1)
theorem wG_s {cy : Nat → ClassId} {w : Wd} {a : Nat} (h : a ≠ 0) : wG cy w (a - 1) = wF cy w a := by
  unfold wG
  rw [Nat.sub_add_cancel (by omega)]
/-- the heap holds the world -/
def Rh (X : Cx) (w : Wd) (H : Heap) : Prop := ∃ L : List Nat, va_P X.2.1 cls (va_pl L (wG X.2.2.1 w)) H ∧ va_D (Fr X) (va_pl L (wG X.2.2.1 w)) ∧ ∀ a, wK w a ≠ 0 → a ≠ 0 ∧ a - 1 ∈ L
theorem Rh.ne {X : Cx} {w : Wd} {H : Heap} (h : Rh X w H) (h0 : 0 < X.2.2.2.size) {a : Nat} (ha : wK w a ≠ 0) : a ≠ 0 := by
  obtain ⟨L, hP, hD, hL⟩ := h
  exact (hL a ha).1
theorem fl_get {w : Wd} {ci a k : Nat} (h : k < cN ci) : (fl w ci a)[k]? = some (fv w ci k a) := by
  simp [fl, h]
theorem fl_len (w : Wd) (ci a : Nat) : (fl w ci a).length = cN ci := by simp [fl]
theorem fl_set {w w' : Wd} {ci a k : Nat} {v : Value} (hv : fv w' ci k a = v) (ho : ∀ j, j ≠ k → fv w' ci j a = fv w ci j a) : (fl w ci a).set k v = fl w' ci a := by
  apply List.ext_getElem?
  intro j
  rw [List.getElem?_set]
  simp only [fl, List.getElem?_map, List.length_map, List.length_range]
  by_cases hj : k = j
  · subst hj
    by_cases hk : k < cN ci
    · simp [hk, hv]
    · simp [hk]
  · rw [if_neg hj]
    by_cases hk : j < cN ci
    · simp [hk, ho j (fun e => hj e.symm)]
    · simp [hk]
theorem wF_obj {cy : Nat → ClassId} {w : Wd} {a ci : Nat} (h : wK w a = ci + 1) (hc : ci < 12) : wF cy w a = .inr (ci, fl w ci a) := by
  simp only [wF, h]
  rw [if_pos (by omega)]
  rfl
theorem wF_arr {cy : Nat → ClassId} {w : Wd} {a t : Nat} (h : wK w a = t) (ht : 13 ≤ t) : wF cy w a = .inl (cy t, wL w a, ac w t a) := by
  simp only [wF, h]
  rw [if_neg (by omega)]
/-- two worlds that are one but at an address -/
theorem wG_up {cy : Nat → ClassId} {w w' : Wd} {a : Nat} {e : va_E} (ho : ∀ b, b ≠ a → wG cy w' b = wG cy w b) (he : wG cy w' a = e) : ∀ b, va_up (wG cy w) a e b = wG cy w' b := by
  intro b
  unfold va_up
  by_cases hb : b = a
  · subst hb; rw [if_pos rfl]; exact he.symm
  · rw [if_neg hb]; exact (ho b hb).symm
/-- they look the same from an address -/
def eqAt (w w' : Wd) (b : Nat) : Prop := wK w' b = wK w b ∧ (∀ c k, wI w' c k b = wI w c k b) ∧ (∀ c k, wJ w' c k b = wJ w c k b) ∧ (∀ c k, wR w' c k b = wR w c k b) ∧ wL w' b = wL w b ∧ xI w' b = xI w b ∧ xJ w' b = xJ w b ∧ xR w' b = xR w b
theorem eqAt.F {cy : Nat → ClassId} {w w' : Wd} {b : Nat} (h : eqAt w w' b) : wF cy w' b = wF cy w b := by
  obtain ⟨h1, h2, h3, h4, h5, h6, h7, h8⟩ := h
  have hf : ∀ ci, fl w' ci b = fl w ci b := fun ci => by
    unfold fl fv
    simp only [h2, h3, h4]
  unfold wF ac
  simp only [h1, h5, h6, h7, h8, hf]
theorem eqAt_sI {w : Wd} {c k a b : Nat} {v : Int32} (h : b ≠ a) : eqAt w (sI w c k a v) b := by
  refine ⟨rfl, fun c' k' => ?_, fun _ _ => rfl, fun _ _ => rfl, rfl, rfl, rfl, rfl⟩
  simp [wI, sI, u3, h]
theorem eqAt_sJ {w : Wd} {c k a b : Nat} {v : Int64} (h : b ≠ a) : eqAt w (sJ w c k a v) b := by
  refine ⟨rfl, fun _ _ => rfl, fun c' k' => ?_, fun _ _ => rfl, rfl, rfl, rfl, rfl⟩
  simp [wJ, sJ, u3, h]
theorem eqAt_sR {w : Wd} {c k a b : Nat} {v : Nat} (h : b ≠ a) : eqAt w (sR w c k a v) b := by
  refine ⟨rfl, fun _ _ => rfl, fun _ _ => rfl, fun c' k' => ?_, rfl, rfl, rfl, rfl⟩
  simp [wR, sR, u3, h]
theorem eqAt_yI {w : Wd} {a i b : Nat} {v : Int32} (h : b ≠ a) : eqAt w (yI w a i v) b := by
  refine ⟨rfl, fun _ _ => rfl, fun _ _ => rfl, fun _ _ => rfl, rfl, ?_, rfl, rfl⟩
  funext j
  simp [xI, yI, u2, h]
theorem eqAt_yJ {w : Wd} {a i b : Nat} {v : Int64} (h : b ≠ a) : eqAt w (yJ w a i v) b := by
  refine ⟨rfl, fun _ _ => rfl, fun _ _ => rfl, fun _ _ => rfl, rfl, rfl, ?_, rfl⟩
  funext j
  simp [xJ, yJ, u2, h]
theorem eqAt_yR {w : Wd} {a i b : Nat} {v : Nat} (h : b ≠ a) : eqAt w (yR w a i v) b := by
  refine ⟨rfl, fun _ _ => rfl, fun _ _ => rfl, fun _ _ => rfl, rfl, rfl, rfl, ?_⟩
  funext j
  simp [xR, yR, u2, h]
theorem eqAt_nO {w : Wd} {ci q b : Nat} (h : b ≠ q) : eqAt w (nO w ci q) b := by
  refine ⟨?_, fun _ _ => ?_, fun _ _ => ?_, fun _ _ => ?_, rfl, rfl, rfl, rfl⟩
  · simp [wK, nO, va_up, h]
  · simp [wI, nO, z3, h]
  · simp [wJ, nO, z3, h]
  · simp [wR, nO, z3, h]
theorem eqAt_nA {w : Wd} {t q n b : Nat} (h : b ≠ q) : eqAt w (nA w t q n) b := by
  refine ⟨?_, fun _ _ => rfl, fun _ _ => rfl, fun _ _ => rfl, ?_, ?_, ?_, ?_⟩
  · simp [wK, nA, va_up, h]
  · simp [wL, nA, va_up, h]
  · funext j; simp [xI, nA, z2, h]
  · funext j; simp [xJ, nA, z2, h]
  · funext j; simp [xR, nA, z2, h]
end
section
/-! ===== the judgement ===== -/
abbrev Me : Type := MethodName × ByteArray × Nat × Option FieldType
abbrev Bu : Type := Nat × Nat × Nat
def rmO (B : Bu) : Room := { frames := B.1, cells := B.2.1, slots := B.2.2, locals := 60 * B.1 }
/-- room, most cells, most slots, the end, what more is known of the start -/
abbrev Vw : Type := Room × Nat × Nat × (List Frame → Array Value → State → State → Prop) × (State → Prop)
def Qw (X : Cx) (Q : Option Av → Wd → Prop) : Array Value → State → Outcome → State → Prop := fun _ _ oc t => ∃ (r : Option Av) (w' : Wd), oc = .returned (r.map tv) ∧ Q r w' ∧ Rh X w' t.heap ∧ va_S (Fr X) X.2.2.2 t.heap []
def vw (X : Cx) (B : Bu) (Q : Option Av → Wd → Prop) : Vw := (rmO B, B.2.1, B.2.2, (fun below args s => MQ below (Qw X Q) args s B.2.1 B.2.2 (Fr X)), fun _ => True)
def KK (X : Cx) (s : State) : Prop := va_K X.2.1 cls (tysX X) s ∧ va_AO RX0 s ∧ va_AO RX2 s ∧ va_AO RX3 s
theorem KK.moved {X : Cx} {u U : State} (hvm : u.vm.Alike U.vm) (h : KK X u) : KK X U := ⟨va_K.moved hvm h.1, h.2.1.moved hvm, h.2.2.1.moved hvm, h.2.2.2.moved hvm⟩
def Ax (X : Cx) (M : Me) (p : Program) (s : State) (m : MethodId) (args : Array Value) (meth : Method) (c : Code) : Prop :=
  p.tables.exec = Jvm.exec ∧ c.code = M.2.1 ∧ meth.sig.returnType = M.2.2.2 ∧ c.maxLocals = M.2.2.1 ∧ s.vm.findClass M.1.cls = some m.cls ∧ (∀ w ∈ tb, w.before args s = true) ∧ KK X s ∧ meth.locks = false ∧ meth.name = M.1.name ∧ 0 < X.2.2.2.size
def t2 (q : Nat × Av) : Nat × Value := (q.1, tv q.2)
def EJ (X : Cx) (M : Me) (V : Vw) (rc rs pc : Nat) (lv : List (Nat × Av)) (st : List Av) (w : Wd) : Prop :=
  ∀ (p : Program) (e : Env) (s : State) (m : MethodId) (args : Array Value) (below : List Frame) (meth : Method) (c : Code) (H : Heap) (locs : List Loc) (cells slots : Nat) (ls : Array Slot),
    Ax X M p s m args meth c → V.2.2.2.2 s → Rh X w H → va_S (Fr X) X.2.2.2 H locs → lv_has ls M.2.2.1 (lv.map t2) → cells + rc ≤ V.2.1 → slots + rs ≤ V.2.2.1 → V.2.1 ≤ V.1.cells → V.2.2.1 ≤ V.1.slots →
    W p X.1 e V.1 s m args below meth c H locs cells slots (V.2.2.2.1 below args s) (F0 m pc ls (st.map tv))
theorem EJ.less {X : Cx} {M : Me} {V : Vw} {rc rs rc' rs' pc : Nat} {lv : List (Nat × Av)} {st : List Av} {w : Wd} (h1 : rc ≤ rc') (h2 : rs ≤ rs') (h : EJ X M V rc rs pc lv st w) : EJ X M V rc' rs' pc lv st w := by
  intro p e s m args below meth c H locs cells slots ls hA hV hR hS hl hc hs hcr hsr
  exact h p e s m args below meth c H locs cells slots ls hA hV hR hS hl (by omega) (by omega) hcr hsr
/-- locals: read, write, entry -/
def lvG (lv : List (Nat × Av)) (i : Nat) : Option Av := match lv with
  | [] => none
  | q :: t => if q.1 == i then some q.2 else lvG t i
theorem lvG_mem {lv : List (Nat × Av)} {i : Nat} {v : Av} (h : lvG lv i = some v) : (i, v) ∈ lv := by
  induction lv with
  | nil => cases h
  | cons q t ih =>
    unfold lvG at h
    by_cases hq : q.1 == i
    · rw [if_pos hq] at h
      cases h
      have : q.1 = i := by simpa using hq
      subst this
      exact List.mem_cons_self
    · rw [if_neg hq] at h
      exact List.mem_cons_of_mem _ (ih h)
theorem lvG_at {ls : Array Slot} {n : Nat} {lv : List (Nat × Av)} {i : Nat} {v : Av} (hl : lv_has ls n (lv.map t2)) (h : lvG lv i = some v) : ls[i]? = some (.val (tv v)) :=
  hl.2.2 (i, tv v) (List.mem_map.mpr ⟨(i, v), lvG_mem h, rfl⟩)
def lvF (i : Nat) (v : Av) (lv : List (Nat × Av)) : List (Nat × Av) := match lv with
  | [] => []
  | q :: t => if (q.1 == i) || (isJ v && q.1 == i + 1) || (isJ q.2 && q.1 + 1 == i) then lvF i v t else q :: lvF i v t
def lvI (i : Nat) (v : Av) (lv : List (Nat × Av)) : List (Nat × Av) := match lv with
  | [] => [(i, v)]
  | q :: t => if Nat.blt i q.1 then (i, v) :: q :: t else q :: lvI i v t
def lvS (i : Nat) (v : Av) (lv : List (Nat × Av)) : List (Nat × Av) := lvI i v (lvF i v lv)
theorem lvI_mem {i : Nat} {v : Av} {lv : List (Nat × Av)} {q : Nat × Av} (h : q ∈ lvI i v lv) : q = (i, v) ∨ q ∈ lv := by
  induction lv with
  | nil => simpa [lvI] using h
  | cons r t ih =>
    unfold lvI at h
    split at h
    · rcases List.mem_cons.mp h with h | h
      · exact Or.inl h
      · exact Or.inr h
    · rcases List.mem_cons.mp h with h | h
      · exact Or.inr (by rw [h]; exact List.mem_cons_self)
      · rcases ih h with h | h
        · exact Or.inl h
        · exact Or.inr (List.mem_cons_of_mem _ h)
theorem lvF_mem {i : Nat} {v : Av} {lv : List (Nat × Av)} {q : Nat × Av} (h : q ∈ lvF i v lv) : q ∈ lv ∧ ¬ q.1 = i ∧ (isJ v = true → ¬ q.1 = i + 1) ∧ (isJ q.2 = true → ¬ q.1 + 1 = i) := by
  induction lv with
  | nil => cases h
  | cons r t ih =>
    unfold lvF at h
    split at h
    · obtain ⟨h1, h2⟩ := ih h
      exact ⟨List.mem_cons_of_mem _ h1, h2⟩
    · rename_i hn
      rcases List.mem_cons.mp h with h | h
      · subst h
        refine ⟨List.mem_cons_self, fun q1 => hn (by simp [q1]), fun q1 q2 => hn (by simp [q1, q2]), fun q1 q2 => hn (by simp [q1, q2])⟩
      · obtain ⟨h1, h2⟩ := ih h
        exact ⟨List.mem_cons_of_mem _ h1, h2⟩
theorem lvS_has1 {ls : Array Slot} {n i : Nat} {v : Av} {lv : List (Nat × Av)} (hv : isJ v = false) (h : lv_has ls n ((i, tv v) :: (lv.map t2).filter (fun q => !(q.1 == i) && !(q.1 + 1 == i && q.2.category == 2)))) : lv_has ls n ((lvS i v lv).map t2) := by
  refine ⟨h.1, h.2.1, fun q hq => ?_⟩
  obtain ⟨r, hr, rfl⟩ := List.mem_map.mp hq
  rcases lvI_mem hr with rfl | hr
  · exact h.2.2 _ List.mem_cons_self
  · obtain ⟨h1, h2, h3, h4⟩ := lvF_mem hr
    refine h.2.2 _ (List.mem_cons_of_mem _ (List.mem_filter.mpr ⟨List.mem_map.mpr ⟨r, h1, rfl⟩, ?_⟩))
    have hc : (tv r.2).category = if isJ r.2 then 2 else 1 := (cat_tv _).trans (cat_J _)
    cases hj : isJ r.2
    · simp [t2, h2, hc, hj]
    · have := h4 hj
      simp [t2, h2, this]
theorem lvS_has2 {ls : Array Slot} {n i : Nat} {v : Av} {lv : List (Nat × Av)} (hv : isJ v = true) (h : lv_has ls n ((i, tv v) :: (lv.map t2).filter (fun q => !(q.1 == i) && (!(q.1 == i + 1) && !(q.1 + 1 == i && q.2.category == 2))))) : lv_has ls n ((lvS i v lv).map t2) := by
  refine ⟨h.1, h.2.1, fun q hq => ?_⟩
  obtain ⟨r, hr, rfl⟩ := List.mem_map.mp hq
  rcases lvI_mem hr with rfl | hr
  · exact h.2.2 _ List.mem_cons_self
  · obtain ⟨h1, h2, h3, h4⟩ := lvF_mem hr
    refine h.2.2 _ (List.mem_cons_of_mem _ (List.mem_filter.mpr ⟨List.mem_map.mpr ⟨r, h1, rfl⟩, ?_⟩))
    have hc : (tv r.2).category = if isJ r.2 then 2 else 1 := (cat_tv _).trans (cat_J _)
    have h5 := h3 hv
    cases hj : isJ r.2
    · simp [t2, h2, h5, hc, hj]
    · have := h4 hj
      simp [t2, h2, h5, this]
section E0
variable {X : Cx} {M : Me} {V : Vw} {rc rs pc : Nat} {lv : List (Nat × Av)} {st : List Av} {w : Wd}

theorem e_iconst {n : Int} {v : Int32} (hd : decode M.2.1 pc = .ok (.iconst n, 1)) (hv : Int32.ofInt n = v) (kk : EJ X M V rc rs (pc + 1) lv (vI v :: st) w) : EJ X M V rc rs pc lv (st) w := by
  intro p e s m args below meth c H locs cells slots ls hA hV hR hS hl hc hs hcr hsr
  exact lv_iconst hA.1 hA.2.1 hd hv (kk p e s m args below meth c H locs cells slots ls hA hV hR hS hl hc hs hcr hsr)
theorem e_bipush {n : Int} {v : Int32} (hd : decode M.2.1 pc = .ok (.bipush n, 2)) (hv : (Int8.ofInt n).toInt32 = v) (kk : EJ X M V rc rs (pc + 2) lv (vI v :: st) w) : EJ X M V rc rs pc lv (st) w := by
  intro p e s m args below meth c H locs cells slots ls hA hV hR hS hl hc hs hcr hsr
  exact lv_bipush hA.1 hA.2.1 hd hv (kk p e s m args below meth c H locs cells slots ls hA hV hR hS hl hc hs hcr hsr)
theorem e_sipush {n : Int} {v : Int32} (hd : decode M.2.1 pc = .ok (.sipush n, 3)) (hv : (Int16.ofInt n).toInt32 = v) (kk : EJ X M V rc rs (pc + 3) lv (vI v :: st) w) : EJ X M V rc rs pc lv (st) w := by
  intro p e s m args below meth c H locs cells slots ls hA hV hR hS hl hc hs hcr hsr
  exact lv_sipush hA.1 hA.2.1 hd hv (kk p e s m args below meth c H locs cells slots ls hA hV hR hS hl hc hs hcr hsr)
theorem e_lconst {n : Fin 2} {v : Int64} (hd : decode M.2.1 pc = .ok (.lconst n, 1)) (hv : Int64.ofNat (n : Nat) = v) (kk : EJ X M V rc rs (pc + 1) lv (vJ v :: st) w) : EJ X M V rc rs pc lv (st) w := by
  intro p e s m args below meth c H locs cells slots ls hA hV hR hS hl hc hs hcr hsr
  exact lv_lconst hA.1 hA.2.1 hd hv (kk p e s m args below meth c H locs cells slots ls hA hV hR hS hl hc hs hcr hsr)
theorem e_ldc {idx : Nat} {v : Int32} (hd : decode M.2.1 pc = .ok (.ldc idx, 2)) (hk : Jvm.Cond.constant M.1.cls idx v ∈ tb) (kk : EJ X M V rc rs (pc + 2) lv (vI v :: st) w) : EJ X M V rc rs pc lv (st) w := by
  intro p e s m args below meth c H locs cells slots ls hA hV hR hS hl hc hs hcr hsr
  exact lv_ldc hA.1 hA.2.1 hA.2.2.2.2.1 (hA.2.2.2.2.2.1 _ hk) hd (kk p e s m args below meth c H locs cells slots ls hA hV hR hS hl hc hs hcr hsr)
theorem e_ldc_w {idx : Nat} {v : Int32} (hd : decode M.2.1 pc = .ok (.ldc_w idx, 3)) (hk : Jvm.Cond.constant M.1.cls idx v ∈ tb) (kk : EJ X M V rc rs (pc + 3) lv (vI v :: st) w) : EJ X M V rc rs pc lv (st) w := by
  intro p e s m args below meth c H locs cells slots ls hA hV hR hS hl hc hs hcr hsr
  exact lv_ldcw hA.1 hA.2.1 hA.2.2.2.2.1 (hA.2.2.2.2.2.1 _ hk) hd (kk p e s m args below meth c H locs cells slots ls hA hV hR hS hl hc hs hcr hsr)
theorem e_ldc2 {idx : Nat} {v : Int64} (hd : decode M.2.1 pc = .ok (.ldc2_w idx, 3)) (hk : Jvm.Cond.constantLong M.1.cls idx v ∈ tb) (kk : EJ X M V rc rs (pc + 3) lv (vJ v :: st) w) : EJ X M V rc rs pc lv (st) w := by
  intro p e s m args below meth c H locs cells slots ls hA hV hR hS hl hc hs hcr hsr
  exact lv_ldc2 hA.1 hA.2.1 hA.2.2.2.2.1 (hA.2.2.2.2.2.1 _ hk) hd (kk p e s m args below meth c H locs cells slots ls hA hV hR hS hl hc hs hcr hsr)
theorem e_null  (hd : decode M.2.1 pc = .ok (.aconst_null, 1)) (kk : EJ X M V rc rs (pc + 1) lv (vR 0 :: st) w) : EJ X M V rc rs pc lv (st) w := by
  intro p e s m args below meth c H locs cells slots ls hA hV hR hS hl hc hs hcr hsr
  exact lv_null hA.1 hA.2.1 hd (kk p e s m args below meth c H locs cells slots ls hA hV hR hS hl hc hs hcr hsr)
theorem e_iload_n {k : Fin 4} {i : Nat} {x : Int32} (hd : decode M.2.1 pc = .ok (.iload_n k, 1)) (hi : (k : Nat) = i) (hg : lvG lv i = some (vI x)) (kk : EJ X M V rc rs (pc + 1) lv (vI x :: st) w) : EJ X M V rc rs pc lv (st) w := by
  intro p e s m args below meth c H locs cells slots ls hA hV hR hS hl hc hs hcr hsr
  exact lv_iload_n hA.1 hA.2.1 hd hi (lvG_at hl hg) (kk p e s m args below meth c H locs cells slots ls hA hV hR hS hl hc hs hcr hsr)
theorem e_iload {i : Nat} {x : Int32} (hd : decode M.2.1 pc = .ok (.iload i, 2)) (hg : lvG lv i = some (vI x)) (kk : EJ X M V rc rs (pc + 2) lv (vI x :: st) w) : EJ X M V rc rs pc lv (st) w := by
  intro p e s m args below meth c H locs cells slots ls hA hV hR hS hl hc hs hcr hsr
  exact lv_iload hA.1 hA.2.1 hd (lvG_at hl hg) (kk p e s m args below meth c H locs cells slots ls hA hV hR hS hl hc hs hcr hsr)
theorem e_lload_n {k : Fin 4} {i : Nat} {x : Int64} (hd : decode M.2.1 pc = .ok (.lload_n k, 1)) (hi : (k : Nat) = i) (hg : lvG lv i = some (vJ x)) (kk : EJ X M V rc rs (pc + 1) lv (vJ x :: st) w) : EJ X M V rc rs pc lv (st) w := by
  intro p e s m args below meth c H locs cells slots ls hA hV hR hS hl hc hs hcr hsr
  exact lv_lload_n hA.1 hA.2.1 hd hi (lvG_at hl hg) (kk p e s m args below meth c H locs cells slots ls hA hV hR hS hl hc hs hcr hsr)
theorem e_lload {i : Nat} {x : Int64} (hd : decode M.2.1 pc = .ok (.lload i, 2)) (hg : lvG lv i = some (vJ x)) (kk : EJ X M V rc rs (pc + 2) lv (vJ x :: st) w) : EJ X M V rc rs pc lv (st) w := by
  intro p e s m args below meth c H locs cells slots ls hA hV hR hS hl hc hs hcr hsr
  exact lv_lload hA.1 hA.2.1 hd (lvG_at hl hg) (kk p e s m args below meth c H locs cells slots ls hA hV hR hS hl hc hs hcr hsr)
theorem e_aload_n {k : Fin 4} {i : Nat} {a : Nat} (hd : decode M.2.1 pc = .ok (.aload_n k, 1)) (hi : (k : Nat) = i) (hg : lvG lv i = some (vR a)) (kk : EJ X M V rc rs (pc + 1) lv (vR a :: st) w) : EJ X M V rc rs pc lv st w := by
  intro p e s m args below meth c H locs cells slots ls hA hV hR hS hl hc hs hcr hsr
  have h1 := lvG_at hl hg
  have h2 := kk p e s m args below meth c H locs cells slots ls hA hV hR hS hl hc hs hcr hsr
  by_cases h : a = 0
  · subst h
    exact lv_aload_nN hA.1 hA.2.1 hd hi h1 h2
  · have e : tv (vR a) = .ref (a - 1) := rn_ne h
    rw [e] at h1
    rw [List.map_cons, e] at h2
    exact lv_aload_n hA.1 hA.2.1 hd hi h1 h2
theorem e_aload {i : Nat} {a : Nat} (hd : decode M.2.1 pc = .ok (.aload i, 2)) (hg : lvG lv i = some (vR a)) (kk : EJ X M V rc rs (pc + 2) lv (vR a :: st) w) : EJ X M V rc rs pc lv st w := by
  intro p e s m args below meth c H locs cells slots ls hA hV hR hS hl hc hs hcr hsr
  have h1 := lvG_at hl hg
  have h2 := kk p e s m args below meth c H locs cells slots ls hA hV hR hS hl hc hs hcr hsr
  by_cases h : a = 0
  · subst h
    exact lv_aloadN hA.1 hA.2.1 hd h1 h2
  · have e : tv (vR a) = .ref (a - 1) := rn_ne h
    rw [e] at h1
    rw [List.map_cons, e] at h2
    exact lv_aload hA.1 hA.2.1 hd h1 h2
theorem e_istore_n {k : Fin 4} {i : Nat} {x : Int32} {lv' : List (Nat × Av)} (hd : decode M.2.1 pc = .ok (.istore_n k, 1)) (hi : (k : Nat) = i) (hn : i < M.2.2.1) (he : lvS i (vI x) lv = lv') (kk : EJ X M V rc rs (pc + 1) lv' st w) : EJ X M V rc rs pc lv (vI x :: st) w := by
  intro p e s m args below meth c H locs cells slots ls hA hV hR hS hl hc hs hcr hsr
  subst he
  exact lv_istore_n hA.1 hA.2.1 hd hi hl hn rfl (fun ls hl => kk p e s m args below meth c H locs cells slots ls hA hV hR hS (lvS_has1 rfl hl) hc hs hcr hsr)
theorem e_istore {i : Nat} {x : Int32} {lv' : List (Nat × Av)} (hd : decode M.2.1 pc = .ok (.istore i, 2)) (hn : i < M.2.2.1) (he : lvS i (vI x) lv = lv') (kk : EJ X M V rc rs (pc + 2) lv' st w) : EJ X M V rc rs pc lv (vI x :: st) w := by
  intro p e s m args below meth c H locs cells slots ls hA hV hR hS hl hc hs hcr hsr
  subst he
  exact lv_istore hA.1 hA.2.1 hd hl hn rfl (fun ls hl => kk p e s m args below meth c H locs cells slots ls hA hV hR hS (lvS_has1 rfl hl) hc hs hcr hsr)
theorem e_lstore_n {k : Fin 4} {i : Nat} {x : Int64} {lv' : List (Nat × Av)} (hd : decode M.2.1 pc = .ok (.lstore_n k, 1)) (hi : (k : Nat) = i) (hn : i + 1 < M.2.2.1) (he : lvS i (vJ x) lv = lv') (kk : EJ X M V rc rs (pc + 1) lv' st w) : EJ X M V rc rs pc lv (vJ x :: st) w := by
  intro p e s m args below meth c H locs cells slots ls hA hV hR hS hl hc hs hcr hsr
  subst he
  exact lv_lstore_n hA.1 hA.2.1 hd hi hl hn rfl (fun ls hl => kk p e s m args below meth c H locs cells slots ls hA hV hR hS (lvS_has2 rfl hl) hc hs hcr hsr)
theorem e_lstore {i : Nat} {x : Int64} {lv' : List (Nat × Av)} (hd : decode M.2.1 pc = .ok (.lstore i, 2)) (hn : i + 1 < M.2.2.1) (he : lvS i (vJ x) lv = lv') (kk : EJ X M V rc rs (pc + 2) lv' st w) : EJ X M V rc rs pc lv (vJ x :: st) w := by
  intro p e s m args below meth c H locs cells slots ls hA hV hR hS hl hc hs hcr hsr
  subst he
  exact lv_lstore hA.1 hA.2.1 hd hl hn rfl (fun ls hl => kk p e s m args below meth c H locs cells slots ls hA hV hR hS (lvS_has2 rfl hl) hc hs hcr hsr)
theorem e_astore_n {k : Fin 4} {i : Nat} {a : Nat} {lv' : List (Nat × Av)} (hd : decode M.2.1 pc = .ok (.astore_n k, 1)) (hi : (k : Nat) = i) (hn : i < M.2.2.1) (he : lvS i (vR a) lv = lv') (kk : EJ X M V rc rs (pc + 1) lv' st w) : EJ X M V rc rs pc lv (vR a :: st) w := by
  intro p e s m args below meth c H locs cells slots ls hA hV hR hS hl hc hs hcr hsr
  subst he
  by_cases h : a = 0
  · subst h
    exact lv_astore_nN hA.1 hA.2.1 hd hi hl hn rfl (fun ls hl => kk p e s m args below meth c H locs cells slots ls hA hV hR hS (lvS_has1 rfl hl) hc hs hcr hsr)
  · have e1 : tv (vR a) = .ref (a - 1) := rn_ne h
    rw [List.map_cons, e1]
    exact lv_astore_n hA.1 hA.2.1 hd hi hl hn rfl (fun ls hl => kk p e s m args below meth c H locs cells slots ls hA hV hR hS (lvS_has1 rfl (by rw [e1]; exact hl)) hc hs hcr hsr)
theorem e_astore {i : Nat} {a : Nat} {lv' : List (Nat × Av)} (hd : decode M.2.1 pc = .ok (.astore i, 2)) (hn : i < M.2.2.1) (he : lvS i (vR a) lv = lv') (kk : EJ X M V rc rs (pc + 2) lv' st w) : EJ X M V rc rs pc lv (vR a :: st) w := by
  intro p e s m args below meth c H locs cells slots ls hA hV hR hS hl hc hs hcr hsr
  subst he
  by_cases h : a = 0
  · subst h
    exact lv_astoreN hA.1 hA.2.1 hd hl hn rfl (fun ls hl => kk p e s m args below meth c H locs cells slots ls hA hV hR hS (lvS_has1 rfl hl) hc hs hcr hsr)
  · have e1 : tv (vR a) = .ref (a - 1) := rn_ne h
    rw [List.map_cons, e1]
    exact lv_astore hA.1 hA.2.1 hd hl hn rfl (fun ls hl => kk p e s m args below meth c H locs cells slots ls hA hV hR hS (lvS_has1 rfl (by rw [e1]; exact hl)) hc hs hcr hsr)
theorem e_iinc {i : Nat} {n : Int} {x v : Int32} {lv' : List (Nat × Av)} (hd : decode M.2.1 pc = .ok (.iinc i n, 3)) (hg : lvG lv i = some (vI x)) (hv : x + Int32.ofInt n = v) (hn : i < M.2.2.1) (he : lvS i (vI v) lv = lv') (kk : EJ X M V rc rs (pc + 3) lv' st w) : EJ X M V rc rs pc lv st w := by
  intro p e s m args below meth c H locs cells slots ls hA hV hR hS hl hc hs hcr hsr
  subst he
  obtain ⟨k, hk⟩ := List.getElem?_of_mem (List.mem_map.mpr ⟨(i, vI x), lvG_mem hg, rfl⟩ : t2 (i, vI x) ∈ lv.map t2)
  exact lv_iinc hA.1 hA.2.1 hd hl hk hv hn rfl (fun ls hl => kk p e s m args below meth c H locs cells slots ls hA hV hR hS (lvS_has1 rfl hl) hc hs hcr hsr)
theorem e_iadd {x y : Int32} (hd : decode M.2.1 pc = .ok (.iadd, 1)) (kk : EJ X M V rc rs (pc + 1) lv (vI (x + y) :: st) w) : EJ X M V rc rs pc lv (vI y :: vI x :: st) w := by
  intro p e s m args below meth c H locs cells slots ls hA hV hR hS hl hc hs hcr hsr
  exact lv_iadd hA.1 hA.2.1 hd (kk p e s m args below meth c H locs cells slots ls hA hV hR hS hl hc hs hcr hsr)
theorem e_isub {x y : Int32} (hd : decode M.2.1 pc = .ok (.isub, 1)) (kk : EJ X M V rc rs (pc + 1) lv (vI (x - y) :: st) w) : EJ X M V rc rs pc lv (vI y :: vI x :: st) w := by
  intro p e s m args below meth c H locs cells slots ls hA hV hR hS hl hc hs hcr hsr
  exact lv_isub hA.1 hA.2.1 hd (kk p e s m args below meth c H locs cells slots ls hA hV hR hS hl hc hs hcr hsr)
theorem e_imul {x y : Int32} (hd : decode M.2.1 pc = .ok (.imul, 1)) (kk : EJ X M V rc rs (pc + 1) lv (vI (x * y) :: st) w) : EJ X M V rc rs pc lv (vI y :: vI x :: st) w := by
  intro p e s m args below meth c H locs cells slots ls hA hV hR hS hl hc hs hcr hsr
  exact lv_imul hA.1 hA.2.1 hd (kk p e s m args below meth c H locs cells slots ls hA hV hR hS hl hc hs hcr hsr)
theorem e_iand {x y : Int32} (hd : decode M.2.1 pc = .ok (.iand, 1)) (kk : EJ X M V rc rs (pc + 1) lv (vI (x &&& y) :: st) w) : EJ X M V rc rs pc lv (vI y :: vI x :: st) w := by
  intro p e s m args below meth c H locs cells slots ls hA hV hR hS hl hc hs hcr hsr
  exact lv_iand hA.1 hA.2.1 hd (kk p e s m args below meth c H locs cells slots ls hA hV hR hS hl hc hs hcr hsr)
theorem e_ladd {x y : Int64} (hd : decode M.2.1 pc = .ok (.ladd, 1)) (kk : EJ X M V rc rs (pc + 1) lv (vJ (x + y) :: st) w) : EJ X M V rc rs pc lv (vJ y :: vJ x :: st) w := by
  intro p e s m args below meth c H locs cells slots ls hA hV hR hS hl hc hs hcr hsr
  exact lv_ladd hA.1 hA.2.1 hd (kk p e s m args below meth c H locs cells slots ls hA hV hR hS hl hc hs hcr hsr)
theorem e_lsub {x y : Int64} (hd : decode M.2.1 pc = .ok (.lsub, 1)) (kk : EJ X M V rc rs (pc + 1) lv (vJ (x - y) :: st) w) : EJ X M V rc rs pc lv (vJ y :: vJ x :: st) w := by
  intro p e s m args below meth c H locs cells slots ls hA hV hR hS hl hc hs hcr hsr
  exact lv_lsub hA.1 hA.2.1 hd (kk p e s m args below meth c H locs cells slots ls hA hV hR hS hl hc hs hcr hsr)
theorem e_lmul {x y : Int64} (hd : decode M.2.1 pc = .ok (.lmul, 1)) (kk : EJ X M V rc rs (pc + 1) lv (vJ (x * y) :: st) w) : EJ X M V rc rs pc lv (vJ y :: vJ x :: st) w := by
  intro p e s m args below meth c H locs cells slots ls hA hV hR hS hl hc hs hcr hsr
  exact lv_lmul hA.1 hA.2.1 hd (kk p e s m args below meth c H locs cells slots ls hA hV hR hS hl hc hs hcr hsr)
theorem e_land {x y : Int64} (hd : decode M.2.1 pc = .ok (.land, 1)) (kk : EJ X M V rc rs (pc + 1) lv (vJ (x &&& y) :: st) w) : EJ X M V rc rs pc lv (vJ y :: vJ x :: st) w := by
  intro p e s m args below meth c H locs cells slots ls hA hV hR hS hl hc hs hcr hsr
  exact lv_land hA.1 hA.2.1 hd (kk p e s m args below meth c H locs cells slots ls hA hV hR hS hl hc hs hcr hsr)
theorem e_lor {x y : Int64} (hd : decode M.2.1 pc = .ok (.lor, 1)) (kk : EJ X M V rc rs (pc + 1) lv (vJ (x ||| y) :: st) w) : EJ X M V rc rs pc lv (vJ y :: vJ x :: st) w := by
  intro p e s m args below meth c H locs cells slots ls hA hV hR hS hl hc hs hcr hsr
  exact lv_lor hA.1 hA.2.1 hd (kk p e s m args below meth c H locs cells slots ls hA hV hR hS hl hc hs hcr hsr)
theorem e_lxor {x y : Int64} (hd : decode M.2.1 pc = .ok (.lxor, 1)) (kk : EJ X M V rc rs (pc + 1) lv (vJ (x ^^^ y) :: st) w) : EJ X M V rc rs pc lv (vJ y :: vJ x :: st) w := by
  intro p e s m args below meth c H locs cells slots ls hA hV hR hS hl hc hs hcr hsr
  exact lv_lxor hA.1 hA.2.1 hd (kk p e s m args below meth c H locs cells slots ls hA hV hR hS hl hc hs hcr hsr)
theorem e_idiv {x y : Int32} (hd : decode M.2.1 pc = .ok (.idiv, 1)) (hne : ¬ y = 0) (kk : EJ X M V rc rs (pc + 1) lv (vI (x / y) :: st) w) : EJ X M V rc rs pc lv (vI y :: vI x :: st) w := by
  intro p e s m args below meth c H locs cells slots ls hA hV hR hS hl hc hs hcr hsr
  exact lv_idiv hA.1 hA.2.1 hd hne (kk p e s m args below meth c H locs cells slots ls hA hV hR hS hl hc hs hcr hsr)
theorem e_ldiv {x y : Int64} (hd : decode M.2.1 pc = .ok (.ldiv, 1)) (hne : ¬ y = 0) (kk : EJ X M V rc rs (pc + 1) lv (vJ (x / y) :: st) w) : EJ X M V rc rs pc lv (vJ y :: vJ x :: st) w := by
  intro p e s m args below meth c H locs cells slots ls hA hV hR hS hl hc hs hcr hsr
  exact lv_ldiv hA.1 hA.2.1 hd hne (kk p e s m args below meth c H locs cells slots ls hA hV hR hS hl hc hs hcr hsr)
theorem e_i2l {x : Int32} (hd : decode M.2.1 pc = .ok (.i2l, 1)) (kk : EJ X M V rc rs (pc + 1) lv (vJ x.toInt64 :: st) w) : EJ X M V rc rs pc lv (vI x :: st) w := by
  intro p e s m args below meth c H locs cells slots ls hA hV hR hS hl hc hs hcr hsr
  exact lv_i2l hA.1 hA.2.1 hd rfl (kk p e s m args below meth c H locs cells slots ls hA hV hR hS hl hc hs hcr hsr)
theorem e_l2i {x : Int64} (hd : decode M.2.1 pc = .ok (.l2i, 1)) (kk : EJ X M V rc rs (pc + 1) lv (vI x.toInt32 :: st) w) : EJ X M V rc rs pc lv (vJ x :: st) w := by
  intro p e s m args below meth c H locs cells slots ls hA hV hR hS hl hc hs hcr hsr
  exact lv_l2i hA.1 hA.2.1 hd rfl (kk p e s m args below meth c H locs cells slots ls hA hV hR hS hl hc hs hcr hsr)
theorem e_lshl {x : Int64} {y : Int32} (hd : decode M.2.1 pc = .ok (.lshl, 1)) (kk : EJ X M V rc rs (pc + 1) lv (vJ (x <<< (y.toInt64 &&& 63)) :: st) w) : EJ X M V rc rs pc lv (vI y :: vJ x :: st) w := by
  intro p e s m args below meth c H locs cells slots ls hA hV hR hS hl hc hs hcr hsr
  exact lv_lshl hA.1 hA.2.1 hd rfl (kk p e s m args below meth c H locs cells slots ls hA hV hR hS hl hc hs hcr hsr)
theorem e_lshr {x : Int64} {y : Int32} (hd : decode M.2.1 pc = .ok (.lshr, 1)) (kk : EJ X M V rc rs (pc + 1) lv (vJ (x >>> (y.toInt64 &&& 63)) :: st) w) : EJ X M V rc rs pc lv (vI y :: vJ x :: st) w := by
  intro p e s m args below meth c H locs cells slots ls hA hV hR hS hl hc hs hcr hsr
  exact lv_lshr hA.1 hA.2.1 hd rfl (kk p e s m args below meth c H locs cells slots ls hA hV hR hS hl hc hs hcr hsr)
theorem e_lushr {x : Int64} {y : Int32} (hd : decode M.2.1 pc = .ok (.lushr, 1)) (kk : EJ X M V rc rs (pc + 1) lv (vJ ((x.toUInt64 >>> (y.toInt64.toUInt64 &&& Int64.toUInt64 63)).toInt64) :: st) w) : EJ X M V rc rs pc lv (vI y :: vJ x :: st) w := by
  intro p e s m args below meth c H locs cells slots ls hA hV hR hS hl hc hs hcr hsr
  exact lv_lushr hA.1 hA.2.1 hd rfl (kk p e s m args below meth c H locs cells slots ls hA hV hR hS hl hc hs hcr hsr)
theorem e_lcmp {x y : Int64} (hd : decode M.2.1 pc = .ok (.lcmp, 1)) (kk : EJ X M V rc rs (pc + 1) lv (vI (lg_cmp x y) :: st) w) : EJ X M V rc rs pc lv (vJ y :: vJ x :: st) w := by
  intro p e s m args below meth c H locs cells slots ls hA hV hR hS hl hc hs hcr hsr
  exact W.lcmp hA.1 hA.2.1 hd (kk p e s m args below meth c H locs cells slots ls hA hV hR hS hl hc hs hcr hsr)
theorem e_dup {v : Av} (hd : decode M.2.1 pc = .ok (.dup, 1)) (hv : cat v = 1) (kk : EJ X M V rc rs (pc + 1) lv (v :: v :: st) w) : EJ X M V rc rs pc lv (v :: st) w := by
  intro p e s m args below meth c H locs cells slots ls hA hV hR hS hl hc hs hcr hsr
  exact lv_dup hA.1 hA.2.1 hd ((cat_tv v).trans hv) (kk p e s m args below meth c H locs cells slots ls hA hV hR hS hl hc hs hcr hsr)
theorem e_pop {v : Av} (hd : decode M.2.1 pc = .ok (.pop, 1)) (hv : cat v = 1) (kk : EJ X M V rc rs (pc + 1) lv (st) w) : EJ X M V rc rs pc lv (v :: st) w := by
  intro p e s m args below meth c H locs cells slots ls hA hV hR hS hl hc hs hcr hsr
  exact lv_pop hA.1 hA.2.1 hd ((cat_tv v).trans hv) (kk p e s m args below meth c H locs cells slots ls hA hV hR hS hl hc hs hcr hsr)
theorem e_dup2_2 {v : Av} (hd : decode M.2.1 pc = .ok (.dup2, 1)) (hv : cat v = 2) (kk : EJ X M V rc rs (pc + 1) lv (v :: v :: st) w) : EJ X M V rc rs pc lv (v :: st) w := by
  intro p e s m args below meth c H locs cells slots ls hA hV hR hS hl hc hs hcr hsr
  exact lv_dup2_2 hA.1 hA.2.1 hd ((cat_tv v).trans hv) (kk p e s m args below meth c H locs cells slots ls hA hV hR hS hl hc hs hcr hsr)
theorem e_pop2_2 {v : Av} (hd : decode M.2.1 pc = .ok (.pop2, 1)) (hv : cat v = 2) (kk : EJ X M V rc rs (pc + 1) lv (st) w) : EJ X M V rc rs pc lv (v :: st) w := by
  intro p e s m args below meth c H locs cells slots ls hA hV hR hS hl hc hs hcr hsr
  exact lv_pop2_2 hA.1 hA.2.1 hd ((cat_tv v).trans hv) (kk p e s m args below meth c H locs cells slots ls hA hV hR hS hl hc hs hcr hsr)
theorem e_dup2_11 {v u : Av} (hd : decode M.2.1 pc = .ok (.dup2, 1)) (hv : cat v = 1) (hu : cat u = 1) (kk : EJ X M V rc rs (pc + 1) lv (v :: u :: v :: u :: st) w) : EJ X M V rc rs pc lv (v :: u :: st) w := by
  intro p e s m args below meth c H locs cells slots ls hA hV hR hS hl hc hs hcr hsr
  exact lv_dup2_11 hA.1 hA.2.1 hd ((cat_tv v).trans hv) ((cat_tv u).trans hu) (kk p e s m args below meth c H locs cells slots ls hA hV hR hS hl hc hs hcr hsr)
theorem e_if_eq {x : Int32} {off : Int} {tgt : Nat} (hd : decode M.2.1 pc = .ok (.ifCond .eq off, 3)) (ht : (pc : Int) + off = (tgt : Int)) (kt : x = 0 → EJ X M V rc rs tgt lv st w) (kf : ¬ x = 0 → EJ X M V rc rs (pc + 3) lv st w) : EJ X M V rc rs pc lv (vI x :: st) w := by
  intro p e s m args below meth c H locs cells slots ls hA hV hR hS hl hc hs hcr hsr
  exact lv_if_eq hA.1 hA.2.1 hd ht (fun h => kt h p e s m args below meth c H locs cells slots ls hA hV hR hS hl hc hs hcr hsr) (fun h => kf h p e s m args below meth c H locs cells slots ls hA hV hR hS hl hc hs hcr hsr)
theorem e_icmp_eq {x y : Int32} {off : Int} {tgt : Nat} (hd : decode M.2.1 pc = .ok (.if_icmp .eq off, 3)) (ht : (pc : Int) + off = (tgt : Int)) (kt : x = y → EJ X M V rc rs tgt lv st w) (kf : ¬ x = y → EJ X M V rc rs (pc + 3) lv st w) : EJ X M V rc rs pc lv (vI y :: vI x :: st) w := by
  intro p e s m args below meth c H locs cells slots ls hA hV hR hS hl hc hs hcr hsr
  exact lv_icmp_eq hA.1 hA.2.1 hd ht (fun h => kt h p e s m args below meth c H locs cells slots ls hA hV hR hS hl hc hs hcr hsr) (fun h => kf h p e s m args below meth c H locs cells slots ls hA hV hR hS hl hc hs hcr hsr)
theorem e_if_ne {x : Int32} {off : Int} {tgt : Nat} (hd : decode M.2.1 pc = .ok (.ifCond .ne off, 3)) (ht : (pc : Int) + off = (tgt : Int)) (kt : ¬ x = 0 → EJ X M V rc rs tgt lv st w) (kf : x = 0 → EJ X M V rc rs (pc + 3) lv st w) : EJ X M V rc rs pc lv (vI x :: st) w := by
  intro p e s m args below meth c H locs cells slots ls hA hV hR hS hl hc hs hcr hsr
  exact lv_if_ne hA.1 hA.2.1 hd ht (fun h => kt h p e s m args below meth c H locs cells slots ls hA hV hR hS hl hc hs hcr hsr) (fun h => kf h p e s m args below meth c H locs cells slots ls hA hV hR hS hl hc hs hcr hsr)
theorem e_icmp_ne {x y : Int32} {off : Int} {tgt : Nat} (hd : decode M.2.1 pc = .ok (.if_icmp .ne off, 3)) (ht : (pc : Int) + off = (tgt : Int)) (kt : ¬ x = y → EJ X M V rc rs tgt lv st w) (kf : x = y → EJ X M V rc rs (pc + 3) lv st w) : EJ X M V rc rs pc lv (vI y :: vI x :: st) w := by
  intro p e s m args below meth c H locs cells slots ls hA hV hR hS hl hc hs hcr hsr
  exact lv_icmp_ne hA.1 hA.2.1 hd ht (fun h => kt h p e s m args below meth c H locs cells slots ls hA hV hR hS hl hc hs hcr hsr) (fun h => kf h p e s m args below meth c H locs cells slots ls hA hV hR hS hl hc hs hcr hsr)
theorem e_if_lt {x : Int32} {off : Int} {tgt : Nat} (hd : decode M.2.1 pc = .ok (.ifCond .lt off, 3)) (ht : (pc : Int) + off = (tgt : Int)) (kt : x < 0 → EJ X M V rc rs tgt lv st w) (kf : ¬ x < 0 → EJ X M V rc rs (pc + 3) lv st w) : EJ X M V rc rs pc lv (vI x :: st) w := by
  intro p e s m args below meth c H locs cells slots ls hA hV hR hS hl hc hs hcr hsr
  exact lv_if_lt hA.1 hA.2.1 hd ht (fun h => kt h p e s m args below meth c H locs cells slots ls hA hV hR hS hl hc hs hcr hsr) (fun h => kf h p e s m args below meth c H locs cells slots ls hA hV hR hS hl hc hs hcr hsr)
theorem e_icmp_lt {x y : Int32} {off : Int} {tgt : Nat} (hd : decode M.2.1 pc = .ok (.if_icmp .lt off, 3)) (ht : (pc : Int) + off = (tgt : Int)) (kt : x < y → EJ X M V rc rs tgt lv st w) (kf : ¬ x < y → EJ X M V rc rs (pc + 3) lv st w) : EJ X M V rc rs pc lv (vI y :: vI x :: st) w := by
  intro p e s m args below meth c H locs cells slots ls hA hV hR hS hl hc hs hcr hsr
  exact lv_icmp_lt hA.1 hA.2.1 hd ht (fun h => kt h p e s m args below meth c H locs cells slots ls hA hV hR hS hl hc hs hcr hsr) (fun h => kf h p e s m args below meth c H locs cells slots ls hA hV hR hS hl hc hs hcr hsr)
theorem e_if_ge {x : Int32} {off : Int} {tgt : Nat} (hd : decode M.2.1 pc = .ok (.ifCond .ge off, 3)) (ht : (pc : Int) + off = (tgt : Int)) (kt : 0 ≤ x → EJ X M V rc rs tgt lv st w) (kf : ¬ 0 ≤ x → EJ X M V rc rs (pc + 3) lv st w) : EJ X M V rc rs pc lv (vI x :: st) w := by
  intro p e s m args below meth c H locs cells slots ls hA hV hR hS hl hc hs hcr hsr
  exact lv_if_ge hA.1 hA.2.1 hd ht (fun h => kt h p e s m args below meth c H locs cells slots ls hA hV hR hS hl hc hs hcr hsr) (fun h => kf h p e s m args below meth c H locs cells slots ls hA hV hR hS hl hc hs hcr hsr)
theorem e_icmp_ge {x y : Int32} {off : Int} {tgt : Nat} (hd : decode M.2.1 pc = .ok (.if_icmp .ge off, 3)) (ht : (pc : Int) + off = (tgt : Int)) (kt : y ≤ x → EJ X M V rc rs tgt lv st w) (kf : ¬ y ≤ x → EJ X M V rc rs (pc + 3) lv st w) : EJ X M V rc rs pc lv (vI y :: vI x :: st) w := by
  intro p e s m args below meth c H locs cells slots ls hA hV hR hS hl hc hs hcr hsr
  exact lv_icmp_ge hA.1 hA.2.1 hd ht (fun h => kt h p e s m args below meth c H locs cells slots ls hA hV hR hS hl hc hs hcr hsr) (fun h => kf h p e s m args below meth c H locs cells slots ls hA hV hR hS hl hc hs hcr hsr)
theorem e_if_gt {x : Int32} {off : Int} {tgt : Nat} (hd : decode M.2.1 pc = .ok (.ifCond .gt off, 3)) (ht : (pc : Int) + off = (tgt : Int)) (kt : 0 < x → EJ X M V rc rs tgt lv st w) (kf : ¬ 0 < x → EJ X M V rc rs (pc + 3) lv st w) : EJ X M V rc rs pc lv (vI x :: st) w := by
  intro p e s m args below meth c H locs cells slots ls hA hV hR hS hl hc hs hcr hsr
  exact lv_if_gt hA.1 hA.2.1 hd ht (fun h => kt h p e s m args below meth c H locs cells slots ls hA hV hR hS hl hc hs hcr hsr) (fun h => kf h p e s m args below meth c H locs cells slots ls hA hV hR hS hl hc hs hcr hsr)
theorem e_icmp_gt {x y : Int32} {off : Int} {tgt : Nat} (hd : decode M.2.1 pc = .ok (.if_icmp .gt off, 3)) (ht : (pc : Int) + off = (tgt : Int)) (kt : y < x → EJ X M V rc rs tgt lv st w) (kf : ¬ y < x → EJ X M V rc rs (pc + 3) lv st w) : EJ X M V rc rs pc lv (vI y :: vI x :: st) w := by
  intro p e s m args below meth c H locs cells slots ls hA hV hR hS hl hc hs hcr hsr
  exact lv_icmp_gt hA.1 hA.2.1 hd ht (fun h => kt h p e s m args below meth c H locs cells slots ls hA hV hR hS hl hc hs hcr hsr) (fun h => kf h p e s m args below meth c H locs cells slots ls hA hV hR hS hl hc hs hcr hsr)
theorem e_if_le {x : Int32} {off : Int} {tgt : Nat} (hd : decode M.2.1 pc = .ok (.ifCond .le off, 3)) (ht : (pc : Int) + off = (tgt : Int)) (kt : x ≤ 0 → EJ X M V rc rs tgt lv st w) (kf : ¬ x ≤ 0 → EJ X M V rc rs (pc + 3) lv st w) : EJ X M V rc rs pc lv (vI x :: st) w := by
  intro p e s m args below meth c H locs cells slots ls hA hV hR hS hl hc hs hcr hsr
  exact lv_if_le hA.1 hA.2.1 hd ht (fun h => kt h p e s m args below meth c H locs cells slots ls hA hV hR hS hl hc hs hcr hsr) (fun h => kf h p e s m args below meth c H locs cells slots ls hA hV hR hS hl hc hs hcr hsr)
theorem e_icmp_le {x y : Int32} {off : Int} {tgt : Nat} (hd : decode M.2.1 pc = .ok (.if_icmp .le off, 3)) (ht : (pc : Int) + off = (tgt : Int)) (kt : x ≤ y → EJ X M V rc rs tgt lv st w) (kf : ¬ x ≤ y → EJ X M V rc rs (pc + 3) lv st w) : EJ X M V rc rs pc lv (vI y :: vI x :: st) w := by
  intro p e s m args below meth c H locs cells slots ls hA hV hR hS hl hc hs hcr hsr
  exact lv_icmp_le hA.1 hA.2.1 hd ht (fun h => kt h p e s m args below meth c H locs cells slots ls hA hV hR hS hl hc hs hcr hsr) (fun h => kf h p e s m args below meth c H locs cells slots ls hA hV hR hS hl hc hs hcr hsr)
theorem e_goto {off : Int} {tgt : Nat} (hd : decode M.2.1 pc = .ok (.goto off, 3)) (ht : (pc : Int) + off = (tgt : Int)) (kk : EJ X M V rc rs tgt lv st w) : EJ X M V rc rs pc lv st w := by
  intro p e s m args below meth c H locs cells slots ls hA hV hR hS hl hc hs hcr hsr
  exact lv_goto hA.1 hA.2.1 hd ht (kk p e s m args below meth c H locs cells slots ls hA hV hR hS hl hc hs hcr hsr)
theorem e_ifnull {a : Nat} {off : Int} {tgt : Nat} (hd : decode M.2.1 pc = .ok (.ifnull off, 3)) (ht : (pc : Int) + off = (tgt : Int)) (kt : a = 0 → EJ X M V rc rs tgt lv st w) (kf : ¬ a = 0 → EJ X M V rc rs (pc + 3) lv st w) : EJ X M V rc rs pc lv (vR a :: st) w := by
  intro p e s m args below meth c H locs cells slots ls hA hV hR hS hl hc hs hcr hsr
  by_cases h : a = 0
  · have h2 := kt h p e s m args below meth c H locs cells slots ls hA hV hR hS hl hc hs hcr hsr
    subst h
    exact lv_ifnullN hA.1 hA.2.1 hd ht h2
  · have e1 : tv (vR a) = .ref (a - 1) := rn_ne h
    rw [List.map_cons, e1]
    exact lv_ifnull hA.1 hA.2.1 hd (kf h p e s m args below meth c H locs cells slots ls hA hV hR hS hl hc hs hcr hsr)
theorem e_ifnonnull {a : Nat} {off : Int} {tgt : Nat} (hd : decode M.2.1 pc = .ok (.ifnonnull off, 3)) (ht : (pc : Int) + off = (tgt : Int)) (kt : ¬ a = 0 → EJ X M V rc rs tgt lv st w) (kf : a = 0 → EJ X M V rc rs (pc + 3) lv st w) : EJ X M V rc rs pc lv (vR a :: st) w := by
  intro p e s m args below meth c H locs cells slots ls hA hV hR hS hl hc hs hcr hsr
  by_cases h : a = 0
  · have h2 := kf h p e s m args below meth c H locs cells slots ls hA hV hR hS hl hc hs hcr hsr
    subst h
    exact lv_ifnonnullN hA.1 hA.2.1 hd h2
  · have e1 : tv (vR a) = .ref (a - 1) := rn_ne h
    rw [List.map_cons, e1]
    exact lv_ifnonnull hA.1 hA.2.1 hd ht (kt h p e s m args below meth c H locs cells slots ls hA hV hR hS hl hc hs hcr hsr)
theorem e_acmp_eq {a b : Nat} {off : Int} {tgt : Nat} (hd : decode M.2.1 pc = .ok (.if_acmp .eq off, 3)) (ht : (pc : Int) + off = (tgt : Int)) (kt : a = b → EJ X M V rc rs tgt lv st w) (kf : ¬ a = b → EJ X M V rc rs (pc + 3) lv st w) : EJ X M V rc rs pc lv (vR b :: vR a :: st) w := by
  intro p e s m args below meth c H locs cells slots ls hA hV hR hS hl hc hs hcr hsr
  exact lv_acmp_eq hA.1 hA.2.1 hd ht (fun h => kt (nz_inj.mp h) p e s m args below meth c H locs cells slots ls hA hV hR hS hl hc hs hcr hsr) (fun h => kf (fun q => h (nz_inj.mpr q)) p e s m args below meth c H locs cells slots ls hA hV hR hS hl hc hs hcr hsr)
theorem e_acmp_ne {a b : Nat} {off : Int} {tgt : Nat} (hd : decode M.2.1 pc = .ok (.if_acmp .ne off, 3)) (ht : (pc : Int) + off = (tgt : Int)) (kt : ¬ a = b → EJ X M V rc rs tgt lv st w) (kf : a = b → EJ X M V rc rs (pc + 3) lv st w) : EJ X M V rc rs pc lv (vR b :: vR a :: st) w := by
  intro p e s m args below meth c H locs cells slots ls hA hV hR hS hl hc hs hcr hsr
  exact lv_acmp_ne hA.1 hA.2.1 hd ht (fun h => kt (fun q => h (nz_inj.mpr q)) p e s m args below meth c H locs cells slots ls hA hV hR hS hl hc hs hcr hsr) (fun h => kf (nz_inj.mp (by simpa using h)) p e s m args below meth c H locs cells slots ls hA hV hR hS hl hc hs hcr hsr)
theorem e_tableOut {dflt lo hi : Int} {offs : Array Int} {len : Nat} {x : Int32} {tgt : Nat} (hd : decode M.2.1 pc = .ok (.tableswitch dflt lo hi offs, len)) (h : x.toInt < lo ∨ hi < x.toInt) (ht : (pc : Int) + dflt = (tgt : Int)) (kk : EJ X M V rc rs tgt lv st w) : EJ X M V rc rs pc lv (vI x :: st) w := by
  intro p e s m args below meth c H locs cells slots ls hA hV hR hS hl hc hs hcr hsr
  exact lv_tableOut hA.1 hA.2.1 hd h ht (kk p e s m args below meth c H locs cells slots ls hA hV hR hS hl hc hs hcr hsr)
theorem e_tableIn {dflt lo hi : Int} {offs : Array Int} {len : Nat} {x : Int32} {off : Int} {tgt : Nat} (hd : decode M.2.1 pc = .ok (.tableswitch dflt lo hi offs, len)) (h1 : ¬ x.toInt < lo) (h2 : ¬ hi < x.toInt) (ho : offs[(x.toInt - lo).toNat]? = some off) (ht : (pc : Int) + off = (tgt : Int)) (kk : EJ X M V rc rs tgt lv st w) : EJ X M V rc rs pc lv (vI x :: st) w := by
  intro p e s m args below meth c H locs cells slots ls hA hV hR hS hl hc hs hcr hsr
  exact lv_tableIn hA.1 hA.2.1 hd h1 h2 ho ht (kk p e s m args below meth c H locs cells slots ls hA hV hR hS hl hc hs hcr hsr)
end E0
end
section
/-! ===== fields, arrays, making, calls, ends ===== -/
def FL (own : String) (idx ci k : Nat) : Prop := ci < 12 ∧ k < cN ci ∧ Cond.fieldLink own idx (cT ci k).1 (cT ci k).2.1 (cT ci k).2.2.1 ∈ tb
theorem Rh.obj {X : Cx} {w : Wd} {H : Heap} (h : Rh X w H) {a ci : Nat} (hc : ci < 12) (ha : wK w a = ci + 1) : ∃ (L : List Nat) (q0 : Nat), va_P X.2.1 cls (va_pl L (wG X.2.2.1 w)) H ∧ va_D (Fr X) (va_pl L (wG X.2.2.1 w)) ∧ (∀ a, wK w a ≠ 0 → a ≠ 0 ∧ a - 1 ∈ L) ∧ a - 1 ∈ L ∧ (va_pl L (wG X.2.2.1 w))[q0]? = some (a - 1, .inr (ci, fl w ci a)) := by
  obtain ⟨L, hP, hD, hL⟩ := h
  obtain ⟨h0, ha'⟩ := hL a (by omega)
  obtain ⟨k, hk⟩ := va_pl_get (X := []) (f := wG X.2.2.1 w) ha'
  rw [wG_s h0, wF_obj ha hc] at hk
  exact ⟨L, k, hP, hD, hL, ha', hk⟩
theorem Rh.arr {X : Cx} {w : Wd} {H : Heap} (h : Rh X w H) {a t : Nat} (ht : 13 ≤ t) (ha : wK w a = t) : ∃ (L : List Nat) (q0 : Nat), va_P X.2.1 cls (va_pl L (wG X.2.2.1 w)) H ∧ va_D (Fr X) (va_pl L (wG X.2.2.1 w)) ∧ (∀ a, wK w a ≠ 0 → a ≠ 0 ∧ a - 1 ∈ L) ∧ a - 1 ∈ L ∧ (va_pl L (wG X.2.2.1 w))[q0]? = some (a - 1, .inl (X.2.2.1 t, wL w a, ac w t a)) := by
  obtain ⟨L, hP, hD, hL⟩ := h
  obtain ⟨h0, ha'⟩ := hL a (by omega)
  obtain ⟨k, hk⟩ := va_pl_get (X := []) (f := wG X.2.2.1 w) ha'
  rw [wG_s h0, wF_arr ha ht] at hk
  exact ⟨L, k, hP, hD, hL, ha', hk⟩
/-- a place of the pool gets another content -/
theorem Rh.set {X : Cx} {w w' : Wd} {H1 : Heap} {L : List Nat} {q0 a : Nat} {e e' : va_E} (h0 : a ≠ 0) (hD : va_D (Fr X) (va_pl L (wG X.2.2.1 w))) (hL : ∀ a, wK w a ≠ 0 → a ≠ 0 ∧ a - 1 ∈ L) (ha : a - 1 ∈ L) (he : wF X.2.2.1 w a = e) (hk : (va_pl L (wG X.2.2.1 w))[q0]? = some (a - 1, e))
    (hP1 : va_P X.2.1 cls ((va_pl L (wG X.2.2.1 w)).set q0 (a - 1, e')) H1) (hD1 : va_D (Fr X) ((va_pl L (wG X.2.2.1 w)).set q0 (a - 1, e'))) (hK : ∀ b, wK w' b = wK w b) (ho : ∀ b, b ≠ a → eqAt w w' b) (he' : wF X.2.2.1 w' a = e') : Rh X w' H1 := by
  subst he
  rw [← wG_s h0] at hk
  have hs : (va_pl L (wG X.2.2.1 w)).set q0 (a - 1, e') = va_pl L (wG X.2.2.1 w') := by
    have h1 := va_pl_set (X := []) (e := e') hD ha hk
    have h2 := va_pl_congr (L := L) (wG_up (cy := X.2.2.1) (w := w) (w' := w') (a := a - 1) (e := e') (fun b hb => (ho (b + 1) (by omega)).F) ((wG_s h0).trans he'))
    exact h1.trans h2
  rw [hs] at hP1 hD1
  exact ⟨L, hP1, hD1, fun b hb => hL b (by rw [← hK b]; exact hb)⟩
theorem Rh.push {X : Cx} {w w' : Wd} {H1 : Heap} {L : List Nat} {q : Nat} {e : va_E} (hL : ∀ a, wK w a ≠ 0 → a ≠ 0 ∧ a - 1 ∈ L) (hP1 : va_P X.2.1 cls (va_pl L (wG X.2.2.1 w) ++ [(q, e)]) H1) (hD1 : va_D (Fr X) (va_pl L (wG X.2.2.1 w) ++ [(q, e)])) (ho : ∀ b, b ≠ q + 1 → eqAt w w' b) (he : wF X.2.2.1 w' (q + 1) = e) : Rh X w' H1 ∧ wK w (q + 1) = 0 := by
  have hq : q ∉ L := va_pl_fresh2 (X := []) hD1
  have hs : va_pl L (wG X.2.2.1 w) ++ [(q, e)] = va_pl (L ++ [q]) (wG X.2.2.1 w') := by
    rw [va_pl_push hq]
    exact va_pl_congr (wG_up (fun b hb => (ho (b + 1) (by omega)).F) he)
  rw [hs] at hP1 hD1
  refine ⟨⟨L ++ [q], hP1, hD1, fun b hb => ?_⟩, ?_⟩
  · by_cases h : b = q + 1
    · subst h; exact ⟨by omega, by simp⟩
    · rw [(ho b h).1] at hb
      exact ⟨(hL b hb).1, List.mem_append_left _ (hL b hb).2⟩
  · by_cases h : wK w (q + 1) = 0
    · exact h
    · exact absurd (hL _ h).2 (by simpa using hq)
theorem vaD_last {A : Nat → Prop} {ws : va_W} {x : Nat × va_E} (h : va_D A (ws ++ [x])) : A x.1 := h.2 ws.length x (by simp)
theorem fv_I {w : Wd} {ci k a : Nat} (h : fk (cY ci k) = 0) : fv w ci k a = .int (wI w ci k a) := by simp [fv, h]
theorem fv_J {w : Wd} {ci k a : Nat} (h : fk (cY ci k) = 1) : fv w ci k a = .long (wJ w ci k a) := by simp [fv, h]
theorem fv_R {w : Wd} {ci k a : Nat} (h : fk (cY ci k) = 2) : fv w ci k a = rn (wR w ci k a) := by simp [fv, h]
section E1
variable {X : Cx} {M : Me} {V : Vw} {rc rs pc : Nat} {lv : List (Nat × Av)} {st : List Av} {w : Wd}
theorem e_get {idx ci k a : Nat} {v : Av} (hd : decode M.2.1 pc = .ok (.getfield idx, 3)) (hf : FL M.1.cls idx ci k) (ha : wK w a = ci + 1) (hv : fv w ci k a = tv v) (kk : EJ X M V rc rs (pc + 3) lv (v :: st) w) : EJ X M V rc rs pc lv (vR a :: st) w := by
  intro p e s m args below meth c H locs cells slots ls hA hV hR hS hl hc hs hcr hsr
  obtain ⟨L, q0, hP, hD, hL, haL, hk⟩ := hR.obj hf.1 ha
  have hne : a ≠ 0 := hR.ne hA.2.2.2.2.2.2.2.2.2 (by omega)
  have e1 : tv (vR a) = .ref (a - 1) := rn_ne hne
  have h2 := kk p e s m args below meth c H locs cells slots ls hA hV hR hS hl hc hs hcr hsr
  rw [List.map_cons] at h2 ⊢
  rw [e1]
  rw [← hv] at h2
  exact va_get hA.1 hA.2.1 hA.2.2.2.2.2.1 (cls_in ci hf.1) hA.2.2.2.2.1 hA.2.2.2.2.2.2.1.1 hP q0 hk (cls_get ci hf.1) k hf.2.1 (hA.2.2.2.2.2.1 _ hf.2.2) (fun _ h => h) (fl_get hf.2.1) hd h2
theorem e_getI {idx ci k a : Nat} (hd : decode M.2.1 pc = .ok (.getfield idx, 3)) (hf : FL M.1.cls idx ci k) (ht : fk (cY ci k) = 0) (ha : wK w a = ci + 1) (kk : EJ X M V rc rs (pc + 3) lv (vI (wI w ci k a) :: st) w) : EJ X M V rc rs pc lv (vR a :: st) w := e_get hd hf ha (fv_I ht) kk
theorem e_getJ {idx ci k a : Nat} (hd : decode M.2.1 pc = .ok (.getfield idx, 3)) (hf : FL M.1.cls idx ci k) (ht : fk (cY ci k) = 1) (ha : wK w a = ci + 1) (kk : EJ X M V rc rs (pc + 3) lv (vJ (wJ w ci k a) :: st) w) : EJ X M V rc rs pc lv (vR a :: st) w := e_get hd hf ha (fv_J ht) kk
theorem e_getR {idx ci k a : Nat} (hd : decode M.2.1 pc = .ok (.getfield idx, 3)) (hf : FL M.1.cls idx ci k) (ht : fk (cY ci k) = 2) (ha : wK w a = ci + 1) (kk : EJ X M V rc rs (pc + 3) lv (vR (wR w ci k a) :: st) w) : EJ X M V rc rs pc lv (vR a :: st) w := e_get hd hf ha (fv_R ht) kk
theorem e_put {idx ci k a : Nat} {v : Av} {w' : Wd} (hd : decode M.2.1 pc = .ok (.putfield idx, 3)) (hf : FL M.1.cls idx ci k) (hfin : (cT ci k).2.2.2 = false ∨ ((cT ci k).2.2.2 = true ∧ M.1.name = "<init>" ∧ (cT ci k).1 = M.1.cls)) (ha : wK w a = ci + 1) (hn : narrow (cY ci k) (tv v) = tv v) (hft : fits (cY ci k) (tv v) = true)
    (hK : ∀ b, wK w' b = wK w b) (ho : ∀ b, b ≠ a → eqAt w w' b) (hv : fv w' ci k a = tv v) (hj : ∀ j, j ≠ k → fv w' ci j a = fv w ci j a) (kk : EJ X M V rc rs (pc + 3) lv st w') : EJ X M V rc rs pc lv (v :: vR a :: st) w := by
  intro p e s m args below meth c H locs cells slots ls hA hV hR hS hl hc hs hcr hsr
  obtain ⟨L, q0, hP, hD, hL, haL, hk⟩ := hR.obj hf.1 ha
  have hne : a ≠ 0 := hR.ne hA.2.2.2.2.2.2.2.2.2 (by omega)
  have e1 : tv (vR a) = .ref (a - 1) := rn_ne hne
  rw [List.map_cons, List.map_cons, e1]
  have go : ∀ (H1 : Heap) (locs1 : List Loc), va_P X.2.1 cls ((va_pl L (wG X.2.2.1 w)).set q0 (a - 1, .inr (ci, (fl w ci a).set k (tv v)))) H1 → va_D (Fr X) ((va_pl L (wG X.2.2.1 w)).set q0 (a - 1, .inr (ci, (fl w ci a).set k (tv v)))) → va_S (Fr X) X.2.2.2 H1 locs1 → W p X.1 e V.1 s m args below meth c H1 locs1 cells slots (V.2.2.2.1 below args s) (F0 m (pc + 3) ls (st.map tv)) := by
    intro H1 locs1 hP1 hD1 hS1
    have hR1 : Rh X w' H1 := Rh.set hne hD hL haL (wF_obj ha hf.1) hk hP1 hD1 hK ho (by rw [wF_obj (by rw [hK a]; exact ha) hf.1, fl_set hv hj])
    exact kk p e s m args below meth c H1 locs1 cells slots ls hA hV hR1 hS1 hl hc hs hcr hsr
  rcases hfin with hfin | ⟨hfin, hnm, hdecl⟩
  · exact va_put hA.1 hA.2.1 hA.2.2.2.2.2.1 (cls_in ci hf.1) (cY ci) (cls_ty ci hf.1) (cls_nm ci hf.1) hA.2.2.2.2.1 hA.2.2.2.2.2.2.1.1 hP hD hS q0 hk (cls_get ci hf.1) k hf.2.1 (hA.2.2.2.2.2.1 _ hf.2.2) (fun _ h => h) hfin (cls_ty ci hf.1 k hf.2.1) hn hft (by rw [fl_len]; exact hf.2.1) hd go
  · exact va_putF hA.1 hA.2.1 hA.2.2.2.2.2.1 (cls_in ci hf.1) (cY ci) (cls_ty ci hf.1) (cls_nm ci hf.1) hA.2.2.2.2.1 hA.2.2.2.2.2.2.1.1 hP hD hS q0 hk (cls_get ci hf.1) k hf.2.1 (hA.2.2.2.2.2.1 _ hf.2.2) (fun _ h => h) hfin (hA.2.2.2.2.2.2.2.2.1.trans hnm) hdecl (cls_ty ci hf.1 k hf.2.1) hn hft (by rw [fl_len]; exact hf.2.1) hd go
theorem e_putI {idx ci k a : Nat} {x : Int32} (hd : decode M.2.1 pc = .ok (.putfield idx, 3)) (hf : FL M.1.cls idx ci k) (hfin : (cT ci k).2.2.2 = false ∨ ((cT ci k).2.2.2 = true ∧ M.1.name = "<init>" ∧ (cT ci k).1 = M.1.cls)) (ht : cY ci k = .int) (ha : wK w a = ci + 1) (kk : EJ X M V rc rs (pc + 3) lv st (sI w ci k a x)) : EJ X M V rc rs pc lv (vI x :: vR a :: st) w := by
  refine e_put (w' := sI w ci k a x) hd hf hfin ha (by rw [ht]; rfl) (by rw [ht]; rfl) (fun _ => rfl) (fun b hb => eqAt_sI hb) ?_ (fun j hj => ?_) kk
  · rw [fv_I (by rw [ht]; rfl)]
    simp [wI, sI, u3, tv]
  · unfold fv
    simp [wI, wJ, wR, sI, u3, hj]
theorem e_putZ {idx ci k a : Nat} {x : Int32} (hd : decode M.2.1 pc = .ok (.putfield idx, 3)) (hf : FL M.1.cls idx ci k) (hfin : (cT ci k).2.2.2 = false ∨ ((cT ci k).2.2.2 = true ∧ M.1.name = "<init>" ∧ (cT ci k).1 = M.1.cls)) (ht : cY ci k = .boolean) (ha : wK w a = ci + 1) (hx : x = 0 ∨ x = 1) (kk : EJ X M V rc rs (pc + 3) lv st (sI w ci k a x)) : EJ X M V rc rs pc lv (vI x :: vR a :: st) w := by
  refine e_put (w' := sI w ci k a x) hd hf hfin ha (by rw [ht]; rcases hx with rfl | rfl <;> rfl) (by rw [ht]; rcases hx with rfl | rfl <;> rfl) (fun _ => rfl) (fun b hb => eqAt_sI hb) ?_ (fun j hj => ?_) kk
  · rw [fv_I (by rw [ht]; rfl)]
    simp [wI, sI, u3, tv]
  · unfold fv
    simp [wI, wJ, wR, sI, u3, hj]
theorem e_putJ {idx ci k a : Nat} {x : Int64} (hd : decode M.2.1 pc = .ok (.putfield idx, 3)) (hf : FL M.1.cls idx ci k) (hfin : (cT ci k).2.2.2 = false ∨ ((cT ci k).2.2.2 = true ∧ M.1.name = "<init>" ∧ (cT ci k).1 = M.1.cls)) (ht : cY ci k = .long) (ha : wK w a = ci + 1) (kk : EJ X M V rc rs (pc + 3) lv st (sJ w ci k a x)) : EJ X M V rc rs pc lv (vJ x :: vR a :: st) w := by
  refine e_put (w' := sJ w ci k a x) hd hf hfin ha (by rw [ht]; rfl) (by rw [ht]; rfl) (fun _ => rfl) (fun b hb => eqAt_sJ hb) ?_ (fun j hj => ?_) kk
  · rw [fv_J (by rw [ht]; rfl)]
    simp [wJ, sJ, u3, tv]
  · unfold fv
    simp [wI, wJ, wR, sJ, u3, hj]
theorem nf_R {t : FieldType} (h : fk t = 2) (a : Nat) : narrow t (rn a) = rn a ∧ fits t (rn a) = true := by
  by_cases ha : a = 0
  · subst ha
    cases t <;> first | exact ⟨rfl, rfl⟩ | cases h
  · rw [rn_ne ha]
    cases t <;> first | exact ⟨rfl, rfl⟩ | cases h
theorem e_putR {idx ci k a : Nat} {x : Nat} (hd : decode M.2.1 pc = .ok (.putfield idx, 3)) (hf : FL M.1.cls idx ci k) (hfin : (cT ci k).2.2.2 = false ∨ ((cT ci k).2.2.2 = true ∧ M.1.name = "<init>" ∧ (cT ci k).1 = M.1.cls)) (ht : fk (cY ci k) = 2) (ha : wK w a = ci + 1) (kk : EJ X M V rc rs (pc + 3) lv st (sR w ci k a x)) : EJ X M V rc rs pc lv (vR x :: vR a :: st) w := by
  refine e_put (w' := sR w ci k a x) hd hf hfin ha (nf_R ht x).1 (nf_R ht x).2 (fun _ => rfl) (fun b hb => eqAt_sR hb) ?_ (fun j hj => ?_) kk
  · rw [fv_R ht]
    simp [wR, sR, u3, tv]
  · unfold fv
    simp [wI, wJ, wR, sR, u3, hj]
theorem e_alen {a t : Nat} (hd : decode M.2.1 pc = .ok (.arraylength, 1)) (ht1 : 13 ≤ t) (ht2 : t < 19) (ha : wK w a = t) (kk : EJ X M V rc rs (pc + 1) lv (vI (Int32.ofNat (wL w a)) :: st) w) : EJ X M V rc rs pc lv (vR a :: st) w := by
  intro p e s m args below meth c H locs cells slots ls hA hV hR hS hl hc hs hcr hsr
  obtain ⟨L, q0, hP, hD, hL, haL, hk⟩ := hR.arr ht1 ha
  have hne : a ≠ 0 := hR.ne hA.2.2.2.2.2.2.2.2.2 (by omega)
  have e1 : tv (vR a) = .ref (a - 1) := rn_ne hne
  rw [List.map_cons, e1]
  exact va_alen hA.1 hA.2.1 hA.2.2.2.2.2.2.1.1 hP q0 (t - 13) hk (tysX_get X t ht1 ht2) rfl hd (kk p e s m args below meth c H locs cells slots ls hA hV hR hS hl hc hs hcr hsr)

theorem e_iald {a : Nat} {i : Int32} (hd : decode M.2.1 pc = .ok (.iaload, 1)) (ha : wK w a = 13) (hi : vp_in i (wL w a)) (kk : EJ X M V rc rs (pc + 1) lv (vI (xI w a i.toNatClampNeg) :: st) w) : EJ X M V rc rs pc lv (vI i :: vR a :: st) w := by
  intro p e s m args below meth c H locs cells slots ls hA hV hR hS hl hc hs hcr hsr
  obtain ⟨L, q0, hP, hD, hL, haL, hk⟩ := hR.arr (by omega) ha
  have hne : a ≠ 0 := hR.ne hA.2.2.2.2.2.2.2.2.2 (by omega)
  have e1 : tv (vR a) = .ref (a - 1) := rn_ne hne
  rw [List.map_cons, List.map_cons, e1]
  exact va_iald hA.1 hA.2.1 hA.2.2.2.2.2.2.1.1 hP q0 (13 - 13) hk (tysX_get X 13 (by omega) (by omega)) hi hd (kk p e s m args below meth c H locs cells slots ls hA hV hR hS hl hc hs hcr hsr)
theorem e_zald {a : Nat} {i : Int32} (hd : decode M.2.1 pc = .ok (.baload, 1)) (ha : wK w a = 15) (hi : vp_in i (wL w a)) (kk : EJ X M V rc rs (pc + 1) lv (vI (xI w a i.toNatClampNeg) :: st) w) : EJ X M V rc rs pc lv (vI i :: vR a :: st) w := by
  intro p e s m args below meth c H locs cells slots ls hA hV hR hS hl hc hs hcr hsr
  obtain ⟨L, q0, hP, hD, hL, haL, hk⟩ := hR.arr (by omega) ha
  have hne : a ≠ 0 := hR.ne hA.2.2.2.2.2.2.2.2.2 (by omega)
  have e1 : tv (vR a) = .ref (a - 1) := rn_ne hne
  rw [List.map_cons, List.map_cons, e1]
  exact va_zald hA.1 hA.2.1 hA.2.2.2.2.2.2.1.1 hP q0 (15 - 13) hk (tysX_get X 15 (by omega) (by omega)) hi hd (kk p e s m args below meth c H locs cells slots ls hA hV hR hS hl hc hs hcr hsr)
theorem e_lald {a : Nat} {i : Int32} (hd : decode M.2.1 pc = .ok (.laload, 1)) (ha : wK w a = 14) (hi : vp_in i (wL w a)) (kk : EJ X M V rc rs (pc + 1) lv (vJ (xJ w a i.toNatClampNeg) :: st) w) : EJ X M V rc rs pc lv (vI i :: vR a :: st) w := by
  intro p e s m args below meth c H locs cells slots ls hA hV hR hS hl hc hs hcr hsr
  obtain ⟨L, q0, hP, hD, hL, haL, hk⟩ := hR.arr (by omega) ha
  have hne : a ≠ 0 := hR.ne hA.2.2.2.2.2.2.2.2.2 (by omega)
  have e1 : tv (vR a) = .ref (a - 1) := rn_ne hne
  rw [List.map_cons, List.map_cons, e1]
  exact va_lald hA.1 hA.2.1 hA.2.2.2.2.2.2.1.1 hP q0 (14 - 13) hk (tysX_get X 14 (by omega) (by omega)) hi hd (kk p e s m args below meth c H locs cells slots ls hA hV hR hS hl hc hs hcr hsr)
theorem e_aald {a t : Nat} {i : Int32} (hd : decode M.2.1 pc = .ok (.aaload, 1)) (ht1 : 16 ≤ t) (ht2 : t < 19) (ha : wK w a = t) (hi : vp_in i (wL w a)) (kk : EJ X M V rc rs (pc + 1) lv (vR (xR w a i.toNatClampNeg) :: st) w) : EJ X M V rc rs pc lv (vI i :: vR a :: st) w := by
  intro p e s m args below meth c H locs cells slots ls hA hV hR hS hl hc hs hcr hsr
  obtain ⟨L, q0, hP, hD, hL, haL, hk⟩ := hR.arr (by omega) ha
  have hne : a ≠ 0 := hR.ne hA.2.2.2.2.2.2.2.2.2 (by omega)
  have e1 : tv (vR a) = .ref (a - 1) := rn_ne hne
  rw [List.map_cons, List.map_cons, e1]
  have hac : ac w t a = .inr (.inr (.inr (.inr (fun i => nz (xR w a i))))) := by unfold ac; rw [if_neg (by omega), if_neg (by omega)]
  rw [hac] at hk
  have htt := tysX_get X t (by omega) ht2
  have h2 := kk p e s m args below meth c H locs cells slots ls hA hV hR hS hl hc hs hcr hsr
  match t, ht1, ht2, htt, hk with
  | 16, _, _, htt, hk => exact va_aldq hA.1 hA.2.1 hA.2.2.2.2.2.2.1.1 hP q0 3 hk htt hi hd h2
  | 17, _, _, htt, hk => exact va_aldq hA.1 hA.2.1 hA.2.2.2.2.2.2.1.1 hP q0 4 hk htt hi hd h2
  | 18, _, _, htt, hk => exact va_aldq hA.1 hA.2.1 hA.2.2.2.2.2.2.1.1 hP q0 5 hk htt hi hd h2
  | n + 19, _, h, _, _ => exact absurd h (by omega)
theorem e_iast {a : Nat} {i : Int32} {x : Int32} (hd : decode M.2.1 pc = .ok (.iastore, 1)) (ha : wK w a = 13) (hi : vp_in i (wL w a)) (kk : EJ X M V rc rs (pc + 1) lv st (yI w a i.toNatClampNeg x)) : EJ X M V rc rs pc lv (vI x :: vI i :: vR a :: st) w := by
  intro p e s m args below meth c H locs cells slots ls hA hV hR hS hl hc hs hcr hsr
  obtain ⟨L, q0, hP, hD, hL, haL, hk⟩ := hR.arr (by omega) ha
  have hne : a ≠ 0 := hR.ne hA.2.2.2.2.2.2.2.2.2 (by omega)
  have e1 : tv (vR a) = .ref (a - 1) := rn_ne hne
  rw [List.map_cons, List.map_cons, List.map_cons, e1]
  refine va_iast hA.1 hA.2.1 hA.2.2.2.2.2.2.1.1 hP hD hS q0 (13 - 13) hk (tysX_get X 13 (by omega) (by omega)) hi hd (fun H1 locs1 hP1 hD1 hS1 => ?_)
  have hR1 : Rh X (yI w a i.toNatClampNeg x) H1 := by
    refine Rh.set hne hD hL haL (wF_arr ha (by omega)) hk hP1 hD1 (fun _ => rfl) (fun b hb => eqAt_yI hb) ?_
    rw [wF_arr (show wK (yI w a i.toNatClampNeg x) a = 13 from ha) (by omega)]
    have hx : xI (yI w a i.toNatClampNeg x) a = upd (xI w a) i.toNatClampNeg x := by
      funext j
      by_cases hj : j = i.toNatClampNeg <;> simp [xI, yI, u2, upd, hj]
    show Sum.inl (_, _, ac (yI w a i.toNatClampNeg x) 13 a) = _
    unfold ac
    simp [hx]
    rfl
  exact kk p e s m args below meth c H1 locs1 cells slots ls hA hV hR1 hS1 hl hc hs hcr hsr
theorem e_zast {a : Nat} {i : Int32} {x : Int32} (hd : decode M.2.1 pc = .ok (.bastore, 1)) (ha : wK w a = 15) (hi : vp_in i (wL w a)) (kk : EJ X M V rc rs (pc + 1) lv st (yI w a i.toNatClampNeg (vp_nar .boolean x))) : EJ X M V rc rs pc lv (vI x :: vI i :: vR a :: st) w := by
  intro p e s m args below meth c H locs cells slots ls hA hV hR hS hl hc hs hcr hsr
  obtain ⟨L, q0, hP, hD, hL, haL, hk⟩ := hR.arr (by omega) ha
  have hne : a ≠ 0 := hR.ne hA.2.2.2.2.2.2.2.2.2 (by omega)
  have e1 : tv (vR a) = .ref (a - 1) := rn_ne hne
  rw [List.map_cons, List.map_cons, List.map_cons, e1]
  refine va_zast hA.1 hA.2.1 hA.2.2.2.2.2.2.1.1 hP hD hS q0 (15 - 13) hk (tysX_get X 15 (by omega) (by omega)) hi hd (fun H1 locs1 hP1 hD1 hS1 => ?_)
  have hR1 : Rh X (yI w a i.toNatClampNeg (vp_nar .boolean x)) H1 := by
    refine Rh.set hne hD hL haL (wF_arr ha (by omega)) hk hP1 hD1 (fun _ => rfl) (fun b hb => eqAt_yI hb) ?_
    rw [wF_arr (show wK (yI w a i.toNatClampNeg (vp_nar .boolean x)) a = 15 from ha) (by omega)]
    have hx : xI (yI w a i.toNatClampNeg (vp_nar .boolean x)) a = upd (xI w a) i.toNatClampNeg (vp_nar .boolean x) := by
      funext j
      by_cases hj : j = i.toNatClampNeg <;> simp [xI, yI, u2, upd, hj]
    show Sum.inl (_, _, ac (yI w a i.toNatClampNeg (vp_nar .boolean x)) 15 a) = _
    unfold ac
    simp [hx]
    rfl
  exact kk p e s m args below meth c H1 locs1 cells slots ls hA hV hR1 hS1 hl hc hs hcr hsr
theorem e_last {a : Nat} {i : Int32} {x : Int64} (hd : decode M.2.1 pc = .ok (.lastore, 1)) (ha : wK w a = 14) (hi : vp_in i (wL w a)) (kk : EJ X M V rc rs (pc + 1) lv st (yJ w a i.toNatClampNeg x)) : EJ X M V rc rs pc lv (vJ x :: vI i :: vR a :: st) w := by
  intro p e s m args below meth c H locs cells slots ls hA hV hR hS hl hc hs hcr hsr
  obtain ⟨L, q0, hP, hD, hL, haL, hk⟩ := hR.arr (by omega) ha
  have hne : a ≠ 0 := hR.ne hA.2.2.2.2.2.2.2.2.2 (by omega)
  have e1 : tv (vR a) = .ref (a - 1) := rn_ne hne
  rw [List.map_cons, List.map_cons, List.map_cons, e1]
  refine va_last hA.1 hA.2.1 hA.2.2.2.2.2.2.1.1 hP hD hS q0 (14 - 13) hk (tysX_get X 14 (by omega) (by omega)) hi hd (fun H1 locs1 hP1 hD1 hS1 => ?_)
  have hR1 : Rh X (yJ w a i.toNatClampNeg x) H1 := by
    refine Rh.set hne hD hL haL (wF_arr ha (by omega)) hk hP1 hD1 (fun _ => rfl) (fun b hb => eqAt_yJ hb) ?_
    rw [wF_arr (show wK (yJ w a i.toNatClampNeg x) a = 14 from ha) (by omega)]
    have hx : xJ (yJ w a i.toNatClampNeg x) a = vp_updL (xJ w a) i.toNatClampNeg x := by
      funext j
      by_cases hj : j = i.toNatClampNeg <;> simp [xJ, yJ, u2, vp_updL, hj]
    show Sum.inl (_, _, ac (yJ w a i.toNatClampNeg x) 14 a) = _
    unfold ac
    simp [hx]
    rfl
  exact kk p e s m args below meth c H1 locs1 cells slots ls hA hV hR1 hS1 hl hc hs hcr hsr
theorem e_aast {a t v ci : Nat} {i : Int32} (hd : decode M.2.1 pc = .ok (.aastore, 1)) (ht : (t = 16 ∧ ci = 0) ∨ (t = 17 ∧ ci = 2) ∨ (t = 18 ∧ ci = 3)) (ha : wK w a = t) (hv : wK w v = ci + 1) (hi : vp_in i (wL w a)) (kk : EJ X M V rc rs (pc + 1) lv st (yR w a i.toNatClampNeg v)) : EJ X M V rc rs pc lv (vR v :: vI i :: vR a :: st) w := by
  intro p e s m args below meth c H locs cells slots ls hA hV hR hS hl hc hs hcr hsr
  obtain ⟨L, q0, hP, hD, hL, haL, hk⟩ := hR.arr (by omega) ha
  have hne : a ≠ 0 := hR.ne hA.2.2.2.2.2.2.2.2.2 (by omega)
  have hnv : v ≠ 0 := hR.ne hA.2.2.2.2.2.2.2.2.2 (by omega)
  have e1 : tv (vR a) = .ref (a - 1) := rn_ne hne
  have e2 : tv (vR v) = .ref (v - 1) := rn_ne hnv
  obtain ⟨qk, hkv⟩ := va_pl_get (X := []) (f := wG X.2.2.1 w) (hL v (by omega)).2
  rw [wG_s hnv, wF_obj hv (by omega)] at hkv
  rw [List.map_cons, List.map_cons, List.map_cons, e1, e2]
  have hac : ac w t a = .inr (.inr (.inr (.inr (fun i => nz (xR w a i))))) := by unfold ac; rw [if_neg (by omega), if_neg (by omega)]
  have hk' := hk
  rw [hac] at hk'
  have go : ∀ (H1 : Heap) (locs1 : List Loc), va_P X.2.1 cls ((va_pl L (wG X.2.2.1 w)).set q0 (a - 1, .inl (X.2.2.1 t, wL w a, .inr (.inr (.inr (.inr (va_up (fun i => nz (xR w a i)) i.toNatClampNeg (some (v - 1))))))))) H1 → va_D (Fr X) ((va_pl L (wG X.2.2.1 w)).set q0 (a - 1, .inl (X.2.2.1 t, wL w a, .inr (.inr (.inr (.inr (va_up (fun i => nz (xR w a i)) i.toNatClampNeg (some (v - 1))))))))) → va_S (Fr X) X.2.2.2 H1 locs1 → W p X.1 e V.1 s m args below meth c H1 locs1 cells slots (V.2.2.2.1 below args s) (F0 m (pc + 1) ls (st.map tv)) := by
    intro H1 locs1 hP1 hD1 hS1
    have hR1 : Rh X (yR w a i.toNatClampNeg v) H1 := by
      refine Rh.set hne hD hL haL (wF_arr ha (by omega)) hk hP1 hD1 (fun _ => rfl) (fun b hb => eqAt_yR hb) ?_
      rw [wF_arr (show wK (yR w a i.toNatClampNeg v) a = t from ha) (by omega)]
      have hx : (fun j => nz (xR (yR w a i.toNatClampNeg v) a j)) = va_up (fun i => nz (xR w a i)) i.toNatClampNeg (some (v - 1)) := by
        funext j
        by_cases hj : j = i.toNatClampNeg <;> simp [xR, yR, u2, va_up, hj, nz_ne hnv]
      show Sum.inl (_, _, ac (yR w a i.toNatClampNeg v) t a) = _
      unfold ac
      rw [if_neg (by omega), if_neg (by omega), hx]
      rfl
    exact kk p e s m args below meth c H1 locs1 cells slots ls hA hV hR1 hS1 hl hc hs hcr hsr
  rcases ht with ⟨rfl, rfl⟩ | ⟨rfl, rfl⟩ | ⟨rfl, rfl⟩
  · exact va_astq (r := (RX0, TX0, 2)) hA.1 hA.2.1 hA.2.2.2.2.2.2.1.1 hP hD hS q0 3 qk 0 hk' rfl hkv rfl hi hd go
  · exact va_astq (r := (RX2, TX2, 13)) hA.1 hA.2.1 hA.2.2.2.2.2.2.1.1 hP hD hS q0 4 qk 2 hk' rfl hkv rfl hi hd go
  · exact va_astq (r := (RX3, TX3, 5)) hA.1 hA.2.1 hA.2.2.2.2.2.2.1.1 hP hD hS q0 5 qk 3 hk' rfl hkv rfl hi hd go
def dv (t : FieldType) : Value := match fk t with
  | 1 => .long 0
  | 2 => .null
  | _ => .int 0
theorem e_new {idx ci : Nat} (hd : decode M.2.1 pc = .ok (.new idx, 3)) (hc12 : ci < 12) (hcl : Cond.classLink M.1.cls idx (cR ci) ∈ tb) (hdv : ∀ j, j < cN ci → defaultValue (cY ci j) = dv (cY ci j)) {rc' rs' : Nat} (h1 : rc = rc' + 1) (h2 : rs = rs' + cN ci) (kk : ∀ q : Nat, wK w q = 0 → q ≠ 0 → EJ X M V rc' rs' (pc + 3) lv (vR q :: st) (nO w ci q)) : EJ X M V rc rs pc lv st w := by
  intro p e s m args below meth c H locs cells slots ls hA hV hR hS hl hc hs hcr hsr
  obtain ⟨L, hP, hD, hL⟩ := hR
  subst h1 h2
  refine va_new (ci := ci) (fs := (List.range (cN ci)).map (fun k => dv (cY ci k))) hA.1 hA.2.1 hA.2.2.2.2.2.1 (cls_in ci hc12) (cY ci) (cls_ty ci hc12) hA.2.2.2.2.1 (hA.2.2.2.2.2.1 _ hcl) (hA.2.2.2.2.2.1 _ (cls_inst ci hc12).1) (hA.2.2.2.2.2.1 _ (cls_inst ci hc12).2) hA.2.2.2.2.2.2.1.1 hP hD hS (fun _ h => h) (cls_get ci hc12) (fun j hj => by rw [hdv j hj]; simp [vp_V, hj]) (by omega) (by omega) hd (fun q H1 hP1 hD1 hS1 => ?_)
  have hF : wF X.2.2.1 (nO w ci (q + 1)) (q + 1) = .inr (ci, (List.range (cN ci)).map (fun k => dv (cY ci k))) := by
    rw [wF_obj (by simp [wK, nO, va_up]) hc12]
    congr 2
    unfold fl
    apply List.map_congr_left
    intro k hk
    unfold fv dv
    have e0 : rn 0 = Value.null := rfl
    split <;> simp_all [wI, wJ, wR, nO, z3]
  obtain ⟨hR1, hq⟩ := Rh.push hL hP1 hD1 (fun b hb => eqAt_nO hb) hF
  have e1 : tv (vR (q + 1)) = .ref q := rn_ne (by omega)
  have h5 := kk (q + 1) hq (by omega) p e s m args below meth c H1 locs (cells + 1) (slots + cN ci) ls hA hV hR1 hS1 hl (by omega) (by omega) hcr hsr
  rw [List.map_cons, e1] at h5
  exact h5
theorem RA_inj {U : State} {c1 c2 : ClassId} {ty : FieldType} (h1 : va_RA U c1 ty) (h2 : va_RA U c2 ty) : c1 = c2 := by
  cases ty with
  | object C =>
    obtain ⟨_, _, _, _, _, a⟩ := h1
    obtain ⟨_, _, _, _, _, b⟩ := h2
    rw [a] at b
    exact Option.some.inj b
  | _ =>
    have a : U.vm.findClass _ = some c1 := h1
    have b : U.vm.findClass _ = some c2 := h2
    rw [a] at b
    exact Option.some.inj b

theorem e_newI {n : Int32} {N : Nat} (hd : decode M.2.1 pc = .ok (.newarray .int, 2)) (hn : ¬ n < 0) (hN : n.toNatClampNeg = N) (hb : N ≤ 60000) {rc' rs' : Nat} (h1 : rc = rc' + 1) (h2 : rs = rs' + N) (kk : ∀ q : Nat, wK w q = 0 → q ≠ 0 → EJ X M V rc' rs' (pc + 2) lv (vR q :: st) (nA w 13 q N)) : EJ X M V rc rs pc lv (vI n :: st) w := by
  intro p e s m args below meth c H locs cells slots ls hA hV hR hS hl hc hs hcr hsr
  obtain ⟨L, hP, hD, hL⟩ := hR
  subst h1 h2
  refine va_newa (atype := .int) (ty := .int) (a0 := (N, .inl (fun _ => 0))) hA.1 hA.2.1 (hA.2.2.2.2.2.1 (Cond.arrayClass .int) (tb_of (by decide +kernel) rfl)) rfl hA.2.2.2.2.2.2.1.1 hP hD hS (fun _ h => h) (fun cA => rfl) hn hN (by simp [componentBytes]; omega) (by omega) (by omega) hd (fun q cA H1 hK1 hP1 hD1 hS1 => ?_)
  have hcA : cA = X.2.2.1 13 := RA_inj (hK1.2 6 (cA, .int) rfl).2 (hA.2.2.2.2.2.2.1.1.2 (13 - 13) _ (tysX_get X 13 (by omega) (by omega))).2
  subst hcA
  have hF : wF X.2.2.1 (nA w 13 (q + 1) N) (q + 1) = .inl (X.2.2.1 13, (N, .inl (fun _ => 0))) := by
    rw [wF_arr (t := 13) (by simp [wK, nA, va_up]) (by omega)]
    congr 2
    refine Prod.ext (by simp [wL, nA, va_up]) ?_
    have hi : xI (nA w 13 (q + 1) N) (q + 1) = fun _ => 0 := by funext j; simp [xI, nA, z2]
    have hj : xJ (nA w 13 (q + 1) N) (q + 1) = fun _ => 0 := by funext j; simp [xJ, nA, z2]
    show ac (nA w 13 (q + 1) N) 13 (q + 1) = _
    unfold ac
    simp [hi, hj]
  obtain ⟨hR1, hq⟩ := Rh.push hL hP1 hD1 (fun b hb => eqAt_nA hb) hF
  have e1 : tv (vR (q + 1)) = .ref q := rn_ne (by omega)
  have h5 := kk (q + 1) hq (by omega) p e s m args below meth c H1 locs (cells + 1) (slots + N) ls hA hV hR1 hS1 hl (by omega) (by omega) hcr hsr
  rw [List.map_cons, e1] at h5
  exact h5
theorem e_newJ {n : Int32} {N : Nat} (hd : decode M.2.1 pc = .ok (.newarray .long, 2)) (hn : ¬ n < 0) (hN : n.toNatClampNeg = N) (hb : N ≤ 60000) {rc' rs' : Nat} (h1 : rc = rc' + 1) (h2 : rs = rs' + N) (kk : ∀ q : Nat, wK w q = 0 → q ≠ 0 → EJ X M V rc' rs' (pc + 2) lv (vR q :: st) (nA w 14 q N)) : EJ X M V rc rs pc lv (vI n :: st) w := by
  intro p e s m args below meth c H locs cells slots ls hA hV hR hS hl hc hs hcr hsr
  obtain ⟨L, hP, hD, hL⟩ := hR
  subst h1 h2
  refine va_newa (atype := .long) (ty := .long) (a0 := (N, .inr (.inl (fun _ => 0)))) hA.1 hA.2.1 (hA.2.2.2.2.2.1 (Cond.arrayClass .long) (tb_of (by decide +kernel) rfl)) rfl hA.2.2.2.2.2.2.1.1 hP hD hS (fun _ h => h) (fun cA => rfl) hn hN (by simp [componentBytes]; omega) (by omega) (by omega) hd (fun q cA H1 hK1 hP1 hD1 hS1 => ?_)
  have hcA : cA = X.2.2.1 14 := RA_inj (hK1.2 6 (cA, .long) rfl).2 (hA.2.2.2.2.2.2.1.1.2 (14 - 13) _ (tysX_get X 14 (by omega) (by omega))).2
  subst hcA
  have hF : wF X.2.2.1 (nA w 14 (q + 1) N) (q + 1) = .inl (X.2.2.1 14, (N, .inr (.inl (fun _ => 0)))) := by
    rw [wF_arr (t := 14) (by simp [wK, nA, va_up]) (by omega)]
    congr 2
    refine Prod.ext (by simp [wL, nA, va_up]) ?_
    have hi : xI (nA w 14 (q + 1) N) (q + 1) = fun _ => 0 := by funext j; simp [xI, nA, z2]
    have hj : xJ (nA w 14 (q + 1) N) (q + 1) = fun _ => 0 := by funext j; simp [xJ, nA, z2]
    show ac (nA w 14 (q + 1) N) 14 (q + 1) = _
    unfold ac
    simp [hi, hj]
  obtain ⟨hR1, hq⟩ := Rh.push hL hP1 hD1 (fun b hb => eqAt_nA hb) hF
  have e1 : tv (vR (q + 1)) = .ref q := rn_ne (by omega)
  have h5 := kk (q + 1) hq (by omega) p e s m args below meth c H1 locs (cells + 1) (slots + N) ls hA hV hR1 hS1 hl (by omega) (by omega) hcr hsr
  rw [List.map_cons, e1] at h5
  exact h5
theorem e_newZ {n : Int32} {N : Nat} (hd : decode M.2.1 pc = .ok (.newarray .boolean, 2)) (hn : ¬ n < 0) (hN : n.toNatClampNeg = N) (hb : N ≤ 60000) {rc' rs' : Nat} (h1 : rc = rc' + 1) (h2 : rs = rs' + N) (kk : ∀ q : Nat, wK w q = 0 → q ≠ 0 → EJ X M V rc' rs' (pc + 2) lv (vR q :: st) (nA w 15 q N)) : EJ X M V rc rs pc lv (vI n :: st) w := by
  intro p e s m args below meth c H locs cells slots ls hA hV hR hS hl hc hs hcr hsr
  obtain ⟨L, hP, hD, hL⟩ := hR
  subst h1 h2
  refine va_newa (atype := .boolean) (ty := .boolean) (a0 := (N, .inl (fun _ => 0))) hA.1 hA.2.1 (hA.2.2.2.2.2.1 (Cond.arrayClass .boolean) (tb_of (by decide +kernel) rfl)) rfl hA.2.2.2.2.2.2.1.1 hP hD hS (fun _ h => h) (fun cA => rfl) hn hN (by simp [componentBytes]; omega) (by omega) (by omega) hd (fun q cA H1 hK1 hP1 hD1 hS1 => ?_)
  have hcA : cA = X.2.2.1 15 := RA_inj (hK1.2 6 (cA, .boolean) rfl).2 (hA.2.2.2.2.2.2.1.1.2 (15 - 13) _ (tysX_get X 15 (by omega) (by omega))).2
  subst hcA
  have hF : wF X.2.2.1 (nA w 15 (q + 1) N) (q + 1) = .inl (X.2.2.1 15, (N, .inl (fun _ => 0))) := by
    rw [wF_arr (t := 15) (by simp [wK, nA, va_up]) (by omega)]
    congr 2
    refine Prod.ext (by simp [wL, nA, va_up]) ?_
    have hi : xI (nA w 15 (q + 1) N) (q + 1) = fun _ => 0 := by funext j; simp [xI, nA, z2]
    have hj : xJ (nA w 15 (q + 1) N) (q + 1) = fun _ => 0 := by funext j; simp [xJ, nA, z2]
    show ac (nA w 15 (q + 1) N) 15 (q + 1) = _
    unfold ac
    simp [hi, hj]
  obtain ⟨hR1, hq⟩ := Rh.push hL hP1 hD1 (fun b hb => eqAt_nA hb) hF
  have e1 : tv (vR (q + 1)) = .ref q := rn_ne (by omega)
  have h5 := kk (q + 1) hq (by omega) p e s m args below meth c H1 locs (cells + 1) (slots + N) ls hA hV hR1 hS1 hl (by omega) (by omega) hcr hsr
  rw [List.map_cons, e1] at h5
  exact h5
theorem e_newR {idx t : Nat} {C : String} {n : Int32} {N : Nat} (hd : decode M.2.1 pc = .ok (.anewarray idx, 3)) (ht : (t = 16 ∧ C = RX0) ∨ (t = 17 ∧ C = RX2) ∨ (t = 18 ∧ C = RX3)) (hcl : Cond.classLink M.1.cls idx C ∈ tb) (hn : ¬ n < 0) (hN : n.toNatClampNeg = N) (hb : N ≤ 60000) {rc' rs' : Nat} (h1 : rc = rc' + 1) (h2 : rs = rs' + N) (kk : ∀ q : Nat, wK w q = 0 → q ≠ 0 → EJ X M V rc' rs' (pc + 3) lv (vR q :: st) (nA w t q N)) : EJ X M V rc rs pc lv (vI n :: st) w := by
  intro p e s m args below meth c H locs cells slots ls hA hV hR hS hl hc hs hcr hsr
  obtain ⟨L, hP, hD, hL⟩ := hR
  subst h1 h2
  have AO := hA.2.2.2.2.2.2.1.2
  refine va_newq (C := C) hA.1 hA.2.1 hA.2.2.2.2.1 (hA.2.2.2.2.2.1 _ hcl) (ht.elim (fun q => by rw [q.2]; exact AO.1) (fun q => q.elim (fun q => by rw [q.2]; exact AO.2.1) (fun q => by rw [q.2]; exact AO.2.2))) hA.2.2.2.2.2.2.1.1 hP hD hS (fun _ h => h) hn hN (by omega) (by omega) (by omega) hd (fun q cA H1 hK1 hP1 hD1 hS1 => ?_)
  have hcA : cA = X.2.2.1 t := by
    have a1 := (hK1.2 6 (cA, .object C) rfl).2
    have a2 := (hA.2.2.2.2.2.2.1.1.2 (t - 13) _ (tysX_get X t (by omega) (by omega))).2
    rcases ht with ⟨rfl, rfl⟩ | ⟨rfl, rfl⟩ | ⟨rfl, rfl⟩ <;> exact RA_inj a1 a2
  subst hcA
  have hF : wF X.2.2.1 (nA w t (q + 1) N) (q + 1) = .inl (X.2.2.1 t, (N, .inr (.inr (.inr (.inr (fun _ => none)))))) := by
    rw [wF_arr (t := t) (by simp [wK, nA, va_up]) (by omega)]
    congr 2
    refine Prod.ext (by simp [wL, nA, va_up]) ?_
    have hr : (fun i => nz (xR (nA w t (q + 1) N) (q + 1) i)) = fun _ => none := by funext j; simp [xR, nA, z2, nz]
    show ac (nA w t (q + 1) N) t (q + 1) = _
    unfold ac
    rw [if_neg (by omega), if_neg (by omega), hr]
  obtain ⟨hR1, hq⟩ := Rh.push hL hP1 hD1 (fun b hb => eqAt_nA hb) hF
  have e1 : tv (vR (q + 1)) = .ref q := rn_ne (by omega)
  have h5 := kk (q + 1) hq (by omega) p e s m args below meth c H1 locs (cells + 1) (slots + N) ls hA hV hR1 hS1 hl (by omega) (by omega) hcr hsr
  rw [List.map_cons, e1] at h5
  exact h5
end E1
end
section
/-! ===== contracts, calls, ends ===== -/
theorem tbl_goodIn {ws : List Cond} (h : ∀ w ∈ ws, w ∈ tb) : GoodIn tb ws := fun w hw => ⟨h w hw, good_of_word (List.mem_filter.mp (h w hw)).2⟩
def PcW (X : Cx) (w : Wd) (U : State) : Prop := Rh X w U.heap ∧ va_S (Fr X) X.2.2.2 U.heap [] ∧ KK X U ∧ 0 < X.2.2.2.size
abbrev cdW (M : Me) : Cond := .code M.1 M.2.1 M.2.2.1 M.2.2.2
/-- a contract: from world w with these arguments the method comes to an end with Q -/
def Ct (X : Cx) (B : Bu) (M : Me) (as : List Av) (w : Wd) (Q : Option Av → Wd → Prop) : Prop :=
  Met X.1 M.1 (cdW M :: tb) (rmO B) (va_Pc (as.map tv) (PcW X w)) (Qw X Q) B.2.1 B.2.2 (Fr X)
def qI (A : Int32 → Wd → Prop) : Option Av → Wd → Prop := fun r w => ∃ x, r = some (vI x) ∧ A x w
def qJ (A : Int64 → Wd → Prop) : Option Av → Wd → Prop := fun r w => ∃ x, r = some (vJ x) ∧ A x w
def qR (A : Nat → Wd → Prop) : Option Av → Wd → Prop := fun r w => ∃ x, r = some (vR x) ∧ A x w
def qV (A : Wd → Prop) : Option Av → Wd → Prop := fun r w => r = none ∧ A w
theorem Ct.mono {X : Cx} {B : Bu} {M : Me} {as : List Av} {w : Wd} {Q Q' : Option Av → Wd → Prop} (h : Ct X B M as w Q) (hq : ∀ r w', Q r w' → Q' r w') : Ct X B M as w Q' := by
  unfold Ct Met MetFree at *
  intro p e h1 h2 h3 s m args below h4 h5 h6 h7
  obtain ⟨k, oc, a1, a2, a3, ⟨⟨r, w', b1, b2, b3⟩, hF⟩⟩ := h p e h1 h2 h3 s m args below h4 h5 h6 h7
  exact ⟨k, oc, a1, a2, a3, ⟨⟨r, w', b1, hq r w' b2, b3⟩, hF⟩⟩
theorem Ct.I {X : Cx} {B : Bu} {M : Me} {as : List Av} {w : Wd} {A A' : Int32 → Wd → Prop} (h : Ct X B M as w (qI A)) (hq : ∀ x w', A x w' → A' x w') : Ct X B M as w (qI A') := h.mono fun _ _ ⟨x, e, a⟩ => ⟨x, e, hq x _ a⟩
theorem Ct.J {X : Cx} {B : Bu} {M : Me} {as : List Av} {w : Wd} {A A' : Int64 → Wd → Prop} (h : Ct X B M as w (qJ A)) (hq : ∀ x w', A x w' → A' x w') : Ct X B M as w (qJ A') := h.mono fun _ _ ⟨x, e, a⟩ => ⟨x, e, hq x _ a⟩
theorem Ct.R {X : Cx} {B : Bu} {M : Me} {as : List Av} {w : Wd} {A A' : Nat → Wd → Prop} (h : Ct X B M as w (qR A)) (hq : ∀ x w', A x w' → A' x w') : Ct X B M as w (qR A') := h.mono fun _ _ ⟨x, e, a⟩ => ⟨x, e, hq x _ a⟩
theorem Ct.V {X : Cx} {B : Bu} {M : Me} {as : List Av} {w : Wd} {A A' : Wd → Prop} (h : Ct X B M as w (qV A)) (hq : ∀ w', A w' → A' w') : Ct X B M as w (qV A') := h.mono fun _ _ ⟨e, a⟩ => ⟨e, hq _ a⟩
def lvA (i : Nat) (as : List Av) : List (Nat × Av) := match as with
  | [] => []
  | v :: t => (i, v) :: lvA (i + cat v) t
theorem lvA_args (as : List Av) : ∀ i, (lvA i as).map t2 = lv_args i (as.map tv) := by
  induction as with
  | nil => intro i; rfl
  | cons v t ih =>
    intro i
    show t2 (i, v) :: (lvA (i + cat v) t).map t2 = (i, tv v) :: lv_args (if (tv v).category = 2 then i + 2 else i + 1) (t.map tv)
    rw [ih]
    have h : i + cat v = if (tv v).category = 2 then i + 2 else i + 1 := by
      rw [cat_tv, cat_J]
      cases isJ v <;> rfl
    rw [h]
    rfl
theorem lgsl_len (as : List Av) : (lg_sl (as.map tv)).length = (as.map cat).sum := by
  induction as with
  | nil => rfl
  | cons v t ih =>
    simp only [lg_sl, List.map_cons, List.flatMap_cons, List.length_append, List.sum_cons] at ih ⊢
    rw [ih, cat_tv, cat_J]
    cases isJ v <;> simp
theorem Ct.of {X : Cx} {B : Bu} {M : Me} {as : List Av} {w : Wd} {Q : Option Av → Wd → Prop} (hy : plainName M.1.cls = true) (hsz : (as.map cat).sum ≤ M.2.2.1) {lv : List (Nat × Av)} (hlv : lvA 0 as = lv) (h : EJ X M (vw X B Q) B.2.1 B.2.2 0 lv [] w) : Ct X B M as w Q := by
  refine Met.ofW (cc := M.2.1) (maxL := M.2.2.1) (ret := M.2.2.2) hy rfl ?_
  intro p e s m args below meth c s₁ Bd hml hv
  obtain ⟨rfl, hR, hS, hK, h0⟩ := hv
  have hts := atoms_spec (ws := cdW M :: tb) Bd.pre
  have hown : s.vm.findClass M.1.cls = some m.cls := findClass_of_methodNamed Bd.named
  have hin : meth.name = M.1.name := (name_of_methodNamed Bd.named Bd.method).1
  have hl := lv_entry (as.map tv) (n := M.2.2.1) (by rw [lgsl_len]; exact hsz)
  rw [lg_entry_eq]
  generalize (lg_sl (as.map tv) ++ List.replicate (M.2.2.1 - (lg_sl (as.map tv)).length) Slot.unset).toArray = ls at hl ⊢
  rw [← lvA_args, hlv] at hl
  exact h p e s m _ below meth c s.heap [] 0 0 ls ⟨Bd.exec, Bd.bytes, Bd.returns, hml, hown, fun w hw => hts w (List.mem_cons_of_mem _ hw), hK, Bd.notSynchronized, hin, h0⟩ trivial hR hS hl (Nat.le_of_eq (Nat.zero_add _)) (Nat.le_of_eq (Nat.zero_add _)) (Nat.le_refl _) (Nat.le_refl _)
/-- what the tables say of a callee -/
def MK (M : Me) (n : Nat) : Prop := cdW M ∈ tb ∧ Cond.initialized M.1.cls ∈ tb ∧ M.1.cls ≠ "java/lang/invoke/MethodHandle" ∧ M.1.cls ≠ "java/lang/invoke/VarHandle" ∧ (parseMethodDescriptor M.1.desc).map (fun d => d.parameters.length) = some n
def MV (own : String) (idx : Nat) (M : Me) : Prop := Cond.methodLink own idx M.1 ∈ tb ∧ Cond.instanceMethod M.1 ∈ tb ∧ Cond.selects M.1.cls M.1 M.1 ∈ tb
def MS (own : String) (idx : Nat) (M : Me) : Prop := Cond.methodLink own idx M.1 ∈ tb ∧ Cond.static M.1 ∈ tb
def MI (own : String) (idx : Nat) (M : Me) : Prop := Cond.methodLink own idx M.1 ∈ tb ∧ Cond.instanceMethod M.1 ∈ tb
theorem PcW_blind (X : Cx) (w : Wd) (av : List Value) : FrameBlind (va_Pc av (PcW X w)) := by
  intro a U g mk h
  obtain ⟨h1, h2, h3, h4, h5⟩ := h
  exact ⟨h1, h2, h3, KK.moved (u := U) (U := U.calling g mk a) (Vm.Alike.refl U.vm) h4, h5⟩
theorem PcW_use {X : Cx} {w : Wd} {s U : State} {H : Heap} {locs : List Loc} (hR : Rh X w H) (hS : va_S (Fr X) X.2.2.2 H locs) (hK : KK X s) (h0 : 0 < X.2.2.2.size) (hU : U.heap = H) (hW : s.WarmedH U.vm) : PcW X w U := by
  subst hU
  exact ⟨hR, ⟨hS.1, hS.2.1, fun _ h => by cases h⟩, hK.moved hW.alike, h0⟩
theorem call_of {X : Cx} {M' : Me} {B' : Bu} {R : Room} {s : State} {args : Array Value} {own : String} {idx n : Nat} (hts : ∀ w ∈ tb, w.before args s = true) (hk : MK M' n) (hl : Cond.methodLink own idx M'.1 ∈ tb) (hR : B'.1 + 1 ≤ R.frames ∧ 8 + (M'.2.2.1 + 11) + 60 * B'.1 ≤ R.locals) : CallB R s args own idx M'.1 M'.2.1 M'.2.2.1 M'.2.2.2 (cdW M' :: tb) (rmO B') B'.2.1 B'.2.2 n :=
  callB_of n hts (tbl_goodIn (fun w h => (List.mem_cons.mp h).elim (fun e => by rw [e]; exact hk.1) id)) rfl rfl rfl (hts _ hk.2.1) (hts _ hl) ⟨hk.2.2.1, hk.2.2.2.1, hk.2.2.2.2⟩ hR
theorem run_on {X : Cx} {p : Program} {e : Env} {R : Room} {s : State} {m : MethodId} {args a : Array Value} {below : List Frame} {meth : Method} {c : Code} {H : Heap} {locs : List Loc} {cells slots mc ms pc : Nat} {ls : Array Slot} {st0 rest : List Value} {Q' : Option Av → Wd → Prop} {Q : State → Prop}
    (hr : va_Run p X.1 e R s m args below meth c H locs cells slots mc ms (F0 m pc ls st0) rest (Qw X Q' a) (Fr X)) (hS : va_S (Fr X) X.2.2.2 H locs)
    (kk : ∀ (r : Option Av) (w' : Wd) (H1 : Heap) (locs1 : List Loc), Q' r w' → Rh X w' H1 → va_S (Fr X) X.2.2.2 H1 locs1 → W p X.1 e R s m args below meth c H1 locs1 (cells + mc) (slots + ms) Q (F0 m (pc + 3) ls (r.toList.map tv ++ rest))) : W p X.1 e R s m args below meth c H locs cells slots Q (F0 m pc ls st0) := by
  intro T hT Y
  obtain ⟨v, st₀, t, T', L, h0, Y', hL, e1, e2, ⟨r, w', b1, b2, b3, b4⟩, st⟩ := hr T hT Y
  have hv : v = r.map tv := by simpa using b1
  have ht : v.toList = r.toList.map tv := by rw [hv]; cases r <;> rfl
  rw [ht] at st
  obtain ⟨t2, a1, c1⟩ := kk r w' T'.heap (locs ++ L) b2 (by rw [e1]; exact b3) ⟨by rw [e1]; exact b4.1, fun q g1 g2 => by rw [e1]; exact b4.2.1 q g1 g2, fun q hq => by
    rcases List.mem_append.mp hq with h | h
    · exact hS.2.2 q h
    · exact hL q h⟩ T' rfl Y'
  exact ⟨t2, st t2 a1, c1⟩
theorem cat_sum (st : List Av) : ((st.map tv).map fun v => v.category).sum = (st.map cat).sum := by
  induction st with
  | nil => rfl
  | cons v t ih => simp only [List.map_cons, List.sum_cons, cat_tv] at ih ⊢; rw [ih]
section E2
variable {X : Cx} {M : Me} {V : Vw} {rc rs pc : Nat} {lv : List (Nat × Av)} {st : List Av} {w : Wd}
theorem e_callV {idx a ci n : Nat} {M' : Me} {B' : Bu} {st0 : List Av} (as : List Av) {Q' : Option Av → Wd → Prop} (hd : decode M.2.1 pc = .ok (.invokevirtual idx, 3)) (hm : MV M.1.cls idx M') (hk : MK M' n) (hc12 : ci < 12) (hcl : M'.1.cls = cR ci) (ha : wK w a = ci + 1) (hst : st0 = as.reverse ++ vR a :: st) (hn : as.length = n) (hrm : (st.map cat).sum ≤ 8) (hfr : B'.1 + 1 ≤ V.1.frames ∧ 8 + (M'.2.2.1 + 11) + 60 * B'.1 ≤ V.1.locals) {rc' rs' : Nat} (h1 : rc = rc' + B'.2.1) (h2 : rs = rs' + B'.2.2)
    (hct : Ct X B' M' (vR a :: as) w Q') (kk : ∀ (r : Option Av) (w' : Wd), Q' r w' → EJ X M V rc' rs' (pc + 3) lv (r.toList ++ st) w') : EJ X M V rc rs pc lv st0 w := by
  intro p e s m args below meth c H locs cells slots ls hA hV hR hS hl hc hs hcr hsr
  subst hst h1 h2
  obtain ⟨L, q0, hP, hD, hL, haL, hq⟩ := hR.obj hc12 ha
  have hne : a ≠ 0 := hR.ne hA.2.2.2.2.2.2.2.2.2 (by omega)
  have e1 : tv (vR a) = .ref (a - 1) := rn_ne hne
  have hts := hA.2.2.2.2.2.1
  refine run_on (a := (Value.ref (a - 1) :: as.map tv).toArray) (rest := st.map tv) (Q' := Q') (mc := B'.2.1) (ms := B'.2.2) (va_runV (C := M'.1.cls) (As := as.map tv) ⟨hA.1, hA.2.1, hA.2.2.2.1, hA.2.2.2.2.1, hts⟩ hct ⟨call_of (X := X) hts hk hm.1 hfr, hts _ hm.2.1, hts _ hm.2.2⟩ ⟨PcW_blind X w _, by rw [hcl]; exact va_recv hA.2.2.2.2.2.2.1.1 hP (cls_get ci hc12) hq, fun U hU hW => ⟨by rw [List.map_cons, e1], PcW_use hR hS hA.2.2.2.2.2.2.1 hA.2.2.2.2.2.2.2.2.2 hU hW⟩⟩ rfl (by rw [List.length_map]; exact hn) hl.1 (by rw [List.map_append, List.map_reverse, List.map_cons, e1]) (lv_room (by rw [cat_sum]; exact hrm)) hd ⟨by omega, by omega⟩) hS (fun r w' H1 locs1 hq1 hR1 hS1 => ?_)
  have h5 := kk r w' hq1 p e s m args below meth c H1 locs1 (cells + B'.2.1) (slots + B'.2.2) ls hA hV hR1 hS1 hl (by omega) (by omega) hcr hsr
  rw [List.map_append] at h5
  exact h5
theorem e_callS {idx n : Nat} {M' : Me} {B' : Bu} {st0 : List Av} (as : List Av) {Q' : Option Av → Wd → Prop} (hd : decode M.2.1 pc = .ok (.invokestatic idx, 3)) (hm : MS M.1.cls idx M') (hk : MK M' n) (hst : st0 = as.reverse ++ st) (hn : as.length = n) (hrm : (st.map cat).sum ≤ 8) (hfr : B'.1 + 1 ≤ V.1.frames ∧ 8 + (M'.2.2.1 + 11) + 60 * B'.1 ≤ V.1.locals) {rc' rs' : Nat} (h1 : rc = rc' + B'.2.1) (h2 : rs = rs' + B'.2.2)
    (hct : Ct X B' M' as w Q') (kk : ∀ (r : Option Av) (w' : Wd), Q' r w' → EJ X M V rc' rs' (pc + 3) lv (r.toList ++ st) w') : EJ X M V rc rs pc lv st0 w := by
  intro p e s m args below meth c H locs cells slots ls hA hV hR hS hl hc hs hcr hsr
  subst hst h1 h2
  have hts := hA.2.2.2.2.2.1
  refine run_on (a := (as.map tv).toArray) (rest := st.map tv) (Q' := Q') (mc := B'.2.1) (ms := B'.2.2) (va_runS (As := as.map tv) ⟨hA.1, hA.2.1, hA.2.2.2.1, hA.2.2.2.2.1, hts⟩ hct ⟨call_of (X := X) hts hk hm.1 hfr, hts _ hm.2⟩ ⟨PcW_blind X w _, fun U hU hW => ⟨rfl, PcW_use hR hS hA.2.2.2.2.2.2.1 hA.2.2.2.2.2.2.2.2.2 hU hW⟩⟩ rfl (by rw [List.length_map]; exact hn) hl.1 (by rw [List.map_append, List.map_reverse]) (lv_room (by rw [cat_sum]; exact hrm)) hd ⟨by omega, by omega⟩) hS (fun r w' H1 locs1 hq1 hR1 hS1 => ?_)
  have h5 := kk r w' hq1 p e s m args below meth c H1 locs1 (cells + B'.2.1) (slots + B'.2.2) ls hA hV hR1 hS1 hl (by omega) (by omega) hcr hsr
  rw [List.map_append] at h5
  exact h5
theorem e_callI {idx a n : Nat} {M' : Me} {B' : Bu} {st0 : List Av} (as : List Av) {Q' : Option Av → Wd → Prop} (hd : decode M.2.1 pc = .ok (.invokespecial idx, 3)) (hm : MI M.1.cls idx M') (hk : MK M' n) (hnm : M'.1.name = "<init>") (hret : M'.2.2.2 = none) (ha : wK w a ≠ 0) (hst : st0 = as.reverse ++ vR a :: st) (hn : as.length = n) (hrm : (st.map cat).sum ≤ 8) (hfr : B'.1 + 1 ≤ V.1.frames ∧ 8 + (M'.2.2.1 + 11) + 60 * B'.1 ≤ V.1.locals) {rc' rs' : Nat} (h1 : rc = rc' + B'.2.1) (h2 : rs = rs' + B'.2.2)
    (hct : Ct X B' M' (vR a :: as) w Q') (kk : ∀ (r : Option Av) (w' : Wd), Q' r w' → EJ X M V rc' rs' (pc + 3) lv (r.toList ++ st) w') : EJ X M V rc rs pc lv st0 w := by
  intro p e s m args below meth c H locs cells slots ls hA hV hR hS hl hc hs hcr hsr
  subst hst h1 h2
  have hne : a ≠ 0 := hR.ne hA.2.2.2.2.2.2.2.2.2 ha
  have e1 : tv (vR a) = .ref (a - 1) := rn_ne hne
  have hts := hA.2.2.2.2.2.1
  have cb := call_of (X := X) (B' := B') (R := V.1) hts hk hm.1 hfr
  rw [hret] at cb
  refine run_on (a := (Value.ref (a - 1) :: as.map tv).toArray) (rest := st.map tv) (Q' := Q') (mc := B'.2.1) (ms := B'.2.2) (va_runI (As := as.map tv) (b := a - 1) ⟨hA.1, hA.2.1, hA.2.2.2.1, hA.2.2.2.2.1, hts⟩ hct ⟨cb, hnm, hts _ hm.2⟩ ⟨PcW_blind X w _, fun U hU hW => ⟨by rw [List.map_cons, e1], PcW_use hR hS hA.2.2.2.2.2.2.1 hA.2.2.2.2.2.2.2.2.2 hU hW⟩⟩ rfl (by rw [List.length_map]; exact hn) hl.1 (by rw [List.map_append, List.map_reverse, List.map_cons, e1]) (lv_room (by rw [cat_sum]; exact hrm)) hd ⟨by omega, by omega⟩) hS (fun r w' H1 locs1 hq1 hR1 hS1 => ?_)
  have h5 := kk r w' hq1 p e s m args below meth c H1 locs1 (cells + B'.2.1) (slots + B'.2.2) ls hA hV hR1 hS1 hl (by omega) (by omega) hcr hsr
  rw [List.map_append] at h5
  exact h5

theorem e_callVi {idx a ci n : Nat} {M' : Me} {B' : Bu} {st0 : List Av} (as : List Av) {A : Int32 → Wd → Prop} (hd : decode M.2.1 pc = .ok (.invokevirtual idx, 3)) (hm : MV M.1.cls idx M') (hk : MK M' n) (hc12 : ci < 12) (hcl : M'.1.cls = cR ci) (ha : wK w a = ci + 1) (hst : st0 = as.reverse ++ vR a :: st) (hn : as.length = n) (hrm : (st.map cat).sum ≤ 8) (hfr : B'.1 + 1 ≤ V.1.frames ∧ 8 + (M'.2.2.1 + 11) + 60 * B'.1 ≤ V.1.locals) {rc' rs' : Nat} (h1 : rc = rc' + B'.2.1) (h2 : rs = rs' + B'.2.2) (hct : Ct X B' M' (vR a :: as) w (qI A)) (kk : ∀ (x : Int32) (w' : Wd), A x w' → EJ X M V rc' rs' (pc + 3) lv (vI x :: st) w') : EJ X M V rc rs pc lv st0 w :=
  e_callV as hd hm hk hc12 hcl ha hst hn hrm hfr h1 h2 hct (fun r w' hq => by obtain ⟨x, rfl, h⟩ := hq; exact kk x w' h)
theorem e_callVj {idx a ci n : Nat} {M' : Me} {B' : Bu} {st0 : List Av} (as : List Av) {A : Int64 → Wd → Prop} (hd : decode M.2.1 pc = .ok (.invokevirtual idx, 3)) (hm : MV M.1.cls idx M') (hk : MK M' n) (hc12 : ci < 12) (hcl : M'.1.cls = cR ci) (ha : wK w a = ci + 1) (hst : st0 = as.reverse ++ vR a :: st) (hn : as.length = n) (hrm : (st.map cat).sum ≤ 8) (hfr : B'.1 + 1 ≤ V.1.frames ∧ 8 + (M'.2.2.1 + 11) + 60 * B'.1 ≤ V.1.locals) {rc' rs' : Nat} (h1 : rc = rc' + B'.2.1) (h2 : rs = rs' + B'.2.2) (hct : Ct X B' M' (vR a :: as) w (qJ A)) (kk : ∀ (x : Int64) (w' : Wd), A x w' → EJ X M V rc' rs' (pc + 3) lv (vJ x :: st) w') : EJ X M V rc rs pc lv st0 w :=
  e_callV as hd hm hk hc12 hcl ha hst hn hrm hfr h1 h2 hct (fun r w' hq => by obtain ⟨x, rfl, h⟩ := hq; exact kk x w' h)
theorem e_callVr {idx a ci n : Nat} {M' : Me} {B' : Bu} {st0 : List Av} (as : List Av) {A : Nat → Wd → Prop} (hd : decode M.2.1 pc = .ok (.invokevirtual idx, 3)) (hm : MV M.1.cls idx M') (hk : MK M' n) (hc12 : ci < 12) (hcl : M'.1.cls = cR ci) (ha : wK w a = ci + 1) (hst : st0 = as.reverse ++ vR a :: st) (hn : as.length = n) (hrm : (st.map cat).sum ≤ 8) (hfr : B'.1 + 1 ≤ V.1.frames ∧ 8 + (M'.2.2.1 + 11) + 60 * B'.1 ≤ V.1.locals) {rc' rs' : Nat} (h1 : rc = rc' + B'.2.1) (h2 : rs = rs' + B'.2.2) (hct : Ct X B' M' (vR a :: as) w (qR A)) (kk : ∀ (x : Nat) (w' : Wd), A x w' → EJ X M V rc' rs' (pc + 3) lv (vR x :: st) w') : EJ X M V rc rs pc lv st0 w :=
  e_callV as hd hm hk hc12 hcl ha hst hn hrm hfr h1 h2 hct (fun r w' hq => by obtain ⟨x, rfl, h⟩ := hq; exact kk x w' h)
theorem e_callVv {idx a ci n : Nat} {M' : Me} {B' : Bu} {st0 : List Av} (as : List Av) {A : Wd → Prop} (hd : decode M.2.1 pc = .ok (.invokevirtual idx, 3)) (hm : MV M.1.cls idx M') (hk : MK M' n) (hc12 : ci < 12) (hcl : M'.1.cls = cR ci) (ha : wK w a = ci + 1) (hst : st0 = as.reverse ++ vR a :: st) (hn : as.length = n) (hrm : (st.map cat).sum ≤ 8) (hfr : B'.1 + 1 ≤ V.1.frames ∧ 8 + (M'.2.2.1 + 11) + 60 * B'.1 ≤ V.1.locals) {rc' rs' : Nat} (h1 : rc = rc' + B'.2.1) (h2 : rs = rs' + B'.2.2) (hct : Ct X B' M' (vR a :: as) w (qV A)) (kk : ∀ w' : Wd, A w' → EJ X M V rc' rs' (pc + 3) lv st w') : EJ X M V rc rs pc lv st0 w :=
  e_callV as hd hm hk hc12 hcl ha hst hn hrm hfr h1 h2 hct (fun r w' hq => by obtain ⟨rfl, h⟩ := hq; exact kk w' h)
theorem e_callSi {idx n : Nat} {M' : Me} {B' : Bu} {st0 : List Av} (as : List Av) {A : Int32 → Wd → Prop} (hd : decode M.2.1 pc = .ok (.invokestatic idx, 3)) (hm : MS M.1.cls idx M') (hk : MK M' n) (hst : st0 = as.reverse ++ st) (hn : as.length = n) (hrm : (st.map cat).sum ≤ 8) (hfr : B'.1 + 1 ≤ V.1.frames ∧ 8 + (M'.2.2.1 + 11) + 60 * B'.1 ≤ V.1.locals) {rc' rs' : Nat} (h1 : rc = rc' + B'.2.1) (h2 : rs = rs' + B'.2.2) (hct : Ct X B' M' (as) w (qI A)) (kk : ∀ (x : Int32) (w' : Wd), A x w' → EJ X M V rc' rs' (pc + 3) lv (vI x :: st) w') : EJ X M V rc rs pc lv st0 w :=
  e_callS as hd hm hk hst hn hrm hfr h1 h2 hct (fun r w' hq => by obtain ⟨x, rfl, h⟩ := hq; exact kk x w' h)
theorem e_callSj {idx n : Nat} {M' : Me} {B' : Bu} {st0 : List Av} (as : List Av) {A : Int64 → Wd → Prop} (hd : decode M.2.1 pc = .ok (.invokestatic idx, 3)) (hm : MS M.1.cls idx M') (hk : MK M' n) (hst : st0 = as.reverse ++ st) (hn : as.length = n) (hrm : (st.map cat).sum ≤ 8) (hfr : B'.1 + 1 ≤ V.1.frames ∧ 8 + (M'.2.2.1 + 11) + 60 * B'.1 ≤ V.1.locals) {rc' rs' : Nat} (h1 : rc = rc' + B'.2.1) (h2 : rs = rs' + B'.2.2) (hct : Ct X B' M' (as) w (qJ A)) (kk : ∀ (x : Int64) (w' : Wd), A x w' → EJ X M V rc' rs' (pc + 3) lv (vJ x :: st) w') : EJ X M V rc rs pc lv st0 w :=
  e_callS as hd hm hk hst hn hrm hfr h1 h2 hct (fun r w' hq => by obtain ⟨x, rfl, h⟩ := hq; exact kk x w' h)
theorem e_callSr {idx n : Nat} {M' : Me} {B' : Bu} {st0 : List Av} (as : List Av) {A : Nat → Wd → Prop} (hd : decode M.2.1 pc = .ok (.invokestatic idx, 3)) (hm : MS M.1.cls idx M') (hk : MK M' n) (hst : st0 = as.reverse ++ st) (hn : as.length = n) (hrm : (st.map cat).sum ≤ 8) (hfr : B'.1 + 1 ≤ V.1.frames ∧ 8 + (M'.2.2.1 + 11) + 60 * B'.1 ≤ V.1.locals) {rc' rs' : Nat} (h1 : rc = rc' + B'.2.1) (h2 : rs = rs' + B'.2.2) (hct : Ct X B' M' (as) w (qR A)) (kk : ∀ (x : Nat) (w' : Wd), A x w' → EJ X M V rc' rs' (pc + 3) lv (vR x :: st) w') : EJ X M V rc rs pc lv st0 w :=
  e_callS as hd hm hk hst hn hrm hfr h1 h2 hct (fun r w' hq => by obtain ⟨x, rfl, h⟩ := hq; exact kk x w' h)
theorem e_callSv {idx n : Nat} {M' : Me} {B' : Bu} {st0 : List Av} (as : List Av) {A : Wd → Prop} (hd : decode M.2.1 pc = .ok (.invokestatic idx, 3)) (hm : MS M.1.cls idx M') (hk : MK M' n) (hst : st0 = as.reverse ++ st) (hn : as.length = n) (hrm : (st.map cat).sum ≤ 8) (hfr : B'.1 + 1 ≤ V.1.frames ∧ 8 + (M'.2.2.1 + 11) + 60 * B'.1 ≤ V.1.locals) {rc' rs' : Nat} (h1 : rc = rc' + B'.2.1) (h2 : rs = rs' + B'.2.2) (hct : Ct X B' M' (as) w (qV A)) (kk : ∀ w' : Wd, A w' → EJ X M V rc' rs' (pc + 3) lv st w') : EJ X M V rc rs pc lv st0 w :=
  e_callS as hd hm hk hst hn hrm hfr h1 h2 hct (fun r w' hq => by obtain ⟨rfl, h⟩ := hq; exact kk w' h)
theorem e_callIv {idx a n : Nat} {M' : Me} {B' : Bu} {st0 : List Av} (as : List Av) {A : Wd → Prop} (hd : decode M.2.1 pc = .ok (.invokespecial idx, 3)) (hm : MI M.1.cls idx M') (hk : MK M' n) (hnm : M'.1.name = "<init>") (hret : M'.2.2.2 = none) (ha : wK w a ≠ 0) (hst : st0 = as.reverse ++ vR a :: st) (hn : as.length = n) (hrm : (st.map cat).sum ≤ 8) (hfr : B'.1 + 1 ≤ V.1.frames ∧ 8 + (M'.2.2.1 + 11) + 60 * B'.1 ≤ V.1.locals) {rc' rs' : Nat} (h1 : rc = rc' + B'.2.1) (h2 : rs = rs' + B'.2.2) (hct : Ct X B' M' (vR a :: as) w (qV A)) (kk : ∀ w' : Wd, A w' → EJ X M V rc' rs' (pc + 3) lv st w') : EJ X M V rc rs pc lv st0 w :=
  e_callI as hd hm hk hnm hret ha hst hn hrm hfr h1 h2 hct (fun r w' hq => by obtain ⟨rfl, h⟩ := hq; exact kk w' h)
theorem e_mmin {idx : Nat} {x y : Int32} (hd : decode M.2.1 pc = .ok (.invokestatic idx, 3)) (hm : Cond.methodLink M.1.cls idx Lib.Math.min.name ∈ tb) (hrm : (st.map cat).sum + 13 ≤ V.1.locals) (hfr : 1 ≤ V.1.frames) (kk : EJ X M V rc rs (pc + 3) lv (vI (if y < x then y else x) :: st) w) : EJ X M V rc rs pc lv (vI y :: vI x :: st) w := by
  intro p e s m args below meth c H locs cells slots ls hA hV hR hS hl hc hs hcr hsr
  have hts := hA.2.2.2.2.2.1
  exact va_mmin hA.1 hA.2.1 (hA.2.2.2.1.trans hl.1.symm) hA.2.2.2.2.1 (hts _ hm) (hts _ (tb_of (by decide +kernel) rfl)) (hts _ (tb_of (by decide +kernel) rfl)) (hts _ (tb_of (by decide +kernel) rfl)) hfr (by rw [cat_sum]; exact hrm) (by omega) (by omega) hd (kk p e s m args below meth c H locs cells slots ls hA hV hR hS hl hc hs hcr hsr)
theorem e_mmax {idx : Nat} {x y : Int32} (hd : decode M.2.1 pc = .ok (.invokestatic idx, 3)) (hm : Cond.methodLink M.1.cls idx Lib.Math.max.name ∈ tb) (hrm : (st.map cat).sum + 13 ≤ V.1.locals) (hfr : 1 ≤ V.1.frames) (kk : EJ X M V rc rs (pc + 3) lv (vI (if x < y then y else x) :: st) w) : EJ X M V rc rs pc lv (vI y :: vI x :: st) w := by
  intro p e s m args below meth c H locs cells slots ls hA hV hR hS hl hc hs hcr hsr
  have hts := hA.2.2.2.2.2.1
  exact va_mmax hA.1 hA.2.1 (hA.2.2.2.1.trans hl.1.symm) hA.2.2.2.2.1 (hts _ hm) (hts _ (tb_of (by decide +kernel) rfl)) (hts _ (tb_of (by decide +kernel) rfl)) (hts _ (tb_of (by decide +kernel) rfl)) hfr (by rw [cat_sum]; exact hrm) (by omega) (by omega) hd (kk p e s m args below meth c H locs cells slots ls hA hV hR hS hl hc hs hcr hsr)
theorem e_mminJ {idx : Nat} {x y : Int64} (hd : decode M.2.1 pc = .ok (.invokestatic idx, 3)) (hm : Cond.methodLink M.1.cls idx Lib.MathLoose.min_long.x ∈ tb) (hrm : (st.map cat).sum + 15 ≤ V.1.locals) (hfr : 1 ≤ V.1.frames) (kk : EJ X M V rc rs (pc + 3) lv (vJ (if y < x then y else x) :: st) w) : EJ X M V rc rs pc lv (vJ y :: vJ x :: st) w := by
  intro p e s m args below meth c H locs cells slots ls hA hV hR hS hl hc hs hcr hsr
  have hts := hA.2.2.2.2.2.1
  exact va_mmin_long hA.1 hA.2.1 (hA.2.2.2.1.trans hl.1.symm) hA.2.2.2.2.1 (hts _ hm) (hts _ (tb_of (by decide +kernel) rfl)) (hts _ (tb_of (by decide +kernel) rfl)) (hts _ (tb_of (by decide +kernel) rfl)) hfr (by rw [cat_sum]; exact hrm) (by omega) (by omega) hd (kk p e s m args below meth c H locs cells slots ls hA hV hR hS hl hc hs hcr hsr)
theorem e_objInit {idx a : Nat} (hd : decode M.2.1 pc = .ok (.invokespecial idx, 3)) (hm : Cond.methodLink M.1.cls idx Lib.objectInit ∈ tb) (ha : wK w a ≠ 0) (hrm : (st.map cat).sum ≤ 8) (hfr : 1 ≤ V.1.frames) (hlo : 60 ≤ V.1.locals) (kk : EJ X M V rc rs (pc + 3) lv st w) : EJ X M V rc rs pc lv (vR a :: st) w := by
  intro p e s m args below meth c H locs cells slots ls hA hV hR hS hl hc hs hcr hsr
  have hts := hA.2.2.2.2.2.1
  have hne : a ≠ 0 := hR.ne hA.2.2.2.2.2.2.2.2.2 ha
  have e1 : tv (vR a) = .ref (a - 1) := rn_ne hne
  rw [List.map_cons, e1]
  refine W.objInit hA.1 hA.2.1 hA.2.2.2.2.1 (hts _ hm) (hts _ (tb_of (by decide +kernel) rfl)) (hts _ (tb_of (by decide +kernel) rfl)) rfl (hl.1.trans hA.2.2.2.1.symm) rfl hd hfr ?_ (kk p e s m args below meth c H locs cells slots ls hA hV hR hS hl hc hs hcr hsr)
  have h8 : 2 * (F0 m pc ls (Value.ref (a - 1) :: st.map tv)).monitorRoom + ((st.map tv).map fun v => v.category).sum ≤ 8 := lv_room (by rw [cat_sum]; exact hrm)
  omega
end E2
section E3
variable {X : Cx} {M : Me} {B : Bu} {Q : Option Av → Wd → Prop} {rc rs pc : Nat} {lv : List (Nat × Av)} {w : Wd}
theorem ret_q {X : Cx} {Q : Option Av → Wd → Prop} {w : Wd} {H : Heap} {locs : List Loc} {args : Array Value} {s : State} (r : Option Av) (hq : Q r w) (hR : Rh X w H) (hS : va_S (Fr X) X.2.2.2 H locs) : ∀ t : State, t.heap = H → s.WarmedH t.vm → Qw X Q args s (.returned (r.map tv)) t := by
  intro t ht _
  subst ht
  exact ⟨r, w, rfl, hq, hR, hS.1, hS.2.1, fun _ h => by cases h⟩
theorem e_ireturn {x : Int32} (hd : decode M.2.1 pc = .ok (.ireturn, 1)) (hr : M.2.2.2 = some .int) (hq : Q (some (vI x)) w) : EJ X M (vw X B Q) rc rs pc lv [vI x] w := by
  intro p e s m args below meth c H locs cells slots ls hA hV hR hS hl hc hs hcr hsr
  refine W.widen (k := B.2.1) (n := B.2.2) (Nat.le_trans (Nat.le_add_right _ _) hc) (Nat.le_trans (Nat.le_add_right _ _) hs) ?_
  exact W.iret hA.1 hA.2.1 (hA.2.2.1.trans hr) (ret_q (some (vI x)) hq hR hS) hS.2.2 hd (hlocks := hA.2.2.2.2.2.2.2.1)
theorem e_zreturn {x : Int32} (hd : decode M.2.1 pc = .ok (.ireturn, 1)) (hr : M.2.2.2 = some .boolean) (hx : x = 0 ∨ x = 1) (hq : Q (some (vI x)) w) : EJ X M (vw X B Q) rc rs pc lv [vI x] w := by
  intro p e s m args below meth c H locs cells slots ls hA hV hR hS hl hc hs hcr hsr
  refine W.widen (k := B.2.1) (n := B.2.2) (Nat.le_trans (Nat.le_add_right _ _) hc) (Nat.le_trans (Nat.le_add_right _ _) hs) ?_
  exact W.zret hA.1 hA.2.1 (hA.2.2.1.trans hr) (by rcases hx with rfl | rfl <;> rfl) (ret_q (some (vI x)) hq hR hS) hS.2.2 hd (hlocks := hA.2.2.2.2.2.2.2.1)
theorem e_lreturn {x : Int64} (hd : decode M.2.1 pc = .ok (.lreturn, 1)) (hr : M.2.2.2 = some .long) (hq : Q (some (vJ x)) w) : EJ X M (vw X B Q) rc rs pc lv [vJ x] w := by
  intro p e s m args below meth c H locs cells slots ls hA hV hR hS hl hc hs hcr hsr
  refine W.widen (k := B.2.1) (n := B.2.2) (Nat.le_trans (Nat.le_add_right _ _) hc) (Nat.le_trans (Nat.le_add_right _ _) hs) ?_
  exact W.lret hA.1 hA.2.1 (hA.2.2.1.trans hr) (ret_q (some (vJ x)) hq hR hS) hS.2.2 hd (hlocks := hA.2.2.2.2.2.2.2.1)
theorem e_areturn {x : Nat} {cn : String} (hd : decode M.2.1 pc = .ok (.areturn, 1)) (hr : M.2.2.2 = some (.object cn)) (hq : Q (some (vR x)) w) : EJ X M (vw X B Q) rc rs pc lv [vR x] w := by
  intro p e s m args below meth c H locs cells slots ls hA hV hR hS hl hc hs hcr hsr
  refine W.widen (k := B.2.1) (n := B.2.2) (Nat.le_trans (Nat.le_add_right _ _) hc) (Nat.le_trans (Nat.le_add_right _ _) hs) ?_
  refine W.aret hA.1 hA.2.1 (hA.2.2.1.trans hr) (Or.inl ⟨cn, rfl⟩) ?_ (ret_q (some (vR x)) hq hR hS) hS.2.2 hd (hlocks := hA.2.2.2.2.2.2.2.1)
  by_cases h : x = 0
  · subst h; exact Or.inl rfl
  · exact Or.inr ⟨x - 1, rn_ne h⟩
theorem e_vreturn (hd : decode M.2.1 pc = .ok (.return_, 1)) (hr : M.2.2.2 = none) (hq : Q none w) : EJ X M (vw X B Q) rc rs pc lv [] w := by
  intro p e s m args below meth c H locs cells slots ls hA hV hR hS hl hc hs hcr hsr
  refine W.widen (k := B.2.1) (n := B.2.2) (Nat.le_trans (Nat.le_add_right _ _) hc) (Nat.le_trans (Nat.le_add_right _ _) hs) ?_
  exact W.vret hA.1 hA.2.1 (hA.2.2.1.trans hr) (ret_q none hq hR hS) hS.2.2 hd (hlocks := hA.2.2.2.2.2.2.2.1)
end E3
end
