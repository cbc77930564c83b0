section
-- ===== PART A: goes FIRST, ahead of the names: the tables' words, and 'selects' of the private methods out of them =====
/-- a private method of a class that the tables say can be made, by its rows of tables_1 -/
def lw_okq (q : MethodName × Nat) : Prop := (q.1.cls ≠ "java/lang/invoke/MethodHandle" ∧ q.1.cls ≠ "java/lang/invoke/VarHandle") ∧ Cond.instantiable q.1.cls q.2 ∈ tables_1 ∧ Cond.privateMethod q.1 ∈ tables_1 ∧ Cond.instanceMethod q.1 ∈ tables_1
theorem lw_p0 : lw_okq (⟨"RankBook", "folioFault", "(I)I"⟩, 14) := ⟨⟨by decide +kernel, by decide +kernel⟩, List.mem_of_getElem? (i := 15) (by decide +kernel), List.mem_of_getElem? (i := 110) (by decide +kernel), List.mem_of_getElem? (i := 111) (by decide +kernel)⟩
theorem lw_p1 : lw_okq (⟨"RankBook", "settle", "(I)Z"⟩, 14) := ⟨⟨by decide +kernel, by decide +kernel⟩, List.mem_of_getElem? (i := 15) (by decide +kernel), List.mem_of_getElem? (i := 114) (by decide +kernel), List.mem_of_getElem? (i := 115) (by decide +kernel)⟩
theorem lw_p2 : lw_okq (⟨"RankBook", "folioAt", "(I)LRankBook$Folio;"⟩, 14) := ⟨⟨by decide +kernel, by decide +kernel⟩, List.mem_of_getElem? (i := 15) (by decide +kernel), List.mem_of_getElem? (i := 148) (by decide +kernel), List.mem_of_getElem? (i := 149) (by decide +kernel)⟩
theorem lw_p3 : lw_okq (⟨"RankBook", "dayFault", "(I)I"⟩, 14) := ⟨⟨by decide +kernel, by decide +kernel⟩, List.mem_of_getElem? (i := 15) (by decide +kernel), List.mem_of_getElem? (i := 171) (by decide +kernel), List.mem_of_getElem? (i := 172) (by decide +kernel)⟩
theorem lw_p4 : lw_okq (⟨"RankBook", "isPastOrToday", "(I)Z"⟩, 14) := ⟨⟨by decide +kernel, by decide +kernel⟩, List.mem_of_getElem? (i := 15) (by decide +kernel), List.mem_of_getElem? (i := 180) (by decide +kernel), List.mem_of_getElem? (i := 181) (by decide +kernel)⟩
theorem lw_p5 : lw_okq (⟨"RankBook", "enterFault", "(LRankBook$Folio;IJIJ)I"⟩, 14) := ⟨⟨by decide +kernel, by decide +kernel⟩, List.mem_of_getElem? (i := 15) (by decide +kernel), List.mem_of_getElem? (i := 188) (by decide +kernel), List.mem_of_getElem? (i := 189) (by decide +kernel)⟩
theorem lw_p6 : lw_okq (⟨"RankBook", "newAct", "()LRankBook$Act;"⟩, 14) := ⟨⟨by decide +kernel, by decide +kernel⟩, List.mem_of_getElem? (i := 15) (by decide +kernel), List.mem_of_getElem? (i := 204) (by decide +kernel), List.mem_of_getElem? (i := 205) (by decide +kernel)⟩
theorem lw_p7 : lw_okq (⟨"RankBook", "addEntry", "(LRankBook$Entry;)I"⟩, 14) := ⟨⟨by decide +kernel, by decide +kernel⟩, List.mem_of_getElem? (i := 15) (by decide +kernel), List.mem_of_getElem? (i := 418) (by decide +kernel), List.mem_of_getElem? (i := 419) (by decide +kernel)⟩
theorem lw_p8 : lw_okq (⟨"RankBook", "entryAt", "(I)LRankBook$Entry;"⟩, 14) := ⟨⟨by decide +kernel, by decide +kernel⟩, List.mem_of_getElem? (i := 15) (by decide +kernel), List.mem_of_getElem? (i := 426) (by decide +kernel), List.mem_of_getElem? (i := 427) (by decide +kernel)⟩
theorem lw_p9 : lw_okq (⟨"RankBook", "oweFault", "(LRankBook$Entry;J)I"⟩, 14) := ⟨⟨by decide +kernel, by decide +kernel⟩, List.mem_of_getElem? (i := 15) (by decide +kernel), List.mem_of_getElem? (i := 441) (by decide +kernel), List.mem_of_getElem? (i := 442) (by decide +kernel)⟩
theorem lw_p10 : lw_okq (⟨"RankBook", "payFault", "(LRankBook$Entry;J)I"⟩, 14) := ⟨⟨by decide +kernel, by decide +kernel⟩, List.mem_of_getElem? (i := 15) (by decide +kernel), List.mem_of_getElem? (i := 464) (by decide +kernel), List.mem_of_getElem? (i := 465) (by decide +kernel)⟩
theorem lw_p11 : lw_okq (⟨"RankBook", "divideFault", "(LRankBook$Entry;JZZ)I"⟩, 14) := ⟨⟨by decide +kernel, by decide +kernel⟩, List.mem_of_getElem? (i := 15) (by decide +kernel), List.mem_of_getElem? (i := 487) (by decide +kernel), List.mem_of_getElem? (i := 488) (by decide +kernel)⟩
theorem lw_p12 : lw_okq (⟨"RankBook", "divide", "(LRankBook$Entry;JI)I"⟩, 14) := ⟨⟨by decide +kernel, by decide +kernel⟩, List.mem_of_getElem? (i := 15) (by decide +kernel), List.mem_of_getElem? (i := 491) (by decide +kernel), List.mem_of_getElem? (i := 492) (by decide +kernel)⟩
theorem lw_p13 : lw_okq (⟨"RankBook", "postFault", "(LRankBook$Entry;LRankBook$Entry;J)I"⟩, 14) := ⟨⟨by decide +kernel, by decide +kernel⟩, List.mem_of_getElem? (i := 15) (by decide +kernel), List.mem_of_getElem? (i := 507) (by decide +kernel), List.mem_of_getElem? (i := 508) (by decide +kernel)⟩
theorem lw_p14 : lw_okq (⟨"RankBook", "liveInOneFolio", "(LRankBook$Whole;LRankBook$Whole;)Z"⟩, 14) := ⟨⟨by decide +kernel, by decide +kernel⟩, List.mem_of_getElem? (i := 15) (by decide +kernel), List.mem_of_getElem? (i := 511) (by decide +kernel), List.mem_of_getElem? (i := 512) (by decide +kernel)⟩
theorem lw_p15 : lw_okq (⟨"RankBook$Circle", "add", "(LRankBook$Whole;)V"⟩, 3) := ⟨⟨by decide +kernel, by decide +kernel⟩, List.mem_of_getElem? (i := 27) (by decide +kernel), List.mem_of_getElem? (i := 522) (by decide +kernel), List.mem_of_getElem? (i := 523) (by decide +kernel)⟩
def lw_privs_1 : List (MethodName × Nat) := [(⟨"RankBook", "folioFault", "(I)I"⟩, 14), (⟨"RankBook", "settle", "(I)Z"⟩, 14), (⟨"RankBook", "folioAt", "(I)LRankBook$Folio;"⟩, 14), (⟨"RankBook", "dayFault", "(I)I"⟩, 14), (⟨"RankBook", "isPastOrToday", "(I)Z"⟩, 14), (⟨"RankBook", "enterFault", "(LRankBook$Folio;IJIJ)I"⟩, 14), (⟨"RankBook", "newAct", "()LRankBook$Act;"⟩, 14), (⟨"RankBook", "addEntry", "(LRankBook$Entry;)I"⟩, 14), (⟨"RankBook", "entryAt", "(I)LRankBook$Entry;"⟩, 14), (⟨"RankBook", "oweFault", "(LRankBook$Entry;J)I"⟩, 14), (⟨"RankBook", "payFault", "(LRankBook$Entry;J)I"⟩, 14), (⟨"RankBook", "divideFault", "(LRankBook$Entry;JZZ)I"⟩, 14), (⟨"RankBook", "divide", "(LRankBook$Entry;JI)I"⟩, 14), (⟨"RankBook", "postFault", "(LRankBook$Entry;LRankBook$Entry;J)I"⟩, 14), (⟨"RankBook", "liveInOneFolio", "(LRankBook$Whole;LRankBook$Whole;)Z"⟩, 14), (⟨"RankBook$Circle", "add", "(LRankBook$Whole;)V"⟩, 3)]
theorem lw_r1 : ∀ q ∈ lw_privs_1, lw_okq q := List.forall_mem_cons.mpr ⟨lw_p0, List.forall_mem_cons.mpr ⟨lw_p1, List.forall_mem_cons.mpr ⟨lw_p2, List.forall_mem_cons.mpr ⟨lw_p3, List.forall_mem_cons.mpr ⟨lw_p4, List.forall_mem_cons.mpr ⟨lw_p5, List.forall_mem_cons.mpr ⟨lw_p6, List.forall_mem_cons.mpr ⟨lw_p7, List.forall_mem_cons.mpr ⟨lw_p8, List.forall_mem_cons.mpr ⟨lw_p9, List.forall_mem_cons.mpr ⟨lw_p10, List.forall_mem_cons.mpr ⟨lw_p11, List.forall_mem_cons.mpr ⟨lw_p12, List.forall_mem_cons.mpr ⟨lw_p13, List.forall_mem_cons.mpr ⟨lw_p14, List.forall_mem_cons.mpr ⟨lw_p15, fun _ h => absurd h List.not_mem_nil⟩⟩⟩⟩⟩⟩⟩⟩⟩⟩⟩⟩⟩⟩⟩⟩
theorem lw_p16 : lw_okq (⟨"RankBook", "postAt", "(I)LRankBook$Post;"⟩, 14) := ⟨⟨by decide +kernel, by decide +kernel⟩, List.mem_of_getElem? (i := 15) (by decide +kernel), List.mem_of_getElem? (i := 576) (by decide +kernel), List.mem_of_getElem? (i := 577) (by decide +kernel)⟩
theorem lw_p17 : lw_okq (⟨"RankBook", "lieFault", "(LRankBook$Entry;I)I"⟩, 14) := ⟨⟨by decide +kernel, by decide +kernel⟩, List.mem_of_getElem? (i := 15) (by decide +kernel), List.mem_of_getElem? (i := 587) (by decide +kernel), List.mem_of_getElem? (i := 588) (by decide +kernel)⟩
theorem lw_p18 : lw_okq (⟨"RankBook", "strikeFault", "(LRankBook$Entry;)I"⟩, 14) := ⟨⟨by decide +kernel, by decide +kernel⟩, List.mem_of_getElem? (i := 15) (by decide +kernel), List.mem_of_getElem? (i := 614) (by decide +kernel), List.mem_of_getElem? (i := 615) (by decide +kernel)⟩
theorem lw_p19 : lw_okq (⟨"RankBook", "keepFault", "(LRankBook$Entry;LRankBook$Entry;)I"⟩, 14) := ⟨⟨by decide +kernel, by decide +kernel⟩, List.mem_of_getElem? (i := 15) (by decide +kernel), List.mem_of_getElem? (i := 622) (by decide +kernel), List.mem_of_getElem? (i := 623) (by decide +kernel)⟩
theorem lw_p20 : lw_okq (⟨"RankBook$Ranking", "rankPlaces", "(Z)V"⟩, 5) := ⟨⟨by decide +kernel, by decide +kernel⟩, List.mem_of_getElem? (i := 630) (by decide +kernel), List.mem_of_getElem? (i := 662) (by decide +kernel), List.mem_of_getElem? (i := 663) (by decide +kernel)⟩
theorem lw_p21 : lw_okq (⟨"RankBook", "nth", "(LRankBook$Folio;ILRankBook$Moment;I)I"⟩, 14) := ⟨⟨by decide +kernel, by decide +kernel⟩, List.mem_of_getElem? (i := 15) (by decide +kernel), List.mem_of_getElem? (i := 690) (by decide +kernel), List.mem_of_getElem? (i := 691) (by decide +kernel)⟩
theorem lw_p22 : lw_okq (⟨"RankBook", "standing", "(LRankBook$Entry;I)LRankBook$Whole;"⟩, 14) := ⟨⟨by decide +kernel, by decide +kernel⟩, List.mem_of_getElem? (i := 15) (by decide +kernel), List.mem_of_getElem? (i := 703) (by decide +kernel), List.mem_of_getElem? (i := 704) (by decide +kernel)⟩
theorem lw_p23 : lw_okq (⟨"RankBook", "offer", "(LRankBook$Folio;IJJ)LRankBook$Sale;"⟩, 14) := ⟨⟨by decide +kernel, by decide +kernel⟩, List.mem_of_getElem? (i := 15) (by decide +kernel), List.mem_of_getElem? (i := 723) (by decide +kernel), List.mem_of_getElem? (i := 724) (by decide +kernel)⟩
theorem lw_p24 : lw_okq (⟨"RankBook$Sale", "makeReady", "(LRankBook$Whole;)V"⟩, 2) := ⟨⟨by decide +kernel, by decide +kernel⟩, List.mem_of_getElem? (i := 730) (by decide +kernel), List.mem_of_getElem? (i := 748) (by decide +kernel), List.mem_of_getElem? (i := 749) (by decide +kernel)⟩
theorem lw_p25 : lw_okq (⟨"RankBook$Terms", "rentYears", "(I)I"⟩, 8) := ⟨⟨by decide +kernel, by decide +kernel⟩, List.mem_of_getElem? (i := 225) (by decide +kernel), List.mem_of_getElem? (i := 760) (by decide +kernel), List.mem_of_getElem? (i := 761) (by decide +kernel)⟩
theorem lw_p26 : lw_okq (⟨"RankBook$Terms", "withInterest", "(JI)J"⟩, 8) := ⟨⟨by decide +kernel, by decide +kernel⟩, List.mem_of_getElem? (i := 225) (by decide +kernel), List.mem_of_getElem? (i := 770) (by decide +kernel), List.mem_of_getElem? (i := 771) (by decide +kernel)⟩
theorem lw_p27 : lw_okq (⟨"RankBook$Sale", "payPlaces", "(Z)V"⟩, 2) := ⟨⟨by decide +kernel, by decide +kernel⟩, List.mem_of_getElem? (i := 730) (by decide +kernel), List.mem_of_getElem? (i := 779) (by decide +kernel), List.mem_of_getElem? (i := 780) (by decide +kernel)⟩
theorem lw_p28 : lw_okq (⟨"RankBook$Sale", "settleLeaves", "(LRankBook$Whole;LRankBook$Act;)V"⟩, 2) := ⟨⟨by decide +kernel, by decide +kernel⟩, List.mem_of_getElem? (i := 730) (by decide +kernel), List.mem_of_getElem? (i := 817) (by decide +kernel), List.mem_of_getElem? (i := 818) (by decide +kernel)⟩
theorem lw_p29 : lw_okq (⟨"RankBookModel", "isEntry", "(I)Z"⟩, 65) := ⟨⟨by decide +kernel, by decide +kernel⟩, List.mem_of_getElem? (i := 868) (by decide +kernel), List.mem_of_getElem? (i := 1076) (by decide +kernel), List.mem_of_getElem? (i := 1077) (by decide +kernel)⟩
theorem lw_p30 : lw_okq (⟨"RankBookModel", "dues", "(I)V"⟩, 65) := ⟨⟨by decide +kernel, by decide +kernel⟩, List.mem_of_getElem? (i := 868) (by decide +kernel), List.mem_of_getElem? (i := 1081) (by decide +kernel), List.mem_of_getElem? (i := 1082) (by decide +kernel)⟩
theorem lw_p31 : lw_okq (⟨"RankBookModel", "leavesOf", "(I)V"⟩, 65) := ⟨⟨by decide +kernel, by decide +kernel⟩, List.mem_of_getElem? (i := 868) (by decide +kernel), List.mem_of_getElem? (i := 1085) (by decide +kernel), List.mem_of_getElem? (i := 1086) (by decide +kernel)⟩
def lw_privs_2 : List (MethodName × Nat) := [(⟨"RankBook", "postAt", "(I)LRankBook$Post;"⟩, 14), (⟨"RankBook", "lieFault", "(LRankBook$Entry;I)I"⟩, 14), (⟨"RankBook", "strikeFault", "(LRankBook$Entry;)I"⟩, 14), (⟨"RankBook", "keepFault", "(LRankBook$Entry;LRankBook$Entry;)I"⟩, 14), (⟨"RankBook$Ranking", "rankPlaces", "(Z)V"⟩, 5), (⟨"RankBook", "nth", "(LRankBook$Folio;ILRankBook$Moment;I)I"⟩, 14), (⟨"RankBook", "standing", "(LRankBook$Entry;I)LRankBook$Whole;"⟩, 14), (⟨"RankBook", "offer", "(LRankBook$Folio;IJJ)LRankBook$Sale;"⟩, 14), (⟨"RankBook$Sale", "makeReady", "(LRankBook$Whole;)V"⟩, 2), (⟨"RankBook$Terms", "rentYears", "(I)I"⟩, 8), (⟨"RankBook$Terms", "withInterest", "(JI)J"⟩, 8), (⟨"RankBook$Sale", "payPlaces", "(Z)V"⟩, 2), (⟨"RankBook$Sale", "settleLeaves", "(LRankBook$Whole;LRankBook$Act;)V"⟩, 2), (⟨"RankBookModel", "isEntry", "(I)Z"⟩, 65), (⟨"RankBookModel", "dues", "(I)V"⟩, 65), (⟨"RankBookModel", "leavesOf", "(I)V"⟩, 65)]
theorem lw_r2 : ∀ q ∈ lw_privs_2, lw_okq q := List.forall_mem_cons.mpr ⟨lw_p16, List.forall_mem_cons.mpr ⟨lw_p17, List.forall_mem_cons.mpr ⟨lw_p18, List.forall_mem_cons.mpr ⟨lw_p19, List.forall_mem_cons.mpr ⟨lw_p20, List.forall_mem_cons.mpr ⟨lw_p21, List.forall_mem_cons.mpr ⟨lw_p22, List.forall_mem_cons.mpr ⟨lw_p23, List.forall_mem_cons.mpr ⟨lw_p24, List.forall_mem_cons.mpr ⟨lw_p25, List.forall_mem_cons.mpr ⟨lw_p26, List.forall_mem_cons.mpr ⟨lw_p27, List.forall_mem_cons.mpr ⟨lw_p28, List.forall_mem_cons.mpr ⟨lw_p29, List.forall_mem_cons.mpr ⟨lw_p30, List.forall_mem_cons.mpr ⟨lw_p31, fun _ h => absurd h List.not_mem_nil⟩⟩⟩⟩⟩⟩⟩⟩⟩⟩⟩⟩⟩⟩⟩⟩
theorem lw_p32 : lw_okq (⟨"RankBookModel", "gather", "(I)V"⟩, 65) := ⟨⟨by decide +kernel, by decide +kernel⟩, List.mem_of_getElem? (i := 868) (by decide +kernel), List.mem_of_getElem? (i := 1089) (by decide +kernel), List.mem_of_getElem? (i := 1090) (by decide +kernel)⟩
theorem lw_p33 : lw_okq (⟨"RankBookModel", "dueOfSum", "(IJ)J"⟩, 65) := ⟨⟨by decide +kernel, by decide +kernel⟩, List.mem_of_getElem? (i := 868) (by decide +kernel), List.mem_of_getElem? (i := 1093) (by decide +kernel), List.mem_of_getElem? (i := 1094) (by decide +kernel)⟩
theorem lw_p34 : lw_okq (⟨"RankBookModel", "refuse", "(I)I"⟩, 65) := ⟨⟨by decide +kernel, by decide +kernel⟩, List.mem_of_getElem? (i := 868) (by decide +kernel), List.mem_of_getElem? (i := 1104) (by decide +kernel), List.mem_of_getElem? (i := 1105) (by decide +kernel)⟩
theorem lw_p35 : lw_okq (⟨"RankBookModel", "wrong", "(II)I"⟩, 65) := ⟨⟨by decide +kernel, by decide +kernel⟩, List.mem_of_getElem? (i := 868) (by decide +kernel), List.mem_of_getElem? (i := 1112) (by decide +kernel), List.mem_of_getElem? (i := 1113) (by decide +kernel)⟩
theorem lw_p36 : lw_okq (⟨"RankBookModel", "no", "(I)Z"⟩, 65) := ⟨⟨by decide +kernel, by decide +kernel⟩, List.mem_of_getElem? (i := 868) (by decide +kernel), List.mem_of_getElem? (i := 1116) (by decide +kernel), List.mem_of_getElem? (i := 1117) (by decide +kernel)⟩
theorem lw_p37 : lw_okq (⟨"RankBookModel", "wrongBits", "(IJ)I"⟩, 65) := ⟨⟨by decide +kernel, by decide +kernel⟩, List.mem_of_getElem? (i := 868) (by decide +kernel), List.mem_of_getElem? (i := 1133) (by decide +kernel), List.mem_of_getElem? (i := 1134) (by decide +kernel)⟩
theorem lw_p38 : lw_okq (⟨"RankBookModel", "make", "(IIIIIJ)I"⟩, 65) := ⟨⟨by decide +kernel, by decide +kernel⟩, List.mem_of_getElem? (i := 868) (by decide +kernel), List.mem_of_getElem? (i := 1138) (by decide +kernel), List.mem_of_getElem? (i := 1139) (by decide +kernel)⟩
theorem lw_p39 : lw_okq (⟨"RankBookModel", "dateNow", "()I"⟩, 65) := ⟨⟨by decide +kernel, by decide +kernel⟩, List.mem_of_getElem? (i := 868) (by decide +kernel), List.mem_of_getElem? (i := 1142) (by decide +kernel), List.mem_of_getElem? (i := 1143) (by decide +kernel)⟩
theorem lw_p40 : lw_okq (⟨"RankBookModel", "livesNow", "(I)Z"⟩, 65) := ⟨⟨by decide +kernel, by decide +kernel⟩, List.mem_of_getElem? (i := 868) (by decide +kernel), List.mem_of_getElem? (i := 1155) (by decide +kernel), List.mem_of_getElem? (i := 1156) (by decide +kernel)⟩
theorem lw_p41 : lw_okq (⟨"RankBookModel", "now", "()V"⟩, 65) := ⟨⟨by decide +kernel, by decide +kernel⟩, List.mem_of_getElem? (i := 868) (by decide +kernel), List.mem_of_getElem? (i := 1159) (by decide +kernel), List.mem_of_getElem? (i := 1160) (by decide +kernel)⟩
theorem lw_p42 : lw_okq (⟨"RankBookModel", "view", "(II)V"⟩, 65) := ⟨⟨by decide +kernel, by decide +kernel⟩, List.mem_of_getElem? (i := 868) (by decide +kernel), List.mem_of_getElem? (i := 1163) (by decide +kernel), List.mem_of_getElem? (i := 1164) (by decide +kernel)⟩
theorem lw_p43 : lw_okq (⟨"RankBookModel", "lives", "(I)Z"⟩, 65) := ⟨⟨by decide +kernel, by decide +kernel⟩, List.mem_of_getElem? (i := 868) (by decide +kernel), List.mem_of_getElem? (i := 1167) (by decide +kernel), List.mem_of_getElem? (i := 1168) (by decide +kernel)⟩
theorem lw_p44 : lw_okq (⟨"RankBookModel", "counts", "(II)Z"⟩, 65) := ⟨⟨by decide +kernel, by decide +kernel⟩, List.mem_of_getElem? (i := 868) (by decide +kernel), List.mem_of_getElem? (i := 1171) (by decide +kernel), List.mem_of_getElem? (i := 1172) (by decide +kernel)⟩
theorem lw_p45 : lw_okq (⟨"RankBookModel", "sumBelow", "(I)J"⟩, 65) := ⟨⟨by decide +kernel, by decide +kernel⟩, List.mem_of_getElem? (i := 868) (by decide +kernel), List.mem_of_getElem? (i := 1175) (by decide +kernel), List.mem_of_getElem? (i := 1176) (by decide +kernel)⟩
theorem lw_p46 : lw_okq (⟨"RankBookModel", "parting", "(IJIZ)I"⟩, 65) := ⟨⟨by decide +kernel, by decide +kernel⟩, List.mem_of_getElem? (i := 868) (by decide +kernel), List.mem_of_getElem? (i := 1191) (by decide +kernel), List.mem_of_getElem? (i := 1192) (by decide +kernel)⟩
theorem lw_p47 : lw_okq (⟨"RankBookModel", "part", "(IJI)I"⟩, 65) := ⟨⟨by decide +kernel, by decide +kernel⟩, List.mem_of_getElem? (i := 868) (by decide +kernel), List.mem_of_getElem? (i := 1195) (by decide +kernel), List.mem_of_getElem? (i := 1196) (by decide +kernel)⟩
def lw_privs_3 : List (MethodName × Nat) := [(⟨"RankBookModel", "gather", "(I)V"⟩, 65), (⟨"RankBookModel", "dueOfSum", "(IJ)J"⟩, 65), (⟨"RankBookModel", "refuse", "(I)I"⟩, 65), (⟨"RankBookModel", "wrong", "(II)I"⟩, 65), (⟨"RankBookModel", "no", "(I)Z"⟩, 65), (⟨"RankBookModel", "wrongBits", "(IJ)I"⟩, 65), (⟨"RankBookModel", "make", "(IIIIIJ)I"⟩, 65), (⟨"RankBookModel", "dateNow", "()I"⟩, 65), (⟨"RankBookModel", "livesNow", "(I)Z"⟩, 65), (⟨"RankBookModel", "now", "()V"⟩, 65), (⟨"RankBookModel", "view", "(II)V"⟩, 65), (⟨"RankBookModel", "lives", "(I)Z"⟩, 65), (⟨"RankBookModel", "counts", "(II)Z"⟩, 65), (⟨"RankBookModel", "sumBelow", "(I)J"⟩, 65), (⟨"RankBookModel", "parting", "(IJIZ)I"⟩, 65), (⟨"RankBookModel", "part", "(IJI)I"⟩, 65)]
theorem lw_r3 : ∀ q ∈ lw_privs_3, lw_okq q := List.forall_mem_cons.mpr ⟨lw_p32, List.forall_mem_cons.mpr ⟨lw_p33, List.forall_mem_cons.mpr ⟨lw_p34, List.forall_mem_cons.mpr ⟨lw_p35, List.forall_mem_cons.mpr ⟨lw_p36, List.forall_mem_cons.mpr ⟨lw_p37, List.forall_mem_cons.mpr ⟨lw_p38, List.forall_mem_cons.mpr ⟨lw_p39, List.forall_mem_cons.mpr ⟨lw_p40, List.forall_mem_cons.mpr ⟨lw_p41, List.forall_mem_cons.mpr ⟨lw_p42, List.forall_mem_cons.mpr ⟨lw_p43, List.forall_mem_cons.mpr ⟨lw_p44, List.forall_mem_cons.mpr ⟨lw_p45, List.forall_mem_cons.mpr ⟨lw_p46, List.forall_mem_cons.mpr ⟨lw_p47, fun _ h => absurd h List.not_mem_nil⟩⟩⟩⟩⟩⟩⟩⟩⟩⟩⟩⟩⟩⟩⟩⟩
theorem lw_p48 : lw_okq (⟨"RankBookModel", "measure", "(I)V"⟩, 65) := ⟨⟨by decide +kernel, by decide +kernel⟩, List.mem_of_getElem? (i := 868) (by decide +kernel), List.mem_of_getElem? (i := 1207) (by decide +kernel), List.mem_of_getElem? (i := 1208) (by decide +kernel)⟩
theorem lw_p49 : lw_okq (⟨"RankBookModel", "isUndone", "(I)Z"⟩, 65) := ⟨⟨by decide +kernel, by decide +kernel⟩, List.mem_of_getElem? (i := 868) (by decide +kernel), List.mem_of_getElem? (i := 1211) (by decide +kernel), List.mem_of_getElem? (i := 1212) (by decide +kernel)⟩
theorem lw_p50 : lw_okq (⟨"RankBookModel", "draw", "(II)V"⟩, 65) := ⟨⟨by decide +kernel, by decide +kernel⟩, List.mem_of_getElem? (i := 868) (by decide +kernel), List.mem_of_getElem? (i := 1215) (by decide +kernel), List.mem_of_getElem? (i := 1216) (by decide +kernel)⟩
theorem lw_p51 : lw_okq (⟨"RankBookModel", "lies", "(II)Z"⟩, 65) := ⟨⟨by decide +kernel, by decide +kernel⟩, List.mem_of_getElem? (i := 868) (by decide +kernel), List.mem_of_getElem? (i := 1231) (by decide +kernel), List.mem_of_getElem? (i := 1232) (by decide +kernel)⟩
theorem lw_p52 : lw_okq (⟨"RankBookModel", "hasLeafOn", "(II)Z"⟩, 65) := ⟨⟨by decide +kernel, by decide +kernel⟩, List.mem_of_getElem? (i := 868) (by decide +kernel), List.mem_of_getElem? (i := 1235) (by decide +kernel), List.mem_of_getElem? (i := 1236) (by decide +kernel)⟩
theorem lw_p53 : lw_okq (⟨"RankBookModel", "isOff", "(II)Z"⟩, 65) := ⟨⟨by decide +kernel, by decide +kernel⟩, List.mem_of_getElem? (i := 868) (by decide +kernel), List.mem_of_getElem? (i := 1239) (by decide +kernel), List.mem_of_getElem? (i := 1240) (by decide +kernel)⟩
theorem lw_p54 : lw_okq (⟨"RankBookModel", "orderOn", "(II)V"⟩, 65) := ⟨⟨by decide +kernel, by decide +kernel⟩, List.mem_of_getElem? (i := 868) (by decide +kernel), List.mem_of_getElem? (i := 1255) (by decide +kernel), List.mem_of_getElem? (i := 1256) (by decide +kernel)⟩
theorem lw_p55 : lw_okq (⟨"RankBookModel", "placesOn", "(II)V"⟩, 65) := ⟨⟨by decide +kernel, by decide +kernel⟩, List.mem_of_getElem? (i := 868) (by decide +kernel), List.mem_of_getElem? (i := 1259) (by decide +kernel), List.mem_of_getElem? (i := 1260) (by decide +kernel)⟩
theorem lw_p56 : lw_okq (⟨"RankBookModel", "stand", "(IZ)V"⟩, 65) := ⟨⟨by decide +kernel, by decide +kernel⟩, List.mem_of_getElem? (i := 868) (by decide +kernel), List.mem_of_getElem? (i := 1263) (by decide +kernel), List.mem_of_getElem? (i := 1264) (by decide +kernel)⟩
theorem lw_p57 : lw_okq (⟨"RankBookModel", "isAhead", "(IIZ)Z"⟩, 65) := ⟨⟨by decide +kernel, by decide +kernel⟩, List.mem_of_getElem? (i := 868) (by decide +kernel), List.mem_of_getElem? (i := 1267) (by decide +kernel), List.mem_of_getElem? (i := 1268) (by decide +kernel)⟩
theorem lw_p58 : lw_okq (⟨"RankBookModel", "whose", "(I)I"⟩, 65) := ⟨⟨by decide +kernel, by decide +kernel⟩, List.mem_of_getElem? (i := 868) (by decide +kernel), List.mem_of_getElem? (i := 1271) (by decide +kernel), List.mem_of_getElem? (i := 1272) (by decide +kernel)⟩
theorem lw_p59 : lw_okq (⟨"RankBookModel", "isFirst", "(I)Z"⟩, 65) := ⟨⟨by decide +kernel, by decide +kernel⟩, List.mem_of_getElem? (i := 868) (by decide +kernel), List.mem_of_getElem? (i := 1275) (by decide +kernel), List.mem_of_getElem? (i := 1276) (by decide +kernel)⟩
theorem lw_p60 : lw_okq (⟨"RankBookModel", "standsAt", "(I)I"⟩, 65) := ⟨⟨by decide +kernel, by decide +kernel⟩, List.mem_of_getElem? (i := 868) (by decide +kernel), List.mem_of_getElem? (i := 1279) (by decide +kernel), List.mem_of_getElem? (i := 1280) (by decide +kernel)⟩
theorem lw_p61 : lw_okq (⟨"RankBookModel", "isPosted", "(II)Z"⟩, 65) := ⟨⟨by decide +kernel, by decide +kernel⟩, List.mem_of_getElem? (i := 868) (by decide +kernel), List.mem_of_getElem? (i := 1283) (by decide +kernel), List.mem_of_getElem? (i := 1284) (by decide +kernel)⟩
theorem lw_p62 : lw_okq (⟨"RankBookModel", "isRanked", "(II)Z"⟩, 65) := ⟨⟨by decide +kernel, by decide +kernel⟩, List.mem_of_getElem? (i := 868) (by decide +kernel), List.mem_of_getElem? (i := 1295) (by decide +kernel), List.mem_of_getElem? (i := 1296) (by decide +kernel)⟩
theorem lw_p63 : lw_okq (⟨"RankBookModel", "wrongSale", "(IIJJ)I"⟩, 65) := ⟨⟨by decide +kernel, by decide +kernel⟩, List.mem_of_getElem? (i := 868) (by decide +kernel), List.mem_of_getElem? (i := 1315) (by decide +kernel), List.mem_of_getElem? (i := 1316) (by decide +kernel)⟩
def lw_privs_4 : List (MethodName × Nat) := [(⟨"RankBookModel", "measure", "(I)V"⟩, 65), (⟨"RankBookModel", "isUndone", "(I)Z"⟩, 65), (⟨"RankBookModel", "draw", "(II)V"⟩, 65), (⟨"RankBookModel", "lies", "(II)Z"⟩, 65), (⟨"RankBookModel", "hasLeafOn", "(II)Z"⟩, 65), (⟨"RankBookModel", "isOff", "(II)Z"⟩, 65), (⟨"RankBookModel", "orderOn", "(II)V"⟩, 65), (⟨"RankBookModel", "placesOn", "(II)V"⟩, 65), (⟨"RankBookModel", "stand", "(IZ)V"⟩, 65), (⟨"RankBookModel", "isAhead", "(IIZ)Z"⟩, 65), (⟨"RankBookModel", "whose", "(I)I"⟩, 65), (⟨"RankBookModel", "isFirst", "(I)Z"⟩, 65), (⟨"RankBookModel", "standsAt", "(I)I"⟩, 65), (⟨"RankBookModel", "isPosted", "(II)Z"⟩, 65), (⟨"RankBookModel", "isRanked", "(II)Z"⟩, 65), (⟨"RankBookModel", "wrongSale", "(IIJJ)I"⟩, 65)]
theorem lw_r4 : ∀ q ∈ lw_privs_4, lw_okq q := List.forall_mem_cons.mpr ⟨lw_p48, List.forall_mem_cons.mpr ⟨lw_p49, List.forall_mem_cons.mpr ⟨lw_p50, List.forall_mem_cons.mpr ⟨lw_p51, List.forall_mem_cons.mpr ⟨lw_p52, List.forall_mem_cons.mpr ⟨lw_p53, List.forall_mem_cons.mpr ⟨lw_p54, List.forall_mem_cons.mpr ⟨lw_p55, List.forall_mem_cons.mpr ⟨lw_p56, List.forall_mem_cons.mpr ⟨lw_p57, List.forall_mem_cons.mpr ⟨lw_p58, List.forall_mem_cons.mpr ⟨lw_p59, List.forall_mem_cons.mpr ⟨lw_p60, List.forall_mem_cons.mpr ⟨lw_p61, List.forall_mem_cons.mpr ⟨lw_p62, List.forall_mem_cons.mpr ⟨lw_p63, fun _ h => absurd h List.not_mem_nil⟩⟩⟩⟩⟩⟩⟩⟩⟩⟩⟩⟩⟩⟩⟩⟩
theorem lw_p64 : lw_okq (⟨"RankBookModel", "give", "(IIJJ)J"⟩, 65) := ⟨⟨by decide +kernel, by decide +kernel⟩, List.mem_of_getElem? (i := 868) (by decide +kernel), List.mem_of_getElem? (i := 1319) (by decide +kernel), List.mem_of_getElem? (i := 1320) (by decide +kernel)⟩
theorem lw_p65 : lw_okq (⟨"RankBookModel", "prepare", "(I)V"⟩, 65) := ⟨⟨by decide +kernel, by decide +kernel⟩, List.mem_of_getElem? (i := 868) (by decide +kernel), List.mem_of_getElem? (i := 1323) (by decide +kernel), List.mem_of_getElem? (i := 1324) (by decide +kernel)⟩
theorem lw_p66 : lw_okq (⟨"RankBookModel", "dueIn", "(I)J"⟩, 65) := ⟨⟨by decide +kernel, by decide +kernel⟩, List.mem_of_getElem? (i := 868) (by decide +kernel), List.mem_of_getElem? (i := 1327) (by decide +kernel), List.mem_of_getElem? (i := 1328) (by decide +kernel)⟩
theorem lw_p67 : lw_okq (⟨"RankBookModel", "gotBy", "(I)J"⟩, 65) := ⟨⟨by decide +kernel, by decide +kernel⟩, List.mem_of_getElem? (i := 868) (by decide +kernel), List.mem_of_getElem? (i := 1331) (by decide +kernel), List.mem_of_getElem? (i := 1332) (by decide +kernel)⟩
theorem lw_p68 : lw_okq (⟨"RankBookModel", "gets", "(IJ)V"⟩, 65) := ⟨⟨by decide +kernel, by decide +kernel⟩, List.mem_of_getElem? (i := 868) (by decide +kernel), List.mem_of_getElem? (i := 1335) (by decide +kernel), List.mem_of_getElem? (i := 1336) (by decide +kernel)⟩
theorem lw_p69 : lw_okq (⟨"RankBookModel", "gives", "(IJ)V"⟩, 65) := ⟨⟨by decide +kernel, by decide +kernel⟩, List.mem_of_getElem? (i := 868) (by decide +kernel), List.mem_of_getElem? (i := 1339) (by decide +kernel), List.mem_of_getElem? (i := 1340) (by decide +kernel)⟩
def lw_privs_5 : List (MethodName × Nat) := [(⟨"RankBookModel", "give", "(IIJJ)J"⟩, 65), (⟨"RankBookModel", "prepare", "(I)V"⟩, 65), (⟨"RankBookModel", "dueIn", "(I)J"⟩, 65), (⟨"RankBookModel", "gotBy", "(I)J"⟩, 65), (⟨"RankBookModel", "gets", "(IJ)V"⟩, 65), (⟨"RankBookModel", "gives", "(IJ)V"⟩, 65)]
theorem lw_r5 : ∀ q ∈ lw_privs_5, lw_okq q := List.forall_mem_cons.mpr ⟨lw_p64, List.forall_mem_cons.mpr ⟨lw_p65, List.forall_mem_cons.mpr ⟨lw_p66, List.forall_mem_cons.mpr ⟨lw_p67, List.forall_mem_cons.mpr ⟨lw_p68, List.forall_mem_cons.mpr ⟨lw_p69, fun _ h => absurd h List.not_mem_nil⟩⟩⟩⟩⟩⟩
def lw_privs : List (MethodName × Nat) := lw_privs_1 ++ (lw_privs_2 ++ (lw_privs_3 ++ (lw_privs_4 ++ (lw_privs_5))))
def lw_tbl : List Cond := k2_sels lw_privs ++ tables_1
theorem lw_privs_ok : ∀ q ∈ lw_privs, lw_okq q := by
  show ∀ q ∈ lw_privs_1 ++ (lw_privs_2 ++ (lw_privs_3 ++ (lw_privs_4 ++ (lw_privs_5)))), lw_okq q
  exact List.forall_mem_append.mpr ⟨lw_r1, List.forall_mem_append.mpr ⟨lw_r2, List.forall_mem_append.mpr ⟨lw_r3, List.forall_mem_append.mpr ⟨lw_r4, lw_r5⟩⟩⟩⟩
end
section
/-! ===== BEGIN words of one list among another's, by their places ===== -/
theorem goodIn_r {big : List Cond} (ws : List Cond) (ps : List Nat) (hp : ws = ps.filterMap (fun i => big[i]?)) (h : ws.all goodWord = true) : GoodIn big ws := by
  intro w hw
  have h1 := List.all_eq_true.mp h w hw
  rw [hp] at hw
  obtain ⟨i, -, hi⟩ := List.mem_filterMap.mp hw
  have hm : w ∈ big := by first | exact List.mem_of_getElem? hi | exact List.getElem?_mem hi
  exact ⟨hm, good_of_word h1⟩
theorem goodIn_app {big a b : List Cond} (ha : GoodIn big a) (hb : GoodIn big b) : GoodIn big (a ++ b) := fun w h => (List.mem_append.mp h).elim (ha w) (hb w)
theorem goodIn_ca {big a b : List Cond} {c : Cond} (ha : GoodIn big (c :: a)) (hb : GoodIn big b) : GoodIn big (c :: (a ++ b)) := fun w h => (List.mem_cons.mp h).elim (fun e => ha w (List.mem_cons.mpr (Or.inl e))) (fun h => (List.mem_append.mp h).elim (fun h => ha w (List.mem_cons.mpr (Or.inr h))) (hb w))
theorem goodIn_sub {big ws : List Cond} (hm : ∀ w ∈ ws, w ∈ big) (h : ws.all goodWord = true) : GoodIn big ws := fun w hw => ⟨hm w hw, good_of_word (List.all_eq_true.mp h w hw)⟩
/-! ===== END ===== -/

/-! ===== BEGIN printed: names, fields, word lists, decode rows ===== -/
def RX0 : String := "RankBook$Act"
def TX0 : u_T := fun k => match k with
  | 0 => ("RankBook$Act", "dated", "I", true)
  | _ => ("RankBook$Act", "known", "I", true)
def tyX0 : Nat → FieldType := fun k => match k with
  | 0 => .int
  | _ => .int
abbrev wsX00 : List Cond := u_ws RX0 TX0 2
theorem nmX0 : ∀ a, a < 2 → ∀ b, b < 2 → a ≠ b → (TX0 a).2.1 ≠ (TX0 b).2.1 := by decide +kernel
theorem tyX0_ok : ∀ k, k < 2 → parseFieldDescriptor (TX0 k).2.2.1 = some (tyX0 k) := by decide +kernel
abbrev cX0_init : ByteArray := prog_2_method_1_code
def yX0_init : MethodName := ⟨RX0, "<init>", "(II)V"⟩
abbrev cX0_happened : ByteArray := prog_2_method_2_code
def yX0_happened : MethodName := ⟨RX0, "happened", "(LRankBook$Act;LRankBook$Moment;)Z"⟩
def RX1 : String := "RankBook$Circle"
def TX1 : u_T := fun k => match k with
  | 0 => ("RankBook$Circle", "wholes", "[I", true)
  | 1 => ("RankBook$Circle", "length", "I", false)
  | _ => ("RankBook$Circle", "refusals", "I", false)
def tyX1 : Nat → FieldType := fun k => match k with
  | 0 => .array .int
  | 1 => .int
  | _ => .int
abbrev wsX10 : List Cond := u_ws RX1 TX1 3
theorem nmX1 : ∀ a, a < 3 → ∀ b, b < 3 → a ≠ b → (TX1 a).2.1 ≠ (TX1 b).2.1 := by decide +kernel
theorem tyX1_ok : ∀ k, k < 3 → parseFieldDescriptor (TX1 k).2.2.1 = some (tyX1 k) := by decide +kernel
abbrev cX1_init : ByteArray := prog_3_method_1_code
def yX1_init : MethodName := ⟨RX1, "<init>", "()V"⟩
abbrev cX1_wholeAt : ByteArray := prog_3_method_2_code
def yX1_wholeAt : MethodName := ⟨RX1, "wholeAt", "(I)I"⟩
abbrev cX1_closedBy : ByteArray := prog_3_method_3_code
def yX1_closedBy : MethodName := ⟨RX1, "closedBy", "(LRankBook$Whole;LRankBook$Whole;LRankBook$Post;)Z"⟩
abbrev cX1_measureSteps : ByteArray := prog_3_method_4_code
def yX1_measureSteps : MethodName := ⟨RX1, "measureSteps", "(LRankBook$Whole;LRankBook$Whole;LRankBook$Post;)V"⟩
abbrev cX1_nearer : ByteArray := prog_3_method_5_code
def yX1_nearer : MethodName := ⟨RX1, "nearer", "(LRankBook$Whole;LRankBook$Post;)LRankBook$Whole;"⟩
abbrev cX1_add : ByteArray := prog_3_method_6_code
def yX1_add : MethodName := ⟨RX1, "add", "(LRankBook$Whole;)V"⟩
def RX2 : String := "RankBook$Entry"
def TX2 : u_T := fun k => match k with
  | 0 => ("RankBook$Entry", "number", "I", true)
  | 1 => ("RankBook$Entry", "whole", "LRankBook$Whole;", true)
  | 2 => ("RankBook$Entry", "parent", "LRankBook$Entry;", true)
  | 3 => ("RankBook$Entry", "owner", "I", true)
  | 4 => ("RankBook$Entry", "owed", "J", false)
  | 5 => ("RankBook$Entry", "hasParts", "Z", false)
  | 6 => ("RankBook$Entry", "releases", "[LRankBook$Act;", false)
  | 7 => ("RankBook$Entry", "previousLeaf", "LRankBook$Entry;", false)
  | 8 => ("RankBook$Entry", "nextLeaf", "LRankBook$Entry;", false)
  | 9 => ("RankBook$Entry", "leafDue", "J", false)
  | 10 => ("RankBook$Entry", "leafHas", "J", false)
  | 11 => ("RankBook$Entry", "latestShare", "J", false)
  | _ => ("RankBook$Entry", "toldShare", "J", false)
def tyX2 : Nat → FieldType := fun k => match k with
  | 0 => .int
  | 1 => .object "RankBook$Whole"
  | 2 => .object "RankBook$Entry"
  | 3 => .int
  | 4 => .long
  | 5 => .boolean
  | 6 => .array (.object "RankBook$Act")
  | 7 => .object "RankBook$Entry"
  | 8 => .object "RankBook$Entry"
  | 9 => .long
  | 10 => .long
  | 11 => .long
  | _ => .long
abbrev wsX20 : List Cond := u_ws RX2 TX2 13
theorem nmX2 : ∀ a, a < 13 → ∀ b, b < 13 → a ≠ b → (TX2 a).2.1 ≠ (TX2 b).2.1 := by decide +kernel
theorem tyX2_ok : ∀ k, k < 13 → parseFieldDescriptor (TX2 k).2.2.1 = some (tyX2 k) := by decide +kernel
abbrev cX2_init : ByteArray := prog_4_method_1_code
def yX2_init : MethodName := ⟨RX2, "<init>", "(ILRankBook$Whole;LRankBook$Entry;JI)V"⟩
abbrev cX2_isBelow : ByteArray := prog_4_method_2_code
def yX2_isBelow : MethodName := ⟨RX2, "isBelow", "(LRankBook$Entry;)Z"⟩
abbrev cX2_recordRelease : ByteArray := prog_4_method_3_code
def yX2_recordRelease : MethodName := ⟨RX2, "recordRelease", "(ILRankBook$Act;)V"⟩
abbrev cX2_isReleased : ByteArray := prog_4_method_4_code
def yX2_isReleased : MethodName := ⟨RX2, "isReleased", "(ILRankBook$Moment;)Z"⟩
abbrev cX2_liesOn : ByteArray := prog_4_method_5_code
def yX2_liesOn : MethodName := ⟨RX2, "liesOn", "(ILRankBook$Moment;)Z"⟩
def RX3 : String := "RankBook$Folio"
def TX3 : u_T := fun k => match k with
  | 0 => ("RankBook$Folio", "number", "I", true)
  | 1 => ("RankBook$Folio", "size", "I", true)
  | 2 => ("RankBook$Folio", "torn", "J", false)
  | 3 => ("RankBook$Folio", "first", "LRankBook$Whole;", false)
  | _ => ("RankBook$Folio", "last", "LRankBook$Whole;", false)
def tyX3 : Nat → FieldType := fun k => match k with
  | 0 => .int
  | 1 => .int
  | 2 => .long
  | 3 => .object "RankBook$Whole"
  | _ => .object "RankBook$Whole"
abbrev wsX30 : List Cond := u_ws RX3 TX3 5
theorem nmX3 : ∀ a, a < 5 → ∀ b, b < 5 → a ≠ b → (TX3 a).2.1 ≠ (TX3 b).2.1 := by decide +kernel
theorem tyX3_ok : ∀ k, k < 5 → parseFieldDescriptor (TX3 k).2.2.1 = some (tyX3 k) := by decide +kernel
abbrev cX3_init : ByteArray := prog_5_method_1_code
def yX3_init : MethodName := ⟨RX3, "<init>", "(II)V"⟩
abbrev cX3_hasParcel : ByteArray := prog_5_method_2_code
def yX3_hasParcel : MethodName := ⟨RX3, "hasParcel", "(I)Z"⟩
abbrev cX3_isTorn : ByteArray := prog_5_method_3_code
def yX3_isTorn : MethodName := ⟨RX3, "isTorn", "(I)Z"⟩
abbrev cX3_tearOff : ByteArray := prog_5_method_4_code
def yX3_tearOff : MethodName := ⟨RX3, "tearOff", "(I)V"⟩
abbrev cX3_allParcels : ByteArray := prog_5_method_5_code
def yX3_allParcels : MethodName := ⟨RX3, "allParcels", "()J"⟩
abbrev cX3_insert : ByteArray := prog_5_method_6_code
def yX3_insert : MethodName := ⟨RX3, "insert", "(LRankBook$Whole;)V"⟩
def RX4 : String := "RankBook$Moment"
def TX4 : u_T := fun k => match k with
  | 0 => ("RankBook$Moment", "day", "I", true)
  | _ => ("RankBook$Moment", "known", "I", true)
def tyX4 : Nat → FieldType := fun k => match k with
  | 0 => .int
  | _ => .int
abbrev wsX40 : List Cond := u_ws RX4 TX4 2
theorem nmX4 : ∀ a, a < 2 → ∀ b, b < 2 → a ≠ b → (TX4 a).2.1 ≠ (TX4 b).2.1 := by decide +kernel
theorem tyX4_ok : ∀ k, k < 2 → parseFieldDescriptor (TX4 k).2.2.1 = some (tyX4 k) := by decide +kernel
abbrev cX4_init : ByteArray := prog_6_method_1_code
def yX4_init : MethodName := ⟨RX4, "<init>", "(II)V"⟩
def RX5 : String := "RankBook$Post"
def TX5 : u_T := fun k => match k with
  | 0 => ("RankBook$Post", "number", "I", true)
  | 1 => ("RankBook$Post", "giver", "LRankBook$Entry;", true)
  | 2 => ("RankBook$Post", "taker", "LRankBook$Entry;", true)
  | 3 => ("RankBook$Post", "limit", "J", true)
  | 4 => ("RankBook$Post", "made", "LRankBook$Act;", true)
  | 5 => ("RankBook$Post", "undone", "LRankBook$Act;", false)
  | _ => ("RankBook$Post", "next", "LRankBook$Post;", false)
def tyX5 : Nat → FieldType := fun k => match k with
  | 0 => .int
  | 1 => .object "RankBook$Entry"
  | 2 => .object "RankBook$Entry"
  | 3 => .long
  | 4 => .object "RankBook$Act"
  | 5 => .object "RankBook$Act"
  | _ => .object "RankBook$Post"
abbrev wsX50 : List Cond := u_ws RX5 TX5 7
theorem nmX5 : ∀ a, a < 7 → ∀ b, b < 7 → a ≠ b → (TX5 a).2.1 ≠ (TX5 b).2.1 := by decide +kernel
theorem tyX5_ok : ∀ k, k < 7 → parseFieldDescriptor (TX5 k).2.2.1 = some (tyX5 k) := by decide +kernel
abbrev cX5_init : ByteArray := prog_7_method_1_code
def yX5_init : MethodName := ⟨RX5, "<init>", "(ILRankBook$Entry;LRankBook$Entry;JLRankBook$Act;)V"⟩
abbrev cX5_countsOn : ByteArray := prog_7_method_2_code
def yX5_countsOn : MethodName := ⟨RX5, "countsOn", "(LRankBook$Folio;ILRankBook$Moment;)Z"⟩
abbrev cX5_changePlaces : ByteArray := prog_7_method_3_code
def yX5_changePlaces : MethodName := ⟨RX5, "changePlaces", "()V"⟩
def RX6 : String := "RankBook$Ranking"
def TX6 : u_T := fun k => match k with
  | 0 => ("RankBook$Ranking", "folio", "LRankBook$Folio;", true)
  | 1 => ("RankBook$Ranking", "parcel", "I", true)
  | 2 => ("RankBook$Ranking", "moment", "LRankBook$Moment;", true)
  | 3 => ("RankBook$Ranking", "firstPost", "LRankBook$Post;", true)
  | _ => ("RankBook$Ranking", "size", "I", false)
def tyX6 : Nat → FieldType := fun k => match k with
  | 0 => .object "RankBook$Folio"
  | 1 => .int
  | 2 => .object "RankBook$Moment"
  | 3 => .object "RankBook$Post"
  | _ => .int
abbrev wsX60 : List Cond := u_ws RX6 TX6 5
theorem nmX6 : ∀ a, a < 5 → ∀ b, b < 5 → a ≠ b → (TX6 a).2.1 ≠ (TX6 b).2.1 := by decide +kernel
theorem tyX6_ok : ∀ k, k < 5 → parseFieldDescriptor (TX6 k).2.2.1 = some (tyX6 k) := by decide +kernel
abbrev cX6_init : ByteArray := prog_8_method_1_code
def yX6_init : MethodName := ⟨RX6, "<init>", "(LRankBook$Folio;ILRankBook$Moment;LRankBook$Post;)V"⟩
abbrev cX6_arrange : ByteArray := prog_8_method_2_code
def yX6_arrange : MethodName := ⟨RX6, "arrange", "()V"⟩
abbrev cX6_rankPlaces : ByteArray := prog_8_method_3_code
def yX6_rankPlaces : MethodName := ⟨RX6, "rankPlaces", "(Z)V"⟩
abbrev cX6_placedBy : ByteArray := prog_8_method_4_code
def yX6_placedBy : MethodName := ⟨RX6, "placedBy", "(LRankBook$Whole;Z)LRankBook$Whole;"⟩
abbrev cX6_wholeAt : ByteArray := prog_8_method_5_code
def yX6_wholeAt : MethodName := ⟨RX6, "wholeAt", "(I)LRankBook$Whole;"⟩
def RX7 : String := "RankBook$Sale"
def TX7 : u_T := fun k => match k with
  | 0 => ("RankBook$Sale", "ranking", "LRankBook$Ranking;", true)
  | _ => ("RankBook$Sale", "left", "J", false)
def tyX7 : Nat → FieldType := fun k => match k with
  | 0 => .object "RankBook$Ranking"
  | _ => .long
abbrev wsX70 : List Cond := u_ws RX7 TX7 2
theorem nmX7 : ∀ a, a < 2 → ∀ b, b < 2 → a ≠ b → (TX7 a).2.1 ≠ (TX7 b).2.1 := by decide +kernel
theorem tyX7_ok : ∀ k, k < 2 → parseFieldDescriptor (TX7 k).2.2.1 = some (tyX7 k) := by decide +kernel
abbrev cX7_init : ByteArray := prog_9_method_1_code
def yX7_init : MethodName := ⟨RX7, "<init>", "(LRankBook$Ranking;J)V"⟩
abbrev cX7_distribute : ByteArray := prog_9_method_2_code
def yX7_distribute : MethodName := ⟨RX7, "distribute", "()V"⟩
abbrev cX7_makeReady : ByteArray := prog_9_method_3_code
def yX7_makeReady : MethodName := ⟨RX7, "makeReady", "(LRankBook$Whole;)V"⟩
abbrev cX7_payPlaces : ByteArray := prog_9_method_4_code
def yX7_payPlaces : MethodName := ⟨RX7, "payPlaces", "(Z)V"⟩
abbrev cX7_giveWay : ByteArray := prog_9_method_5_code
def yX7_giveWay : MethodName := ⟨RX7, "giveWay", "(LRankBook$Post;)V"⟩
abbrev cX7_hasBelow : ByteArray := prog_9_method_6_code
def yX7_hasBelow : MethodName := ⟨RX7, "hasBelow", "(LRankBook$Entry;)J"⟩
abbrev cX7_give : ByteArray := prog_9_method_7_code
def yX7_give : MethodName := ⟨RX7, "give", "(LRankBook$Entry;J)V"⟩
abbrev cX7_get : ByteArray := prog_9_method_8_code
def yX7_get : MethodName := ⟨RX7, "get", "(LRankBook$Entry;J)J"⟩
abbrev cX7_tellShares : ByteArray := prog_9_method_9_code
def yX7_tellShares : MethodName := ⟨RX7, "tellShares", "(LRankBook$Whole;)V"⟩
abbrev cX7_carryOut : ByteArray := prog_9_method_10_code
def yX7_carryOut : MethodName := ⟨RX7, "carryOut", "()V"⟩
abbrev cX7_settleLeaves : ByteArray := prog_9_method_11_code
def yX7_settleLeaves : MethodName := ⟨RX7, "settleLeaves", "(LRankBook$Whole;LRankBook$Act;)V"⟩
def RX8 : String := "RankBook$Terms"
def TX8 : u_T := fun k => match k with
  | 0 => ("RankBook$Terms", "kind", "I", true)
  | 1 => ("RankBook$Terms", "rate", "I", true)
  | 2 => ("RankBook$Terms", "top", "J", true)
  | 3 => ("RankBook$Terms", "interestFrom", "I", false)
  | 4 => ("RankBook$Terms", "interestYears", "I", false)
  | 5 => ("RankBook$Terms", "claimed", "LRankBook$Act;", false)
  | 6 => ("RankBook$Terms", "aheadFrom", "I", false)
  | _ => ("RankBook$Terms", "touched", "Z", false)
def tyX8 : Nat → FieldType := fun k => match k with
  | 0 => .int
  | 1 => .int
  | 2 => .long
  | 3 => .int
  | 4 => .int
  | 5 => .object "RankBook$Act"
  | 6 => .int
  | _ => .boolean
abbrev wsX80 : List Cond := u_ws RX8 TX8 8
theorem nmX8 : ∀ a, a < 8 → ∀ b, b < 8 → a ≠ b → (TX8 a).2.1 ≠ (TX8 b).2.1 := by decide +kernel
theorem tyX8_ok : ∀ k, k < 8 → parseFieldDescriptor (TX8 k).2.2.1 = some (tyX8 k) := by decide +kernel
abbrev cX8_init : ByteArray := prog_10_method_1_code
def yX8_init : MethodName := ⟨RX8, "<init>", "(IIJI)V"⟩
abbrev cX8_isDivisible : ByteArray := prog_10_method_2_code
def yX8_isDivisible : MethodName := ⟨RX8, "isDivisible", "()Z"⟩
abbrev cX8_hasPaper : ByteArray := prog_10_method_3_code
def yX8_hasPaper : MethodName := ⟨RX8, "hasPaper", "()Z"⟩
abbrev cX8_claimAhead : ByteArray := prog_10_method_4_code
def yX8_claimAhead : MethodName := ⟨RX8, "claimAhead", "(IILRankBook$Act;)V"⟩
abbrev cX8_goesAhead : ByteArray := prog_10_method_5_code
def yX8_goesAhead : MethodName := ⟨RX8, "goesAhead", "(LRankBook$Moment;)Z"⟩
abbrev cX8_dueOf : ByteArray := prog_10_method_6_code
def yX8_dueOf : MethodName := ⟨RX8, "dueOf", "(JI)J"⟩
abbrev cX8_withInterest : ByteArray := prog_10_method_7_code
def yX8_withInterest : MethodName := ⟨RX8, "withInterest", "(JI)J"⟩
abbrev cX8_rentYears : ByteArray := prog_10_method_8_code
def yX8_rentYears : MethodName := ⟨RX8, "rentYears", "(I)I"⟩
def RX9 : String := "RankBook$Whole"
def TX9 : u_T := fun k => match k with
  | 0 => ("RankBook$Whole", "folio", "LRankBook$Folio;", true)
  | 1 => ("RankBook$Whole", "enteredFor", "J", true)
  | 2 => ("RankBook$Whole", "entered", "LRankBook$Act;", true)
  | 3 => ("RankBook$Whole", "terms", "LRankBook$Terms;", true)
  | 4 => ("RankBook$Whole", "struck", "LRankBook$Act;", false)
  | 5 => ("RankBook$Whole", "paperThere", "Z", false)
  | 6 => ("RankBook$Whole", "partner", "LRankBook$Whole;", false)
  | 7 => ("RankBook$Whole", "kept", "LRankBook$Act;", false)
  | 8 => ("RankBook$Whole", "root", "LRankBook$Entry;", false)
  | 9 => ("RankBook$Whole", "firstLeaf", "LRankBook$Entry;", false)
  | 10 => ("RankBook$Whole", "lastLeaf", "LRankBook$Entry;", false)
  | 11 => ("RankBook$Whole", "previous", "LRankBook$Whole;", false)
  | 12 => ("RankBook$Whole", "next", "LRankBook$Whole;", false)
  | 13 => ("RankBook$Whole", "liesThere", "Z", false)
  | 14 => ("RankBook$Whole", "rank", "I", false)
  | 15 => ("RankBook$Whole", "moves", "I", false)
  | _ => ("RankBook$Whole", "steps", "I", false)
def tyX9 : Nat → FieldType := fun k => match k with
  | 0 => .object "RankBook$Folio"
  | 1 => .long
  | 2 => .object "RankBook$Act"
  | 3 => .object "RankBook$Terms"
  | 4 => .object "RankBook$Act"
  | 5 => .boolean
  | 6 => .object "RankBook$Whole"
  | 7 => .object "RankBook$Act"
  | 8 => .object "RankBook$Entry"
  | 9 => .object "RankBook$Entry"
  | 10 => .object "RankBook$Entry"
  | 11 => .object "RankBook$Whole"
  | 12 => .object "RankBook$Whole"
  | 13 => .boolean
  | 14 => .int
  | 15 => .int
  | _ => .int
abbrev wsX90 : List Cond := u_ws RX9 TX9 17
theorem nmX9 : ∀ a, a < 17 → ∀ b, b < 17 → a ≠ b → (TX9 a).2.1 ≠ (TX9 b).2.1 := by decide +kernel
theorem tyX9_ok : ∀ k, k < 17 → parseFieldDescriptor (TX9 k).2.2.1 = some (tyX9 k) := by decide +kernel
abbrev cX9_init : ByteArray := prog_11_method_1_code
def yX9_init : MethodName := ⟨RX9, "<init>", "(LRankBook$Folio;JLRankBook$Act;LRankBook$Terms;)V"⟩
abbrev cX9_begin : ByteArray := prog_11_method_2_code
def yX9_begin : MethodName := ⟨RX9, "begin", "(LRankBook$Entry;)V"⟩
abbrev cX9_number : ByteArray := prog_11_method_3_code
def yX9_number : MethodName := ⟨RX9, "number", "()I"⟩
abbrev cX9_livesAt : ByteArray := prog_11_method_4_code
def yX9_livesAt : MethodName := ⟨RX9, "livesAt", "(LRankBook$Moment;)Z"⟩
abbrev cX9_replaceLeaf : ByteArray := prog_11_method_5_code
def yX9_replaceLeaf : MethodName := ⟨RX9, "replaceLeaf", "(LRankBook$Entry;LRankBook$Entry;LRankBook$Entry;)V"⟩
abbrev cX9_owedBelow : ByteArray := prog_11_method_6_code
def yX9_owedBelow : MethodName := ⟨RX9, "owedBelow", "(LRankBook$Entry;)J"⟩
abbrev cX9_spreadDue : ByteArray := prog_11_method_7_code
def yX9_spreadDue : MethodName := ⟨RX9, "spreadDue", "(I)V"⟩
abbrev cX9_leafDueBelow : ByteArray := prog_11_method_8_code
def yX9_leafDueBelow : MethodName := ⟨RX9, "leafDueBelow", "(LRankBook$Entry;)J"⟩
def RX10 : String := "RankBook"
def TX10 : u_T := fun k => match k with
  | 0 => ("RankBook", "folios", "[LRankBook$Folio;", true)
  | 1 => ("RankBook", "entries", "[LRankBook$Entry;", true)
  | 2 => ("RankBook", "latestCircle", "LRankBook$Circle;", true)
  | 3 => ("RankBook", "folioCount", "I", false)
  | 4 => ("RankBook", "entryCount", "I", false)
  | 5 => ("RankBook", "postCount", "I", false)
  | 6 => ("RankBook", "firstPost", "LRankBook$Post;", false)
  | 7 => ("RankBook", "lastPost", "LRankBook$Post;", false)
  | 8 => ("RankBook", "now", "LRankBook$Moment;", false)
  | 9 => ("RankBook", "actDay", "I", false)
  | 10 => ("RankBook", "chosenFolio", "I", false)
  | 11 => ("RankBook", "ownerHas", "J", false)
  | 12 => ("RankBook", "soldCount", "I", false)
  | _ => ("RankBook", "status", "I", false)
def tyX10 : Nat → FieldType := fun k => match k with
  | 0 => .array (.object "RankBook$Folio")
  | 1 => .array (.object "RankBook$Entry")
  | 2 => .object "RankBook$Circle"
  | 3 => .int
  | 4 => .int
  | 5 => .int
  | 6 => .object "RankBook$Post"
  | 7 => .object "RankBook$Post"
  | 8 => .object "RankBook$Moment"
  | 9 => .int
  | 10 => .int
  | 11 => .long
  | 12 => .int
  | _ => .int
abbrev wsX100 : List Cond := u_ws RX10 TX10 14
theorem nmX10 : ∀ a, a < 14 → ∀ b, b < 14 → a ≠ b → (TX10 a).2.1 ≠ (TX10 b).2.1 := by decide +kernel
theorem tyX10_ok : ∀ k, k < 14 → parseFieldDescriptor (TX10 k).2.2.1 = some (tyX10 k) := by decide +kernel
abbrev cX10_init : ByteArray := prog_1_method_1_code
def yX10_init : MethodName := ⟨RX10, "<init>", "()V"⟩
abbrev cX10_folio : ByteArray := prog_1_method_2_code
def yX10_folio : MethodName := ⟨RX10, "folio", "(I)I"⟩
abbrev cX10_folioFault : ByteArray := prog_1_method_3_code
def yX10_folioFault : MethodName := ⟨RX10, "folioFault", "(I)I"⟩
abbrev cX10_tear : ByteArray := prog_1_method_4_code
def yX10_tear : MethodName := ⟨RX10, "tear", "(II)Z"⟩
abbrev cX10_day : ByteArray := prog_1_method_5_code
def yX10_day : MethodName := ⟨RX10, "day", "(I)Z"⟩
abbrev cX10_dayFault : ByteArray := prog_1_method_6_code
def yX10_dayFault : MethodName := ⟨RX10, "dayFault", "(I)I"⟩
abbrev cX10_since : ByteArray := prog_1_method_7_code
def yX10_since : MethodName := ⟨RX10, "since", "(I)Z"⟩
abbrev cX10_enter : ByteArray := prog_1_method_8_code
def yX10_enter : MethodName := ⟨RX10, "enter", "(IIJIJ)I"⟩
abbrev cX10_enterFault : ByteArray := prog_1_method_9_code
def yX10_enterFault : MethodName := ⟨RX10, "enterFault", "(LRankBook$Folio;IJIJ)I"⟩
abbrev cX10_maxRate : ByteArray := prog_1_method_10_code
def yX10_maxRate : MethodName := ⟨RX10, "maxRate", "(I)I"⟩
abbrev cX10_claim : ByteArray := prog_1_method_11_code
def yX10_claim : MethodName := ⟨RX10, "claim", "(III)Z"⟩
abbrev cX10_claimFault : ByteArray := prog_1_method_12_code
def yX10_claimFault : MethodName := ⟨RX10, "claimFault", "(LRankBook$Entry;II)I"⟩
abbrev cX10_owe : ByteArray := prog_1_method_13_code
def yX10_owe : MethodName := ⟨RX10, "owe", "(IJ)Z"⟩
abbrev cX10_oweFault : ByteArray := prog_1_method_14_code
def yX10_oweFault : MethodName := ⟨RX10, "oweFault", "(LRankBook$Entry;J)I"⟩
abbrev cX10_pay : ByteArray := prog_1_method_15_code
def yX10_pay : MethodName := ⟨RX10, "pay", "(IJ)J"⟩
abbrev cX10_payFault : ByteArray := prog_1_method_16_code
def yX10_payFault : MethodName := ⟨RX10, "payFault", "(LRankBook$Entry;J)I"⟩
abbrev cX10_paper : ByteArray := prog_1_method_17_code
def yX10_paper : MethodName := ⟨RX10, "paper", "(IZ)Z"⟩
abbrev cX10_paperFault : ByteArray := prog_1_method_18_code
def yX10_paperFault : MethodName := ⟨RX10, "paperFault", "(LRankBook$Entry;)I"⟩
abbrev cX10_split : ByteArray := prog_1_method_19_code
def yX10_split : MethodName := ⟨RX10, "split", "(IJ)I"⟩
abbrev cX10_hand : ByteArray := prog_1_method_20_code
def yX10_hand : MethodName := ⟨RX10, "hand", "(IJI)I"⟩
abbrev cX10_divideFault : ByteArray := prog_1_method_21_code
def yX10_divideFault : MethodName := ⟨RX10, "divideFault", "(LRankBook$Entry;JZZ)I"⟩
abbrev cX10_divide : ByteArray := prog_1_method_22_code
def yX10_divide : MethodName := ⟨RX10, "divide", "(LRankBook$Entry;JI)I"⟩
abbrev cX10_post : ByteArray := prog_1_method_23_code
def yX10_post : MethodName := ⟨RX10, "post", "(IIJ)I"⟩
abbrev cX10_postFault : ByteArray := prog_1_method_24_code
def yX10_postFault : MethodName := ⟨RX10, "postFault", "(LRankBook$Entry;LRankBook$Entry;J)I"⟩
abbrev cX10_undo : ByteArray := prog_1_method_25_code
def yX10_undo : MethodName := ⟨RX10, "undo", "(I)Z"⟩
abbrev cX10_undoFault : ByteArray := prog_1_method_26_code
def yX10_undoFault : MethodName := ⟨RX10, "undoFault", "(LRankBook$Post;)I"⟩
abbrev cX10_release : ByteArray := prog_1_method_27_code
def yX10_release : MethodName := ⟨RX10, "release", "(II)Z"⟩
abbrev cX10_strike : ByteArray := prog_1_method_28_code
def yX10_strike : MethodName := ⟨RX10, "strike", "(I)Z"⟩
abbrev cX10_strikeFault : ByteArray := prog_1_method_29_code
def yX10_strikeFault : MethodName := ⟨RX10, "strikeFault", "(LRankBook$Entry;)I"⟩
abbrev cX10_keep : ByteArray := prog_1_method_30_code
def yX10_keep : MethodName := ⟨RX10, "keep", "(II)Z"⟩
abbrev cX10_keepFault : ByteArray := prog_1_method_31_code
def yX10_keepFault : MethodName := ⟨RX10, "keepFault", "(LRankBook$Entry;LRankBook$Entry;)I"⟩
abbrev cX10_many : ByteArray := prog_1_method_32_code
def yX10_many : MethodName := ⟨RX10, "many", "(II)I"⟩
abbrev cX10_list : ByteArray := prog_1_method_33_code
def yX10_list : MethodName := ⟨RX10, "list", "(III)I"⟩
abbrev cX10_rank : ByteArray := prog_1_method_34_code
def yX10_rank : MethodName := ⟨RX10, "rank", "(II)I"⟩
abbrev cX10_why : ByteArray := prog_1_method_35_code
def yX10_why : MethodName := ⟨RX10, "why", "(II)I"⟩
abbrev cX10_as : ByteArray := prog_1_method_36_code
def yX10_as : MethodName := ⟨RX10, "as", "(IIII)I"⟩
abbrev cX10_choose : ByteArray := prog_1_method_37_code
def yX10_choose : MethodName := ⟨RX10, "choose", "(I)Z"⟩
abbrev cX10_nth : ByteArray := prog_1_method_38_code
def yX10_nth : MethodName := ⟨RX10, "nth", "(LRankBook$Folio;ILRankBook$Moment;I)I"⟩
abbrev cX10_standing : ByteArray := prog_1_method_39_code
def yX10_standing : MethodName := ⟨RX10, "standing", "(LRankBook$Entry;I)LRankBook$Whole;"⟩
abbrev cX10_sale : ByteArray := prog_1_method_40_code
def yX10_sale : MethodName := ⟨RX10, "sale", "(IIJJ)J"⟩
abbrev cX10_sell : ByteArray := prog_1_method_41_code
def yX10_sell : MethodName := ⟨RX10, "sell", "(IIJJ)J"⟩
abbrev cX10_offer : ByteArray := prog_1_method_42_code
def yX10_offer : MethodName := ⟨RX10, "offer", "(LRankBook$Folio;IJJ)LRankBook$Sale;"⟩
abbrev cX10_saleFault : ByteArray := prog_1_method_43_code
def yX10_saleFault : MethodName := ⟨RX10, "saleFault", "(LRankBook$Folio;IJJ)I"⟩
abbrev cX10_share : ByteArray := prog_1_method_44_code
def yX10_share : MethodName := ⟨RX10, "share", "(I)J"⟩
abbrev cX10_tell : ByteArray := prog_1_method_45_code
def yX10_tell : MethodName := ⟨RX10, "tell", "(IJ)Z"⟩
abbrev cX10_check : ByteArray := prog_1_method_46_code
def yX10_check : MethodName := ⟨RX10, "check", "(J)I"⟩
abbrev cX10_circle : ByteArray := prog_1_method_47_code
def yX10_circle : MethodName := ⟨RX10, "circle", "(I)I"⟩
abbrev cX10_due : ByteArray := prog_1_method_48_code
def yX10_due : MethodName := ⟨RX10, "due", "(I)J"⟩
abbrev cX10_kind : ByteArray := prog_1_method_49_code
def yX10_kind : MethodName := ⟨RX10, "kind", "(II)I"⟩
abbrev cX10_sum : ByteArray := prog_1_method_50_code
def yX10_sum : MethodName := ⟨RX10, "sum", "(I)J"⟩
abbrev cX10_parcels : ByteArray := prog_1_method_51_code
def yX10_parcels : MethodName := ⟨RX10, "parcels", "(I)J"⟩
abbrev cX10_status : ByteArray := prog_1_method_52_code
def yX10_status : MethodName := ⟨RX10, "status", "()I"⟩
abbrev cX10_count : ByteArray := prog_1_method_53_code
def yX10_count : MethodName := ⟨RX10, "count", "(I)I"⟩
abbrev cX10_settle : ByteArray := prog_1_method_54_code
def yX10_settle : MethodName := ⟨RX10, "settle", "(I)Z"⟩
abbrev cX10_newAct : ByteArray := prog_1_method_55_code
def yX10_newAct : MethodName := ⟨RX10, "newAct", "()LRankBook$Act;"⟩
abbrev cX10_isPastOrToday : ByteArray := prog_1_method_56_code
def yX10_isPastOrToday : MethodName := ⟨RX10, "isPastOrToday", "(I)Z"⟩
abbrev cX10_isSum : ByteArray := prog_1_method_57_code
def yX10_isSum : MethodName := ⟨RX10, "isSum", "(J)Z"⟩
abbrev cX10_liveInOneFolio : ByteArray := prog_1_method_58_code
def yX10_liveInOneFolio : MethodName := ⟨RX10, "liveInOneFolio", "(LRankBook$Whole;LRankBook$Whole;)Z"⟩
abbrev cX10_parcelFault : ByteArray := prog_1_method_59_code
def yX10_parcelFault : MethodName := ⟨RX10, "parcelFault", "(LRankBook$Folio;I)I"⟩
abbrev cX10_lieFault : ByteArray := prog_1_method_60_code
def yX10_lieFault : MethodName := ⟨RX10, "lieFault", "(LRankBook$Entry;I)I"⟩
abbrev cX10_folioAt : ByteArray := prog_1_method_61_code
def yX10_folioAt : MethodName := ⟨RX10, "folioAt", "(I)LRankBook$Folio;"⟩
abbrev cX10_entryAt : ByteArray := prog_1_method_62_code
def yX10_entryAt : MethodName := ⟨RX10, "entryAt", "(I)LRankBook$Entry;"⟩
abbrev cX10_postAt : ByteArray := prog_1_method_63_code
def yX10_postAt : MethodName := ⟨RX10, "postAt", "(I)LRankBook$Post;"⟩
abbrev cX10_addEntry : ByteArray := prog_1_method_64_code
def yX10_addEntry : MethodName := ⟨RX10, "addEntry", "(LRankBook$Entry;)I"⟩
def RX11 : String := "RankBookModel"
def TX11 : u_T := fun k => match k with
  | 0 => ("RankBookModel", "size", "[I", true)
  | 1 => ("RankBookModel", "torn", "[Z", true)
  | 2 => ("RankBookModel", "folios", "I", false)
  | 3 => ("RankBookModel", "kindOf", "[I", true)
  | 4 => ("RankBookModel", "folioOf", "[I", true)
  | 5 => ("RankBookModel", "wholeOf", "[I", true)
  | 6 => ("RankBookModel", "parent", "[I", true)
  | 7 => ("RankBookModel", "ownerOf", "[I", true)
  | 8 => ("RankBookModel", "sumOf", "[J", true)
  | 9 => ("RankBookModel", "first", "[I", true)
  | 10 => ("RankBookModel", "bits", "[J", true)
  | 11 => ("RankBookModel", "rate", "[I", true)
  | 12 => ("RankBookModel", "top", "[J", true)
  | 13 => ("RankBookModel", "dated", "[I", true)
  | 14 => ("RankBookModel", "known", "[I", true)
  | 15 => ("RankBookModel", "struckDated", "[I", true)
  | 16 => ("RankBookModel", "struckKnown", "[I", true)
  | 17 => ("RankBookModel", "runs", "[I", true)
  | 18 => ("RankBookModel", "touched", "[Z", true)
  | 19 => ("RankBookModel", "noPaper", "[Z", true)
  | 20 => ("RankBookModel", "from", "[I", true)
  | 21 => ("RankBookModel", "years", "[I", true)
  | 22 => ("RankBookModel", "claimDated", "[I", true)
  | 23 => ("RankBookModel", "claimKnown", "[I", true)
  | 24 => ("RankBookModel", "keeps", "[I", true)
  | 25 => ("RankBookModel", "keptBy", "[I", true)
  | 26 => ("RankBookModel", "keptDated", "[I", true)
  | 27 => ("RankBookModel", "keptKnown", "[I", true)
  | 28 => ("RankBookModel", "offDated", "[I", true)
  | 29 => ("RankBookModel", "offKnown", "[I", true)
  | 30 => ("RankBookModel", "entries", "I", false)
  | 31 => ("RankBookModel", "postA", "[I", true)
  | 32 => ("RankBookModel", "postB", "[I", true)
  | 33 => ("RankBookModel", "limit", "[J", true)
  | 34 => ("RankBookModel", "postDated", "[I", true)
  | 35 => ("RankBookModel", "postKnown", "[I", true)
  | 36 => ("RankBookModel", "undoneDated", "[I", true)
  | 37 => ("RankBookModel", "undoneKnown", "[I", true)
  | 38 => ("RankBookModel", "posts", "I", false)
  | 39 => ("RankBookModel", "today", "I", false)
  | 40 => ("RankBookModel", "told", "I", false)
  | 41 => ("RankBookModel", "status", "I", false)
  | 42 => ("RankBookModel", "chosen", "I", false)
  | 43 => ("RankBookModel", "sold", "I", false)
  | 44 => ("RankBookModel", "circles", "I", false)
  | 45 => ("RankBookModel", "day", "I", false)
  | 46 => ("RankBookModel", "as", "I", false)
  | 47 => ("RankBookModel", "leaf", "[I", true)
  | 48 => ("RankBookModel", "leaves", "I", false)
  | 49 => ("RankBookModel", "dueOf", "[J", true)
  | 50 => ("RankBookModel", "far", "[I", true)
  | 51 => ("RankBookModel", "ring", "[I", true)
  | 52 => ("RankBookModel", "ringMany", "I", false)
  | 53 => ("RankBookModel", "placeOf", "[I", true)
  | 54 => ("RankBookModel", "byCaution", "[Z", true)
  | 55 => ("RankBookModel", "order", "[I", true)
  | 56 => ("RankBookModel", "swaps", "[I", true)
  | 57 => ("RankBookModel", "places", "I", false)
  | 58 => ("RankBookModel", "stands", "I", false)
  | 59 => ("RankBookModel", "got", "[J", true)
  | 60 => ("RankBookModel", "dues", "[J", true)
  | 61 => ("RankBookModel", "counted", "[Z", true)
  | 62 => ("RankBookModel", "shares", "[J", true)
  | 63 => ("RankBookModel", "toldShares", "[J", true)
  | _ => ("RankBookModel", "owner", "J", false)
def tyX11 : Nat → FieldType := fun k => match k with
  | 0 => .array .int
  | 1 => .array .boolean
  | 2 => .int
  | 3 => .array .int
  | 4 => .array .int
  | 5 => .array .int
  | 6 => .array .int
  | 7 => .array .int
  | 8 => .array .long
  | 9 => .array .int
  | 10 => .array .long
  | 11 => .array .int
  | 12 => .array .long
  | 13 => .array .int
  | 14 => .array .int
  | 15 => .array .int
  | 16 => .array .int
  | 17 => .array .int
  | 18 => .array .boolean
  | 19 => .array .boolean
  | 20 => .array .int
  | 21 => .array .int
  | 22 => .array .int
  | 23 => .array .int
  | 24 => .array .int
  | 25 => .array .int
  | 26 => .array .int
  | 27 => .array .int
  | 28 => .array .int
  | 29 => .array .int
  | 30 => .int
  | 31 => .array .int
  | 32 => .array .int
  | 33 => .array .long
  | 34 => .array .int
  | 35 => .array .int
  | 36 => .array .int
  | 37 => .array .int
  | 38 => .int
  | 39 => .int
  | 40 => .int
  | 41 => .int
  | 42 => .int
  | 43 => .int
  | 44 => .int
  | 45 => .int
  | 46 => .int
  | 47 => .array .int
  | 48 => .int
  | 49 => .array .long
  | 50 => .array .int
  | 51 => .array .int
  | 52 => .int
  | 53 => .array .int
  | 54 => .array .boolean
  | 55 => .array .int
  | 56 => .array .int
  | 57 => .int
  | 58 => .int
  | 59 => .array .long
  | 60 => .array .long
  | 61 => .array .boolean
  | 62 => .array .long
  | 63 => .array .long
  | _ => .long
abbrev wsX110 : List Cond := u_ws RX11 TX11 65
theorem nmX11 : ∀ a, a < 65 → ∀ b, b < 65 → a ≠ b → (TX11 a).2.1 ≠ (TX11 b).2.1 := by decide +kernel
theorem tyX11_ok : ∀ k, k < 65 → parseFieldDescriptor (TX11 k).2.2.1 = some (tyX11 k) := by decide +kernel
abbrev cX11_init : ByteArray := prog_13_method_1_code
def yX11_init : MethodName := ⟨RX11, "<init>", "()V"⟩
abbrev cX11_refuse : ByteArray := prog_13_method_2_code
def yX11_refuse : MethodName := ⟨RX11, "refuse", "(I)I"⟩
abbrev cX11_no : ByteArray := prog_13_method_3_code
def yX11_no : MethodName := ⟨RX11, "no", "(I)Z"⟩
abbrev cX11_dateNow : ByteArray := prog_13_method_4_code
def yX11_dateNow : MethodName := ⟨RX11, "dateNow", "()I"⟩
abbrev cX11_isEntry : ByteArray := prog_13_method_5_code
def yX11_isEntry : MethodName := ⟨RX11, "isEntry", "(I)Z"⟩
abbrev cX11_wrong : ByteArray := prog_13_method_6_code
def yX11_wrong : MethodName := ⟨RX11, "wrong", "(II)I"⟩
abbrev cX11_view : ByteArray := prog_13_method_7_code
def yX11_view : MethodName := ⟨RX11, "view", "(II)V"⟩
abbrev cX11_now : ByteArray := prog_13_method_8_code
def yX11_now : MethodName := ⟨RX11, "now", "()V"⟩
abbrev cX11_counts : ByteArray := prog_13_method_9_code
def yX11_counts : MethodName := ⟨RX11, "counts", "(II)Z"⟩
abbrev cX11_lives : ByteArray := prog_13_method_10_code
def yX11_lives : MethodName := ⟨RX11, "lives", "(I)Z"⟩
abbrev cX11_isOff : ByteArray := prog_13_method_11_code
def yX11_isOff : MethodName := ⟨RX11, "isOff", "(II)Z"⟩
abbrev cX11_hasLeafOn : ByteArray := prog_13_method_12_code
def yX11_hasLeafOn : MethodName := ⟨RX11, "hasLeafOn", "(II)Z"⟩
abbrev cX11_lies : ByteArray := prog_13_method_13_code
def yX11_lies : MethodName := ⟨RX11, "lies", "(II)Z"⟩
abbrev cX11_gather : ByteArray := prog_13_method_14_code
def yX11_gather : MethodName := ⟨RX11, "gather", "(I)V"⟩
abbrev cX11_leavesOf : ByteArray := prog_13_method_15_code
def yX11_leavesOf : MethodName := ⟨RX11, "leavesOf", "(I)V"⟩
abbrev cX11_sumBelow : ByteArray := prog_13_method_16_code
def yX11_sumBelow : MethodName := ⟨RX11, "sumBelow", "(I)J"⟩
abbrev cX11_dueOfSum : ByteArray := prog_13_method_17_code
def yX11_dueOfSum : MethodName := ⟨RX11, "dueOfSum", "(IJ)J"⟩
abbrev cX11_dues : ByteArray := prog_13_method_18_code
def yX11_dues : MethodName := ⟨RX11, "dues", "(I)V"⟩
abbrev cX11_due : ByteArray := prog_13_method_19_code
def yX11_due : MethodName := ⟨RX11, "due", "(I)J"⟩
abbrev cX11_folio : ByteArray := prog_13_method_20_code
def yX11_folio : MethodName := ⟨RX11, "folio", "(I)I"⟩
abbrev cX11_tear : ByteArray := prog_13_method_21_code
def yX11_tear : MethodName := ⟨RX11, "tear", "(II)Z"⟩
abbrev cX11_day : ByteArray := prog_13_method_22_code
def yX11_day : MethodName := ⟨RX11, "day", "(I)Z"⟩
abbrev cX11_since : ByteArray := prog_13_method_23_code
def yX11_since : MethodName := ⟨RX11, "since", "(I)Z"⟩
abbrev cX11_make : ByteArray := prog_13_method_24_code
def yX11_make : MethodName := ⟨RX11, "make", "(IIIIIJ)I"⟩
abbrev cX11_wrongBits : ByteArray := prog_13_method_25_code
def yX11_wrongBits : MethodName := ⟨RX11, "wrongBits", "(IJ)I"⟩
abbrev cX11_enter : ByteArray := prog_13_method_26_code
def yX11_enter : MethodName := ⟨RX11, "enter", "(IIJIJ)I"⟩
abbrev cX11_claim : ByteArray := prog_13_method_27_code
def yX11_claim : MethodName := ⟨RX11, "claim", "(III)Z"⟩
abbrev cX11_livesNow : ByteArray := prog_13_method_28_code
def yX11_livesNow : MethodName := ⟨RX11, "livesNow", "(I)Z"⟩
abbrev cX11_owe : ByteArray := prog_13_method_29_code
def yX11_owe : MethodName := ⟨RX11, "owe", "(IJ)Z"⟩
abbrev cX11_pay : ByteArray := prog_13_method_30_code
def yX11_pay : MethodName := ⟨RX11, "pay", "(IJ)J"⟩
abbrev cX11_paper : ByteArray := prog_13_method_31_code
def yX11_paper : MethodName := ⟨RX11, "paper", "(IZ)Z"⟩
abbrev cX11_parting : ByteArray := prog_13_method_32_code
def yX11_parting : MethodName := ⟨RX11, "parting", "(IJIZ)I"⟩
abbrev cX11_part : ByteArray := prog_13_method_33_code
def yX11_part : MethodName := ⟨RX11, "part", "(IJI)I"⟩
abbrev cX11_split : ByteArray := prog_13_method_34_code
def yX11_split : MethodName := ⟨RX11, "split", "(IJ)I"⟩
abbrev cX11_hand : ByteArray := prog_13_method_35_code
def yX11_hand : MethodName := ⟨RX11, "hand", "(IJI)I"⟩
abbrev cX11_isUndone : ByteArray := prog_13_method_36_code
def yX11_isUndone : MethodName := ⟨RX11, "isUndone", "(I)Z"⟩
abbrev cX11_measure : ByteArray := prog_13_method_37_code
def yX11_measure : MethodName := ⟨RX11, "measure", "(I)V"⟩
abbrev cX11_draw : ByteArray := prog_13_method_38_code
def yX11_draw : MethodName := ⟨RX11, "draw", "(II)V"⟩
abbrev cX11_post : ByteArray := prog_13_method_39_code
def yX11_post : MethodName := ⟨RX11, "post", "(IIJ)I"⟩
abbrev cX11_circle : ByteArray := prog_13_method_40_code
def yX11_circle : MethodName := ⟨RX11, "circle", "(I)I"⟩
abbrev cX11_undo : ByteArray := prog_13_method_41_code
def yX11_undo : MethodName := ⟨RX11, "undo", "(I)Z"⟩
abbrev cX11_release : ByteArray := prog_13_method_42_code
def yX11_release : MethodName := ⟨RX11, "release", "(II)Z"⟩
abbrev cX11_strike : ByteArray := prog_13_method_43_code
def yX11_strike : MethodName := ⟨RX11, "strike", "(I)Z"⟩
abbrev cX11_keep : ByteArray := prog_13_method_44_code
def yX11_keep : MethodName := ⟨RX11, "keep", "(II)Z"⟩
abbrev cX11_isFirst : ByteArray := prog_13_method_45_code
def yX11_isFirst : MethodName := ⟨RX11, "isFirst", "(I)Z"⟩
abbrev cX11_whose : ByteArray := prog_13_method_46_code
def yX11_whose : MethodName := ⟨RX11, "whose", "(I)I"⟩
abbrev cX11_isAhead : ByteArray := prog_13_method_47_code
def yX11_isAhead : MethodName := ⟨RX11, "isAhead", "(IIZ)Z"⟩
abbrev cX11_stand : ByteArray := prog_13_method_48_code
def yX11_stand : MethodName := ⟨RX11, "stand", "(IZ)V"⟩
abbrev cX11_placesOn : ByteArray := prog_13_method_49_code
def yX11_placesOn : MethodName := ⟨RX11, "placesOn", "(II)V"⟩
abbrev cX11_isPosted : ByteArray := prog_13_method_50_code
def yX11_isPosted : MethodName := ⟨RX11, "isPosted", "(II)Z"⟩
abbrev cX11_standsAt : ByteArray := prog_13_method_51_code
def yX11_standsAt : MethodName := ⟨RX11, "standsAt", "(I)I"⟩
abbrev cX11_orderOn : ByteArray := prog_13_method_52_code
def yX11_orderOn : MethodName := ⟨RX11, "orderOn", "(II)V"⟩
abbrev cX11_many : ByteArray := prog_13_method_53_code
def yX11_many : MethodName := ⟨RX11, "many", "(II)I"⟩
abbrev cX11_list : ByteArray := prog_13_method_54_code
def yX11_list : MethodName := ⟨RX11, "list", "(III)I"⟩
abbrev cX11_isRanked : ByteArray := prog_13_method_55_code
def yX11_isRanked : MethodName := ⟨RX11, "isRanked", "(II)Z"⟩
abbrev cX11_rank : ByteArray := prog_13_method_56_code
def yX11_rank : MethodName := ⟨RX11, "rank", "(II)I"⟩
abbrev cX11_why : ByteArray := prog_13_method_57_code
def yX11_why : MethodName := ⟨RX11, "why", "(II)I"⟩
abbrev cX11_as : ByteArray := prog_13_method_58_code
def yX11_as : MethodName := ⟨RX11, "as", "(IIII)I"⟩
abbrev cX11_choose : ByteArray := prog_13_method_59_code
def yX11_choose : MethodName := ⟨RX11, "choose", "(I)Z"⟩
abbrev cX11_dueIn : ByteArray := prog_13_method_60_code
def yX11_dueIn : MethodName := ⟨RX11, "dueIn", "(I)J"⟩
abbrev cX11_gotBy : ByteArray := prog_13_method_61_code
def yX11_gotBy : MethodName := ⟨RX11, "gotBy", "(I)J"⟩
abbrev cX11_gets : ByteArray := prog_13_method_62_code
def yX11_gets : MethodName := ⟨RX11, "gets", "(IJ)V"⟩
abbrev cX11_gives : ByteArray := prog_13_method_63_code
def yX11_gives : MethodName := ⟨RX11, "gives", "(IJ)V"⟩
abbrev cX11_prepare : ByteArray := prog_13_method_64_code
def yX11_prepare : MethodName := ⟨RX11, "prepare", "(I)V"⟩
abbrev cX11_give : ByteArray := prog_13_method_65_code
def yX11_give : MethodName := ⟨RX11, "give", "(IIJJ)J"⟩
abbrev cX11_wrongSale : ByteArray := prog_13_method_66_code
def yX11_wrongSale : MethodName := ⟨RX11, "wrongSale", "(IIJJ)I"⟩
abbrev cX11_sale : ByteArray := prog_13_method_67_code
def yX11_sale : MethodName := ⟨RX11, "sale", "(IIJJ)J"⟩
abbrev cX11_sell : ByteArray := prog_13_method_68_code
def yX11_sell : MethodName := ⟨RX11, "sell", "(IIJJ)J"⟩
abbrev cX11_share : ByteArray := prog_13_method_69_code
def yX11_share : MethodName := ⟨RX11, "share", "(I)J"⟩
abbrev cX11_tell : ByteArray := prog_13_method_70_code
def yX11_tell : MethodName := ⟨RX11, "tell", "(IJ)Z"⟩
abbrev cX11_check : ByteArray := prog_13_method_71_code
def yX11_check : MethodName := ⟨RX11, "check", "(J)I"⟩
abbrev cX11_kind : ByteArray := prog_13_method_72_code
def yX11_kind : MethodName := ⟨RX11, "kind", "(II)I"⟩
abbrev cX11_sum : ByteArray := prog_13_method_73_code
def yX11_sum : MethodName := ⟨RX11, "sum", "(I)J"⟩
abbrev cX11_parcels : ByteArray := prog_13_method_74_code
def yX11_parcels : MethodName := ⟨RX11, "parcels", "(I)J"⟩
abbrev cX11_status : ByteArray := prog_13_method_75_code
def yX11_status : MethodName := ⟨RX11, "status", "()I"⟩
abbrev cX11_count : ByteArray := prog_13_method_76_code
def yX11_count : MethodName := ⟨RX11, "count", "(I)I"⟩
def RJ9 : String := "java/lang/Math"
def TJ9 : u_T := fun k => match k with
  | _ => ("", "", "", false)
def tyJ9 : Nat → FieldType := fun k => match k with
  | _ => .int
abbrev wsJ90 : List Cond := u_ws RJ9 TJ9 0
theorem nmJ9 : ∀ a, a < 0 → ∀ b, b < 0 → a ≠ b → (TJ9 a).2.1 ≠ (TJ9 b).2.1 := by decide +kernel
theorem tyJ9_ok : ∀ k, k < 0 → parseFieldDescriptor (TJ9 k).2.2.1 = some (tyJ9 k) := by decide +kernel
abbrev cJ9_max_7cf53 : ByteArray := prog_14_method_65_code
def yJ9_max_7cf53 : MethodName := ⟨RJ9, "max", "(II)I"⟩
abbrev cJ9_min_7cf53 : ByteArray := prog_14_method_69_code
def yJ9_min_7cf53 : MethodName := ⟨RJ9, "min", "(II)I"⟩
abbrev cJ9_min_f86c9 : ByteArray := prog_14_method_70_code
def yJ9_min_f86c9 : MethodName := ⟨RJ9, "min", "(JJ)J"⟩
def RL : String := "RankBookLaw"
abbrev cL_law : ByteArray := code
def yL_law : MethodName := ⟨RL, "law", "([I)Z"⟩
end
section
/-! ===== the world by maps, and its tie to the kit's pools ===== -/
abbrev cls : List vw_C := [(RX0, TX0, 2), (RX1, TX1, 3), (RX2, TX2, 13), (RX3, TX3, 5), (RX4, TX4, 2), (RX5, TX5, 7), (RX6, TX6, 5), (RX7, TX7, 2), (RX8, TX8, 8), (RX9, TX9, 17), (RX10, TX10, 14), (RX11, TX11, 65)]
def cR (ci : Nat) : String := match ci with
  | 0 => RX0 | 1 => RX1 | 2 => RX2 | 3 => RX3 | 4 => RX4 | 5 => RX5 | 6 => RX6 | 7 => RX7 | 8 => RX8 | 9 => RX9 | 10 => RX10 | _ => RX11
def cT (ci : Nat) : u_T := match ci with
  | 0 => TX0 | 1 => TX1 | 2 => TX2 | 3 => TX3 | 4 => TX4 | 5 => TX5 | 6 => TX6 | 7 => TX7 | 8 => TX8 | 9 => TX9 | 10 => TX10 | _ => TX11
def cY (ci : Nat) : Nat → FieldType := match ci with
  | 0 => tyX0 | 1 => tyX1 | 2 => tyX2 | 3 => tyX3 | 4 => tyX4 | 5 => tyX5 | 6 => tyX6 | 7 => tyX7 | 8 => tyX8 | 9 => tyX9 | 10 => tyX10 | _ => tyX11
def cN (ci : Nat) : Nat := match ci with
  | 0 => 2 | 1 => 3 | 2 => 13 | 3 => 5 | 4 => 2 | 5 => 7 | 6 => 5 | 7 => 2 | 8 => 8 | 9 => 17 | 10 => 14 | _ => 65
theorem cls_get : ∀ ci, ci < 12 → cls[ci]? = some (cR ci, cT ci, cN ci) := by
  intro ci h
  match ci, h with
  | 0, _ => rfl | 1, _ => rfl | 2, _ => rfl | 3, _ => rfl | 4, _ => rfl | 5, _ => rfl | 6, _ => rfl | 7, _ => rfl | 8, _ => rfl | 9, _ => rfl | 10, _ => rfl | 11, _ => rfl
  | n + 12, h => omega
theorem cls_nm : ∀ ci, ci < 12 → ∀ a, a < cN ci → ∀ b, b < cN ci → a ≠ b → (cT ci a).2.1 ≠ (cT ci b).2.1 := by
  intro ci h
  match ci, h with
  | 0, _ => exact nmX0 | 1, _ => exact nmX1 | 2, _ => exact nmX2 | 3, _ => exact nmX3 | 4, _ => exact nmX4 | 5, _ => exact nmX5 | 6, _ => exact nmX6 | 7, _ => exact nmX7 | 8, _ => exact nmX8 | 9, _ => exact nmX9 | 10, _ => exact nmX10 | 11, _ => exact nmX11
  | n + 12, h => omega
theorem cls_ty : ∀ ci, ci < 12 → ∀ k, k < cN ci → parseFieldDescriptor (cT ci k).2.2.1 = some (cY ci k) := by
  intro ci h
  match ci, h with
  | 0, _ => exact tyX0_ok | 1, _ => exact tyX1_ok | 2, _ => exact tyX2_ok | 3, _ => exact tyX3_ok | 4, _ => exact tyX4_ok | 5, _ => exact tyX5_ok | 6, _ => exact tyX6_ok | 7, _ => exact tyX7_ok | 8, _ => exact tyX8_ok | 9, _ => exact tyX9_ok | 10, _ => exact tyX10_ok | 11, _ => exact tyX11_ok
  | n + 12, h => omega
set_option maxRecDepth 100000 in
theorem cls_in0 : ∀ ci, ci < 12 → ∀ w ∈ u_ws (cR ci) (cT ci) (cN ci), w ∈ lw_tbl := by
  intro ci h
  match ci, h with
  | 0, _ => decide +kernel
  | 1, _ => decide +kernel
  | 2, _ => decide +kernel
  | 3, _ => decide +kernel
  | 4, _ => decide +kernel
  | 5, _ => decide +kernel
  | 6, _ => decide +kernel
  | 7, _ => decide +kernel
  | 8, _ => decide +kernel
  | 9, _ => decide +kernel
  | 10, _ => decide +kernel
  | 11, _ => decide +kernel
  | n + 12, h => omega
/-- the words that pass on to a callee as they are -/
def tb : List Cond := lw_tbl.filter goodWord
theorem tb_of {w : Cond} (h : w ∈ lw_tbl) (hg : goodWord w = true) : w ∈ tb := List.mem_filter.mpr ⟨h, hg⟩
theorem tb_at {w : Cond} (i : Nat) (h : tables_1[i]? = some w) (hg : goodWord w = true) : w ∈ tb := tb_of (List.mem_append_right _ (List.mem_of_getElem? h)) hg
theorem tb_sel {w : Cond} (i : Nat) (h : (k2_sels lw_privs)[i]? = some w) (hg : goodWord w = true) : w ∈ tb := tb_of (List.mem_append_left _ (List.mem_of_getElem? h)) hg
theorem cls_inG : ∀ ci, ci < 12 → (u_ws (cR ci) (cT ci) (cN ci)).all goodWord = true := by
  intro ci h
  match ci, h with
  | 0, _ => decide +kernel
  | 1, _ => decide +kernel
  | 2, _ => decide +kernel
  | 3, _ => decide +kernel
  | 4, _ => decide +kernel
  | 5, _ => decide +kernel
  | 6, _ => decide +kernel
  | 7, _ => decide +kernel
  | 8, _ => decide +kernel
  | 9, _ => decide +kernel
  | 10, _ => decide +kernel
  | 11, _ => decide +kernel
  | n + 12, h => omega
theorem cls_in : ∀ ci, ci < 12 → ∀ w ∈ u_ws (cR ci) (cT ci) (cN ci), w ∈ tb := fun ci h w hw => tb_of (cls_in0 ci h w hw) (List.all_eq_true.mp (cls_inG ci h) w hw)
theorem cls_inst0 : ∀ ci, ci < 12 → Cond.instantiable (cR ci) (cN ci) ∈ lw_tbl ∧ Cond.initialized (cR ci) ∈ lw_tbl := by
  intro ci h
  match ci, h with
  | 0, _ => decide +kernel
  | 1, _ => decide +kernel
  | 2, _ => decide +kernel
  | 3, _ => decide +kernel
  | 4, _ => decide +kernel
  | 5, _ => decide +kernel
  | 6, _ => decide +kernel
  | 7, _ => decide +kernel
  | 8, _ => decide +kernel
  | 9, _ => decide +kernel
  | 10, _ => decide +kernel
  | 11, _ => decide +kernel
  | n + 12, h => omega
theorem cls_inst (ci : Nat) (h : ci < 12) : Cond.instantiable (cR ci) (cN ci) ∈ tb ∧ Cond.initialized (cR ci) ∈ tb := ⟨tb_of (cls_inst0 ci h).1 rfl, tb_of (cls_inst0 ci h).2 rfl⟩
/-- values: an int, a long, a reference (0 is null) -/
abbrev Av : Type := Int32 ⊕ Int64 ⊕ Nat
abbrev vI (x : Int32) : Av := .inl x
abbrev vJ (x : Int64) : Av := .inr (.inl x)
abbrev vR (a : Nat) : Av := .inr (.inr a)
def nz (a : Nat) : Option Nat := if a = 0 then none else some a
def rn (a : Nat) : Value := va_rf (nz a)
def tv (v : Av) : Value := match v with
  | .inl x => .int x
  | .inr (.inl x) => .long x
  | .inr (.inr a) => rn a
theorem nz_0 : nz 0 = none := rfl
theorem nz_ne {a : Nat} (h : a ≠ 0) : nz a = some a := by simp [nz, h]
theorem rn_0 : rn 0 = .null := rfl
theorem rn_ne {a : Nat} (h : a ≠ 0) : rn a = .ref a := by simp [rn, nz, h, va_rf]
theorem nz_inj {a b : Nat} : nz a = nz b ↔ a = b := by
  unfold nz
  by_cases h1 : a = 0 <;> by_cases h2 : b = 0 <;> simp [h1, h2] <;> omega
def cat (v : Av) : Nat := match v with
  | .inl _ => 1
  | .inr (.inl _) => 2
  | .inr (.inr _) => 1
def isJ (v : Av) : Bool := match v with
  | .inl _ => false
  | .inr (.inl _) => true
  | .inr (.inr _) => false
theorem rn_cat (a : Nat) : (rn a).category = 1 := by
  by_cases h : a = 0
  · subst h; rfl
  · rw [rn_ne h]; rfl
theorem cat_tv (v : Av) : (tv v).category = cat v := by
  rcases v with x | x | a
  · rfl
  · rfl
  · exact rn_cat a
theorem cat_J (v : Av) : cat v = if isJ v then 2 else 1 := by rcases v with x | x | a <;> rfl
/-- the world: kinds of the addresses (0: none; c+1: an object of class c; 13 int[], 14 long[], 15 boolean[], 16 Act[], 17 Entry[], 18 Folio[]), fields of ints, longs, references, lengths, contents of ints, longs, references -/
abbrev Wd : Type := (Nat → Nat) × (Nat → Nat → Nat → Int32) × (Nat → Nat → Nat → Int64) × (Nat → Nat → Nat → Nat) × (Nat → Nat) × (Nat → Nat → Int32) × (Nat → Nat → Int64) × (Nat → Nat → Nat)
def wK (w : Wd) : Nat → Nat := w.1
def wI (w : Wd) : Nat → Nat → Nat → Int32 := w.2.1
def wJ (w : Wd) : Nat → Nat → Nat → Int64 := w.2.2.1
def wR (w : Wd) : Nat → Nat → Nat → Nat := w.2.2.2.1
def wL (w : Wd) : Nat → Nat := w.2.2.2.2.1
def xI (w : Wd) : Nat → Nat → Int32 := w.2.2.2.2.2.1
def xJ (w : Wd) : Nat → Nat → Int64 := w.2.2.2.2.2.2.1
def xR (w : Wd) : Nat → Nat → Nat := w.2.2.2.2.2.2.2
def u3 {α : Type} (f : Nat → Nat → Nat → α) (c k a : Nat) (v : α) : Nat → Nat → Nat → α := fun c' k' a' => if c' = c ∧ k' = k ∧ a' = a then v else f c' k' a'
def u2 {α : Type} (f : Nat → Nat → α) (a i : Nat) (v : α) : Nat → Nat → α := fun a' i' => if a' = a ∧ i' = i then v else f a' i'
def z3 {α : Type} (f : Nat → Nat → Nat → α) (q : Nat) (v : α) : Nat → Nat → Nat → α := fun c' k' a' => if a' = q then v else f c' k' a'
def z2 {α : Type} (f : Nat → Nat → α) (q : Nat) (v : α) : Nat → Nat → α := fun a' i' => if a' = q then v else f a' i'
def sI (w : Wd) (c k a : Nat) (v : Int32) : Wd := (w.1, u3 w.2.1 c k a v, w.2.2)
def sJ (w : Wd) (c k a : Nat) (v : Int64) : Wd := (w.1, w.2.1, u3 w.2.2.1 c k a v, w.2.2.2)
def sR (w : Wd) (c k a : Nat) (v : Nat) : Wd := (w.1, w.2.1, w.2.2.1, u3 w.2.2.2.1 c k a v, w.2.2.2.2)
def yI (w : Wd) (a i : Nat) (v : Int32) : Wd := (w.1, w.2.1, w.2.2.1, w.2.2.2.1, w.2.2.2.2.1, u2 w.2.2.2.2.2.1 a i v, w.2.2.2.2.2.2)
def yJ (w : Wd) (a i : Nat) (v : Int64) : Wd := (w.1, w.2.1, w.2.2.1, w.2.2.2.1, w.2.2.2.2.1, w.2.2.2.2.2.1, u2 w.2.2.2.2.2.2.1 a i v, w.2.2.2.2.2.2.2)
def yR (w : Wd) (a i : Nat) (v : Nat) : Wd := (w.1, w.2.1, w.2.2.1, w.2.2.2.1, w.2.2.2.2.1, w.2.2.2.2.2.1, w.2.2.2.2.2.2.1, u2 w.2.2.2.2.2.2.2 a i v)
def nO (w : Wd) (ci q : Nat) : Wd := (va_up w.1 q (ci + 1), z3 w.2.1 q 0, z3 w.2.2.1 q 0, z3 w.2.2.2.1 q 0, w.2.2.2.2)
def nA (w : Wd) (t q n : Nat) : Wd := (va_up w.1 q t, w.2.1, w.2.2.1, w.2.2.2.1, va_up w.2.2.2.2.1 q n, z2 w.2.2.2.2.2.1 q 0, z2 w.2.2.2.2.2.2.1 q 0, z2 w.2.2.2.2.2.2.2 q 0)
def fk (t : FieldType) : Nat := match t with
  | .long => 1
  | .object _ => 2
  | .array _ => 2
  | _ => 0
def fv (w : Wd) (ci k a : Nat) : Value := match fk (cY ci k) with
  | 1 => .long (wJ w ci k a)
  | 2 => rn (wR w ci k a)
  | _ => .int (wI w ci k a)
def fl (w : Wd) (ci a : Nat) : List Value := (List.range (cN ci)).map (fun k => fv w ci k a)
def ac (w : Wd) (t a : Nat) : (Nat → Int32) ⊕ (Nat → Int64) ⊕ (Nat → UInt32) ⊕ (Nat → UInt64) ⊕ (Nat → Option Nat) :=
  if t = 13 ∨ t = 15 then .inl (xI w a) else if t = 14 then .inr (.inl (xJ w a)) else .inr (.inr (.inr (.inr (fun i => nz (xR w a i)))))
def wF (cy : Nat → ClassId) (w : Wd) (a : Nat) : va_E := if wK w a ≤ 12 then .inr (wK w a - 1, fl w (wK w a - 1) a) else .inl (cy (wK w a), wL w a, ac w (wK w a) a)
/-- the claim's context: launch, slots of the classes, array classes, the first heap -/
abbrev Cx : Type := Launch × va_G × (Nat → ClassId) × Heap
abbrev Fr (X : Cx) : Nat → Prop := fun q => X.2.2.2.size ≤ q
def tyA (t : Nat) : FieldType := match t with
  | 13 => .int | 14 => .long | 15 => .boolean | 16 => .object RX0 | 17 => .object RX2 | _ => .object RX3
abbrev tysX (X : Cx) : List (ClassId × FieldType) := [(X.2.2.1 13, .int), (X.2.2.1 14, .long), (X.2.2.1 15, .boolean), (X.2.2.1 16, .object RX0), (X.2.2.1 17, .object RX2), (X.2.2.1 18, .object RX3)]
theorem tysX_get (X : Cx) : ∀ t, 13 ≤ t → t < 19 → (tysX X)[t - 13]? = some (X.2.2.1 t, tyA t) := by
  intro t h1 h2
  match t, h1, h2 with
  | 13, _, _ => rfl | 14, _, _ => rfl | 15, _, _ => rfl | 16, _, _ => rfl | 17, _, _ => rfl | 18, _, _ => rfl
  | n + 19, h1, h2 => omega
/-- the heap holds the world -/
def Rh (X : Cx) (w : Wd) (H : Heap) : Prop := ∃ L : List Nat, va_P X.2.1 cls (va_pl L (wF X.2.2.1 w)) H ∧ va_D (Fr X) (va_pl L (wF X.2.2.1 w)) ∧ ∀ a, wK w a ≠ 0 → a ∈ L
theorem Rh.ne {X : Cx} {w : Wd} {H : Heap} (h : Rh X w H) (h0 : 0 < X.2.2.2.size) {a : Nat} (ha : wK w a ≠ 0) : a ≠ 0 := by
  obtain ⟨L, hP, hD, hL⟩ := h
  obtain ⟨k, hk⟩ := va_pl_get (X := []) (f := wF X.2.2.1 w) (hL a ha)
  have h1 : Fr X a := hD.2 k _ hk
  intro q
  subst q
  exact absurd h1 (by show ¬ X.2.2.2.size ≤ 0; omega)
theorem fl_get {w : Wd} {ci a k : Nat} (h : k < cN ci) : (fl w ci a)[k]? = some (fv w ci k a) := by
  simp [fl, h]
theorem fl_len (w : Wd) (ci a : Nat) : (fl w ci a).length = cN ci := by simp [fl]
theorem fl_set {w w' : Wd} {ci a k : Nat} {v : Value} (hv : fv w' ci k a = v) (ho : ∀ j, j ≠ k → fv w' ci j a = fv w ci j a) : (fl w ci a).set k v = fl w' ci a := by
  apply List.ext_getElem?
  intro j
  rw [List.getElem?_set]
  simp only [fl, List.getElem?_map, List.length_map, List.length_range]
  by_cases hj : k = j
  · subst hj
    by_cases hk : k < cN ci
    · simp [hk, hv]
    · simp [hk]
  · rw [if_neg hj]
    by_cases hk : j < cN ci
    · simp [hk, ho j (fun e => hj e.symm)]
    · simp [hk]
theorem wF_obj {cy : Nat → ClassId} {w : Wd} {a ci : Nat} (h : wK w a = ci + 1) (hc : ci < 12) : wF cy w a = .inr (ci, fl w ci a) := by
  simp only [wF, h]
  rw [if_pos (by omega)]
  rfl
theorem wF_arr {cy : Nat → ClassId} {w : Wd} {a t : Nat} (h : wK w a = t) (ht : 13 ≤ t) : wF cy w a = .inl (cy t, wL w a, ac w t a) := by
  simp only [wF, h]
  rw [if_neg (by omega)]
/-- two worlds that are one but at an address -/
theorem wF_up {cy : Nat → ClassId} {w w' : Wd} {a : Nat} {e : va_E} (ho : ∀ b, b ≠ a → wF cy w' b = wF cy w b) (he : wF cy w' a = e) : ∀ b, va_up (wF cy w) a e b = wF cy w' b := by
  intro b
  unfold va_up
  by_cases hb : b = a
  · subst hb; rw [if_pos rfl]; exact he.symm
  · rw [if_neg hb]; exact (ho b hb).symm
/-- they look the same from an address -/
def eqAt (w w' : Wd) (b : Nat) : Prop := wK w' b = wK w b ∧ (∀ c k, wI w' c k b = wI w c k b) ∧ (∀ c k, wJ w' c k b = wJ w c k b) ∧ (∀ c k, wR w' c k b = wR w c k b) ∧ wL w' b = wL w b ∧ xI w' b = xI w b ∧ xJ w' b = xJ w b ∧ xR w' b = xR w b
theorem eqAt.F {cy : Nat → ClassId} {w w' : Wd} {b : Nat} (h : eqAt w w' b) : wF cy w' b = wF cy w b := by
  obtain ⟨h1, h2, h3, h4, h5, h6, h7, h8⟩ := h
  have hf : ∀ ci, fl w' ci b = fl w ci b := fun ci => by
    unfold fl fv
    simp only [h2, h3, h4]
  unfold wF ac
  simp only [h1, h5, h6, h7, h8, hf]
theorem eqAt_sI {w : Wd} {c k a b : Nat} {v : Int32} (h : b ≠ a) : eqAt w (sI w c k a v) b := by
  refine ⟨rfl, fun c' k' => ?_, fun _ _ => rfl, fun _ _ => rfl, rfl, rfl, rfl, rfl⟩
  simp [wI, sI, u3, h]
theorem eqAt_sJ {w : Wd} {c k a b : Nat} {v : Int64} (h : b ≠ a) : eqAt w (sJ w c k a v) b := by
  refine ⟨rfl, fun _ _ => rfl, fun c' k' => ?_, fun _ _ => rfl, rfl, rfl, rfl, rfl⟩
  simp [wJ, sJ, u3, h]
theorem eqAt_sR {w : Wd} {c k a b : Nat} {v : Nat} (h : b ≠ a) : eqAt w (sR w c k a v) b := by
  refine ⟨rfl, fun _ _ => rfl, fun _ _ => rfl, fun c' k' => ?_, rfl, rfl, rfl, rfl⟩
  simp [wR, sR, u3, h]
theorem eqAt_yI {w : Wd} {a i b : Nat} {v : Int32} (h : b ≠ a) : eqAt w (yI w a i v) b := by
  refine ⟨rfl, fun _ _ => rfl, fun _ _ => rfl, fun _ _ => rfl, rfl, ?_, rfl, rfl⟩
  funext j
  simp [xI, yI, u2, h]
theorem eqAt_yJ {w : Wd} {a i b : Nat} {v : Int64} (h : b ≠ a) : eqAt w (yJ w a i v) b := by
  refine ⟨rfl, fun _ _ => rfl, fun _ _ => rfl, fun _ _ => rfl, rfl, rfl, ?_, rfl⟩
  funext j
  simp [xJ, yJ, u2, h]
theorem eqAt_yR {w : Wd} {a i b : Nat} {v : Nat} (h : b ≠ a) : eqAt w (yR w a i v) b := by
  refine ⟨rfl, fun _ _ => rfl, fun _ _ => rfl, fun _ _ => rfl, rfl, rfl, rfl, ?_⟩
  funext j
  simp [xR, yR, u2, h]
theorem eqAt_nO {w : Wd} {ci q b : Nat} (h : b ≠ q) : eqAt w (nO w ci q) b := by
  refine ⟨?_, fun _ _ => ?_, fun _ _ => ?_, fun _ _ => ?_, rfl, rfl, rfl, rfl⟩
  · simp [wK, nO, va_up, h]
  · simp [wI, nO, z3, h]
  · simp [wJ, nO, z3, h]
  · simp [wR, nO, z3, h]
theorem eqAt_nA {w : Wd} {t q n b : Nat} (h : b ≠ q) : eqAt w (nA w t q n) b := by
  refine ⟨?_, fun _ _ => rfl, fun _ _ => rfl, fun _ _ => rfl, ?_, ?_, ?_, ?_⟩
  · simp [wK, nA, va_up, h]
  · simp [wL, nA, va_up, h]
  · funext j; simp [xI, nA, z2, h]
  · funext j; simp [xJ, nA, z2, h]
  · funext j; simp [xR, nA, z2, h]
end
section
/-! ===== the judgement ===== -/
abbrev Me : Type := MethodName × ByteArray × Nat × Option FieldType
abbrev Bu : Type := Nat × Nat × Nat
def rmO (B : Bu) : Room := { frames := B.1, cells := B.2.1, slots := B.2.2, locals := 60 * B.1 }
/-- room, most cells, most slots, the end, what more is known of the start -/
abbrev Vw : Type := Room × Nat × Nat × (List Frame → Array Value → State → State → Prop) × (State → Prop)
def Qw (X : Cx) (Q : Option Av → Wd → Prop) : Array Value → State → Outcome → State → Prop := fun _ _ oc t => ∃ (r : Option Av) (w' : Wd), oc = .returned (r.map tv) ∧ Q r w' ∧ Rh X w' t.heap ∧ va_S (Fr X) X.2.2.2 t.heap []
def vw (X : Cx) (B : Bu) (Q : Option Av → Wd → Prop) : Vw := (rmO B, B.2.1, B.2.2, (fun below args s => MQ below (Qw X Q) args s B.2.1 B.2.2 (Fr X)), fun _ => True)
def KK (X : Cx) (s : State) : Prop := va_K X.2.1 cls (tysX X) s ∧ va_AO RX0 s ∧ va_AO RX2 s ∧ va_AO RX3 s
theorem KK.moved {X : Cx} {u U : State} (hvm : u.vm.Alike U.vm) (h : KK X u) : KK X U := ⟨va_K.moved hvm h.1, h.2.1.moved hvm, h.2.2.1.moved hvm, h.2.2.2.moved hvm⟩
def Ax (X : Cx) (M : Me) (p : Program) (s : State) (m : MethodId) (args : Array Value) (meth : Method) (c : Code) : Prop :=
  p.tables.exec = Jvm.exec ∧ c.code = M.2.1 ∧ meth.sig.returnType = M.2.2.2 ∧ c.maxLocals = M.2.2.1 ∧ s.vm.findClass M.1.cls = some m.cls ∧ (∀ w ∈ tb, w.before args s = true) ∧ KK X s ∧ meth.locks = false ∧ meth.name = M.1.name ∧ 0 < X.2.2.2.size
def t2 (q : Nat × Av) : Nat × Value := (q.1, tv q.2)
def EJ (X : Cx) (M : Me) (V : Vw) (rc rs pc : Nat) (lv : List (Nat × Av)) (st : List Av) (w : Wd) : Prop :=
  ∀ (p : Program) (e : Env) (s : State) (m : MethodId) (args : Array Value) (below : List Frame) (meth : Method) (c : Code) (H : Heap) (locs : List Loc) (cells slots : Nat) (ls : Array Slot),
    Ax X M p s m args meth c → V.2.2.2.2 s → Rh X w H → va_S (Fr X) X.2.2.2 H locs → lv_has ls M.2.2.1 (lv.map t2) → cells + rc ≤ V.2.1 → slots + rs ≤ V.2.2.1 → V.2.1 ≤ V.1.cells → V.2.2.1 ≤ V.1.slots →
    W p X.1 e V.1 s m args below meth c H locs cells slots (V.2.2.2.1 below args s) (F0 m pc ls (st.map tv))
theorem EJ.less {X : Cx} {M : Me} {V : Vw} {rc rs rc' rs' pc : Nat} {lv : List (Nat × Av)} {st : List Av} {w : Wd} (h1 : rc ≤ rc') (h2 : rs ≤ rs') (h : EJ X M V rc rs pc lv st w) : EJ X M V rc' rs' pc lv st w := by
  intro p e s m args below meth c H locs cells slots ls hA hV hR hS hl hc hs hcr hsr
  exact h p e s m args below meth c H locs cells slots ls hA hV hR hS hl (by omega) (by omega) hcr hsr
/-- locals: read, write, entry -/
def lvG (lv : List (Nat × Av)) (i : Nat) : Option Av := match lv with
  | [] => none
  | q :: t => if q.1 == i then some q.2 else lvG t i
theorem lvG_mem {lv : List (Nat × Av)} {i : Nat} {v : Av} (h : lvG lv i = some v) : (i, v) ∈ lv := by
  induction lv with
  | nil => cases h
  | cons q t ih =>
    unfold lvG at h
    by_cases hq : q.1 == i
    · rw [if_pos hq] at h
      cases h
      have : q.1 = i := by simpa using hq
      subst this
      exact List.mem_cons_self
    · rw [if_neg hq] at h
      exact List.mem_cons_of_mem _ (ih h)
theorem lvG_at {ls : Array Slot} {n : Nat} {lv : List (Nat × Av)} {i : Nat} {v : Av} (hl : lv_has ls n (lv.map t2)) (h : lvG lv i = some v) : ls[i]? = some (.val (tv v)) :=
  hl.2.2 (i, tv v) (List.mem_map.mpr ⟨(i, v), lvG_mem h, rfl⟩)
def lvF (i : Nat) (v : Av) (lv : List (Nat × Av)) : List (Nat × Av) := match lv with
  | [] => []
  | q :: t => if (q.1 == i) || (isJ v && q.1 == i + 1) || (isJ q.2 && q.1 + 1 == i) then lvF i v t else q :: lvF i v t
def lvI (i : Nat) (v : Av) (lv : List (Nat × Av)) : List (Nat × Av) := match lv with
  | [] => [(i, v)]
  | q :: t => if Nat.blt i q.1 then (i, v) :: q :: t else q :: lvI i v t
def lvS (i : Nat) (v : Av) (lv : List (Nat × Av)) : List (Nat × Av) := lvI i v (lvF i v lv)
theorem lvI_mem {i : Nat} {v : Av} {lv : List (Nat × Av)} {q : Nat × Av} (h : q ∈ lvI i v lv) : q = (i, v) ∨ q ∈ lv := by
  induction lv with
  | nil => simpa [lvI] using h
  | cons r t ih =>
    unfold lvI at h
    split at h
    · rcases List.mem_cons.mp h with h | h
      · exact Or.inl h
      · exact Or.inr h
    · rcases List.mem_cons.mp h with h | h
      · exact Or.inr (by rw [h]; exact List.mem_cons_self)
      · rcases ih h with h | h
        · exact Or.inl h
        · exact Or.inr (List.mem_cons_of_mem _ h)
theorem lvF_mem {i : Nat} {v : Av} {lv : List (Nat × Av)} {q : Nat × Av} (h : q ∈ lvF i v lv) : q ∈ lv ∧ ¬ q.1 = i ∧ (isJ v = true → ¬ q.1 = i + 1) ∧ (isJ q.2 = true → ¬ q.1 + 1 = i) := by
  induction lv with
  | nil => cases h
  | cons r t ih =>
    unfold lvF at h
    split at h
    · obtain ⟨h1, h2⟩ := ih h
      exact ⟨List.mem_cons_of_mem _ h1, h2⟩
    · rename_i hn
      rcases List.mem_cons.mp h with h | h
      · subst h
        refine ⟨List.mem_cons_self, fun q1 => hn (by simp [q1]), fun q1 q2 => hn (by simp [q1, q2]), fun q1 q2 => hn (by simp [q1, q2])⟩
      · obtain ⟨h1, h2⟩ := ih h
        exact ⟨List.mem_cons_of_mem _ h1, h2⟩
theorem lvS_has1 {ls : Array Slot} {n i : Nat} {v : Av} {lv : List (Nat × Av)} (hv : isJ v = false) (h : lv_has ls n ((i, tv v) :: (lv.map t2).filter (fun q => !(q.1 == i) && !(q.1 + 1 == i && q.2.category == 2)))) : lv_has ls n ((lvS i v lv).map t2) := by
  refine ⟨h.1, h.2.1, fun q hq => ?_⟩
  obtain ⟨r, hr, rfl⟩ := List.mem_map.mp hq
  rcases lvI_mem hr with rfl | hr
  · exact h.2.2 _ List.mem_cons_self
  · obtain ⟨h1, h2, h3, h4⟩ := lvF_mem hr
    refine h.2.2 _ (List.mem_cons_of_mem _ (List.mem_filter.mpr ⟨List.mem_map.mpr ⟨r, h1, rfl⟩, ?_⟩))
    have hc : (tv r.2).category = if isJ r.2 then 2 else 1 := (cat_tv _).trans (cat_J _)
    cases hj : isJ r.2
    · simp [t2, h2, hc, hj]
    · have := h4 hj
      simp [t2, h2, this]
theorem lvS_has2 {ls : Array Slot} {n i : Nat} {v : Av} {lv : List (Nat × Av)} (hv : isJ v = true) (h : lv_has ls n ((i, tv v) :: (lv.map t2).filter (fun q => !(q.1 == i) && (!(q.1 == i + 1) && !(q.1 + 1 == i && q.2.category == 2))))) : lv_has ls n ((lvS i v lv).map t2) := by
  refine ⟨h.1, h.2.1, fun q hq => ?_⟩
  obtain ⟨r, hr, rfl⟩ := List.mem_map.mp hq
  rcases lvI_mem hr with rfl | hr
  · exact h.2.2 _ List.mem_cons_self
  · obtain ⟨h1, h2, h3, h4⟩ := lvF_mem hr
    refine h.2.2 _ (List.mem_cons_of_mem _ (List.mem_filter.mpr ⟨List.mem_map.mpr ⟨r, h1, rfl⟩, ?_⟩))
    have hc : (tv r.2).category = if isJ r.2 then 2 else 1 := (cat_tv _).trans (cat_J _)
    have h5 := h3 hv
    cases hj : isJ r.2
    · simp [t2, h2, h5, hc, hj]
    · have := h4 hj
      simp [t2, h2, h5, this]
section E0
variable {X : Cx} {M : Me} {V : Vw} {rc rs pc : Nat} {lv : List (Nat × Av)} {st : List Av} {w : Wd}

theorem e_iconst {n : Int} {v : Int32} (hd : decode M.2.1 pc = .ok (.iconst n, 1)) (hv : Int32.ofInt n = v) (kk : EJ X M V rc rs (pc + 1) lv (vI v :: st) w) : EJ X M V rc rs pc lv (st) w := by
  intro p e s m args below meth c H locs cells slots ls hA hV hR hS hl hc hs hcr hsr
  exact lv_iconst hA.1 hA.2.1 hd hv (kk p e s m args below meth c H locs cells slots ls hA hV hR hS hl hc hs hcr hsr)
theorem e_bipush {n : Int} {v : Int32} (hd : decode M.2.1 pc = .ok (.bipush n, 2)) (hv : (Int8.ofInt n).toInt32 = v) (kk : EJ X M V rc rs (pc + 2) lv (vI v :: st) w) : EJ X M V rc rs pc lv (st) w := by
  intro p e s m args below meth c H locs cells slots ls hA hV hR hS hl hc hs hcr hsr
  exact lv_bipush hA.1 hA.2.1 hd hv (kk p e s m args below meth c H locs cells slots ls hA hV hR hS hl hc hs hcr hsr)
theorem e_sipush {n : Int} {v : Int32} (hd : decode M.2.1 pc = .ok (.sipush n, 3)) (hv : (Int16.ofInt n).toInt32 = v) (kk : EJ X M V rc rs (pc + 3) lv (vI v :: st) w) : EJ X M V rc rs pc lv (st) w := by
  intro p e s m args below meth c H locs cells slots ls hA hV hR hS hl hc hs hcr hsr
  exact lv_sipush hA.1 hA.2.1 hd hv (kk p e s m args below meth c H locs cells slots ls hA hV hR hS hl hc hs hcr hsr)
theorem e_lconst {n : Fin 2} {v : Int64} (hd : decode M.2.1 pc = .ok (.lconst n, 1)) (hv : Int64.ofNat (n : Nat) = v) (kk : EJ X M V rc rs (pc + 1) lv (vJ v :: st) w) : EJ X M V rc rs pc lv (st) w := by
  intro p e s m args below meth c H locs cells slots ls hA hV hR hS hl hc hs hcr hsr
  exact lv_lconst hA.1 hA.2.1 hd hv (kk p e s m args below meth c H locs cells slots ls hA hV hR hS hl hc hs hcr hsr)
theorem e_ldc {idx : Nat} {v : Int32} (hd : decode M.2.1 pc = .ok (.ldc idx, 2)) (hk : Jvm.Cond.constant M.1.cls idx v ∈ tb) (kk : EJ X M V rc rs (pc + 2) lv (vI v :: st) w) : EJ X M V rc rs pc lv (st) w := by
  intro p e s m args below meth c H locs cells slots ls hA hV hR hS hl hc hs hcr hsr
  exact lv_ldc hA.1 hA.2.1 hA.2.2.2.2.1 (hA.2.2.2.2.2.1 _ hk) hd (kk p e s m args below meth c H locs cells slots ls hA hV hR hS hl hc hs hcr hsr)
theorem e_ldc_w {idx : Nat} {v : Int32} (hd : decode M.2.1 pc = .ok (.ldc_w idx, 3)) (hk : Jvm.Cond.constant M.1.cls idx v ∈ tb) (kk : EJ X M V rc rs (pc + 3) lv (vI v :: st) w) : EJ X M V rc rs pc lv (st) w := by
  intro p e s m args below meth c H locs cells slots ls hA hV hR hS hl hc hs hcr hsr
  exact lv_ldcw hA.1 hA.2.1 hA.2.2.2.2.1 (hA.2.2.2.2.2.1 _ hk) hd (kk p e s m args below meth c H locs cells slots ls hA hV hR hS hl hc hs hcr hsr)
theorem e_ldc2 {idx : Nat} {v : Int64} (hd : decode M.2.1 pc = .ok (.ldc2_w idx, 3)) (hk : Jvm.Cond.constantLong M.1.cls idx v ∈ tb) (kk : EJ X M V rc rs (pc + 3) lv (vJ v :: st) w) : EJ X M V rc rs pc lv (st) w := by
  intro p e s m args below meth c H locs cells slots ls hA hV hR hS hl hc hs hcr hsr
  exact lv_ldc2 hA.1 hA.2.1 hA.2.2.2.2.1 (hA.2.2.2.2.2.1 _ hk) hd (kk p e s m args below meth c H locs cells slots ls hA hV hR hS hl hc hs hcr hsr)
theorem e_null  (hd : decode M.2.1 pc = .ok (.aconst_null, 1)) (kk : EJ X M V rc rs (pc + 1) lv (vR 0 :: st) w) : EJ X M V rc rs pc lv (st) w := by
  intro p e s m args below meth c H locs cells slots ls hA hV hR hS hl hc hs hcr hsr
  exact lv_null hA.1 hA.2.1 hd (kk p e s m args below meth c H locs cells slots ls hA hV hR hS hl hc hs hcr hsr)
theorem e_iload_n {k : Fin 4} {i : Nat} {x : Int32} (hd : decode M.2.1 pc = .ok (.iload_n k, 1)) (hi : (k : Nat) = i) (hg : lvG lv i = some (vI x)) (kk : EJ X M V rc rs (pc + 1) lv (vI x :: st) w) : EJ X M V rc rs pc lv (st) w := by
  intro p e s m args below meth c H locs cells slots ls hA hV hR hS hl hc hs hcr hsr
  exact lv_iload_n hA.1 hA.2.1 hd hi (lvG_at hl hg) (kk p e s m args below meth c H locs cells slots ls hA hV hR hS hl hc hs hcr hsr)
theorem e_iload {i : Nat} {x : Int32} (hd : decode M.2.1 pc = .ok (.iload i, 2)) (hg : lvG lv i = some (vI x)) (kk : EJ X M V rc rs (pc + 2) lv (vI x :: st) w) : EJ X M V rc rs pc lv (st) w := by
  intro p e s m args below meth c H locs cells slots ls hA hV hR hS hl hc hs hcr hsr
  exact lv_iload hA.1 hA.2.1 hd (lvG_at hl hg) (kk p e s m args below meth c H locs cells slots ls hA hV hR hS hl hc hs hcr hsr)
theorem e_lload_n {k : Fin 4} {i : Nat} {x : Int64} (hd : decode M.2.1 pc = .ok (.lload_n k, 1)) (hi : (k : Nat) = i) (hg : lvG lv i = some (vJ x)) (kk : EJ X M V rc rs (pc + 1) lv (vJ x :: st) w) : EJ X M V rc rs pc lv (st) w := by
  intro p e s m args below meth c H locs cells slots ls hA hV hR hS hl hc hs hcr hsr
  exact lv_lload_n hA.1 hA.2.1 hd hi (lvG_at hl hg) (kk p e s m args below meth c H locs cells slots ls hA hV hR hS hl hc hs hcr hsr)
theorem e_lload {i : Nat} {x : Int64} (hd : decode M.2.1 pc = .ok (.lload i, 2)) (hg : lvG lv i = some (vJ x)) (kk : EJ X M V rc rs (pc + 2) lv (vJ x :: st) w) : EJ X M V rc rs pc lv (st) w := by
  intro p e s m args below meth c H locs cells slots ls hA hV hR hS hl hc hs hcr hsr
  exact lv_lload hA.1 hA.2.1 hd (lvG_at hl hg) (kk p e s m args below meth c H locs cells slots ls hA hV hR hS hl hc hs hcr hsr)
theorem e_aload_n {k : Fin 4} {i : Nat} {a : Nat} (hd : decode M.2.1 pc = .ok (.aload_n k, 1)) (hi : (k : Nat) = i) (hg : lvG lv i = some (vR a)) (kk : EJ X M V rc rs (pc + 1) lv (vR a :: st) w) : EJ X M V rc rs pc lv st w := by
  intro p e s m args below meth c H locs cells slots ls hA hV hR hS hl hc hs hcr hsr
  have h1 := lvG_at hl hg
  have h2 := kk p e s m args below meth c H locs cells slots ls hA hV hR hS hl hc hs hcr hsr
  by_cases h : a = 0
  · subst h
    exact lv_aload_nN hA.1 hA.2.1 hd hi h1 h2
  · have e : tv (vR a) = .ref a := rn_ne h
    rw [e] at h1
    rw [List.map_cons, e] at h2
    exact lv_aload_n hA.1 hA.2.1 hd hi h1 h2
theorem e_aload {i : Nat} {a : Nat} (hd : decode M.2.1 pc = .ok (.aload i, 2)) (hg : lvG lv i = some (vR a)) (kk : EJ X M V rc rs (pc + 2) lv (vR a :: st) w) : EJ X M V rc rs pc lv st w := by
  intro p e s m args below meth c H locs cells slots ls hA hV hR hS hl hc hs hcr hsr
  have h1 := lvG_at hl hg
  have h2 := kk p e s m args below meth c H locs cells slots ls hA hV hR hS hl hc hs hcr hsr
  by_cases h : a = 0
  · subst h
    exact lv_aloadN hA.1 hA.2.1 hd h1 h2
  · have e : tv (vR a) = .ref a := rn_ne h
    rw [e] at h1
    rw [List.map_cons, e] at h2
    exact lv_aload hA.1 hA.2.1 hd h1 h2
theorem e_istore_n {k : Fin 4} {i : Nat} {x : Int32} {lv' : List (Nat × Av)} (hd : decode M.2.1 pc = .ok (.istore_n k, 1)) (hi : (k : Nat) = i) (hn : i < M.2.2.1) (he : lvS i (vI x) lv = lv') (kk : EJ X M V rc rs (pc + 1) lv' st w) : EJ X M V rc rs pc lv (vI x :: st) w := by
  intro p e s m args below meth c H locs cells slots ls hA hV hR hS hl hc hs hcr hsr
  subst he
  exact lv_istore_n hA.1 hA.2.1 hd hi hl hn rfl (fun ls hl => kk p e s m args below meth c H locs cells slots ls hA hV hR hS (lvS_has1 rfl hl) hc hs hcr hsr)
theorem e_istore {i : Nat} {x : Int32} {lv' : List (Nat × Av)} (hd : decode M.2.1 pc = .ok (.istore i, 2)) (hn : i < M.2.2.1) (he : lvS i (vI x) lv = lv') (kk : EJ X M V rc rs (pc + 2) lv' st w) : EJ X M V rc rs pc lv (vI x :: st) w := by
  intro p e s m args below meth c H locs cells slots ls hA hV hR hS hl hc hs hcr hsr
  subst he
  exact lv_istore hA.1 hA.2.1 hd hl hn rfl (fun ls hl => kk p e s m args below meth c H locs cells slots ls hA hV hR hS (lvS_has1 rfl hl) hc hs hcr hsr)
theorem e_lstore_n {k : Fin 4} {i : Nat} {x : Int64} {lv' : List (Nat × Av)} (hd : decode M.2.1 pc = .ok (.lstore_n k, 1)) (hi : (k : Nat) = i) (hn : i + 1 < M.2.2.1) (he : lvS i (vJ x) lv = lv') (kk : EJ X M V rc rs (pc + 1) lv' st w) : EJ X M V rc rs pc lv (vJ x :: st) w := by
  intro p e s m args below meth c H locs cells slots ls hA hV hR hS hl hc hs hcr hsr
  subst he
  exact lv_lstore_n hA.1 hA.2.1 hd hi hl hn rfl (fun ls hl => kk p e s m args below meth c H locs cells slots ls hA hV hR hS (lvS_has2 rfl hl) hc hs hcr hsr)
theorem e_lstore {i : Nat} {x : Int64} {lv' : List (Nat × Av)} (hd : decode M.2.1 pc = .ok (.lstore i, 2)) (hn : i + 1 < M.2.2.1) (he : lvS i (vJ x) lv = lv') (kk : EJ X M V rc rs (pc + 2) lv' st w) : EJ X M V rc rs pc lv (vJ x :: st) w := by
  intro p e s m args below meth c H locs cells slots ls hA hV hR hS hl hc hs hcr hsr
  subst he
  exact lv_lstore hA.1 hA.2.1 hd hl hn rfl (fun ls hl => kk p e s m args below meth c H locs cells slots ls hA hV hR hS (lvS_has2 rfl hl) hc hs hcr hsr)
theorem e_astore_n {k : Fin 4} {i : Nat} {a : Nat} {lv' : List (Nat × Av)} (hd : decode M.2.1 pc = .ok (.astore_n k, 1)) (hi : (k : Nat) = i) (hn : i < M.2.2.1) (he : lvS i (vR a) lv = lv') (kk : EJ X M V rc rs (pc + 1) lv' st w) : EJ X M V rc rs pc lv (vR a :: st) w := by
  intro p e s m args below meth c H locs cells slots ls hA hV hR hS hl hc hs hcr hsr
  subst he
  by_cases h : a = 0
  · subst h
    exact lv_astore_nN hA.1 hA.2.1 hd hi hl hn rfl (fun ls hl => kk p e s m args below meth c H locs cells slots ls hA hV hR hS (lvS_has1 rfl hl) hc hs hcr hsr)
  · have e1 : tv (vR a) = .ref a := rn_ne h
    rw [List.map_cons, e1]
    exact lv_astore_n hA.1 hA.2.1 hd hi hl hn rfl (fun ls hl => kk p e s m args below meth c H locs cells slots ls hA hV hR hS (lvS_has1 rfl (by rw [e1]; exact hl)) hc hs hcr hsr)
theorem e_astore {i : Nat} {a : Nat} {lv' : List (Nat × Av)} (hd : decode M.2.1 pc = .ok (.astore i, 2)) (hn : i < M.2.2.1) (he : lvS i (vR a) lv = lv') (kk : EJ X M V rc rs (pc + 2) lv' st w) : EJ X M V rc rs pc lv (vR a :: st) w := by
  intro p e s m args below meth c H locs cells slots ls hA hV hR hS hl hc hs hcr hsr
  subst he
  by_cases h : a = 0
  · subst h
    exact lv_astoreN hA.1 hA.2.1 hd hl hn rfl (fun ls hl => kk p e s m args below meth c H locs cells slots ls hA hV hR hS (lvS_has1 rfl hl) hc hs hcr hsr)
  · have e1 : tv (vR a) = .ref a := rn_ne h
    rw [List.map_cons, e1]
    exact lv_astore hA.1 hA.2.1 hd hl hn rfl (fun ls hl => kk p e s m args below meth c H locs cells slots ls hA hV hR hS (lvS_has1 rfl (by rw [e1]; exact hl)) hc hs hcr hsr)
theorem e_iinc {i : Nat} {n : Int} {x v : Int32} {lv' : List (Nat × Av)} (hd : decode M.2.1 pc = .ok (.iinc i n, 3)) (hg : lvG lv i = some (vI x)) (hv : x + Int32.ofInt n = v) (hn : i < M.2.2.1) (he : lvS i (vI v) lv = lv') (kk : EJ X M V rc rs (pc + 3) lv' st w) : EJ X M V rc rs pc lv st w := by
  intro p e s m args below meth c H locs cells slots ls hA hV hR hS hl hc hs hcr hsr
  subst he
  obtain ⟨k, hk⟩ := List.getElem?_of_mem (List.mem_map.mpr ⟨(i, vI x), lvG_mem hg, rfl⟩ : t2 (i, vI x) ∈ lv.map t2)
  exact lv_iinc hA.1 hA.2.1 hd hl hk hv hn rfl (fun ls hl => kk p e s m args below meth c H locs cells slots ls hA hV hR hS (lvS_has1 rfl hl) hc hs hcr hsr)
theorem e_iadd {x y : Int32} (hd : decode M.2.1 pc = .ok (.iadd, 1)) (kk : EJ X M V rc rs (pc + 1) lv (vI (x + y) :: st) w) : EJ X M V rc rs pc lv (vI y :: vI x :: st) w := by
  intro p e s m args below meth c H locs cells slots ls hA hV hR hS hl hc hs hcr hsr
  exact lv_iadd hA.1 hA.2.1 hd (kk p e s m args below meth c H locs cells slots ls hA hV hR hS hl hc hs hcr hsr)
theorem e_isub {x y : Int32} (hd : decode M.2.1 pc = .ok (.isub, 1)) (kk : EJ X M V rc rs (pc + 1) lv (vI (x - y) :: st) w) : EJ X M V rc rs pc lv (vI y :: vI x :: st) w := by
  intro p e s m args below meth c H locs cells slots ls hA hV hR hS hl hc hs hcr hsr
  exact lv_isub hA.1 hA.2.1 hd (kk p e s m args below meth c H locs cells slots ls hA hV hR hS hl hc hs hcr hsr)
theorem e_imul {x y : Int32} (hd : decode M.2.1 pc = .ok (.imul, 1)) (kk : EJ X M V rc rs (pc + 1) lv (vI (x * y) :: st) w) : EJ X M V rc rs pc lv (vI y :: vI x :: st) w := by
  intro p e s m args below meth c H locs cells slots ls hA hV hR hS hl hc hs hcr hsr
  exact lv_imul hA.1 hA.2.1 hd (kk p e s m args below meth c H locs cells slots ls hA hV hR hS hl hc hs hcr hsr)
theorem e_iand {x y : Int32} (hd : decode M.2.1 pc = .ok (.iand, 1)) (kk : EJ X M V rc rs (pc + 1) lv (vI (x &&& y) :: st) w) : EJ X M V rc rs pc lv (vI y :: vI x :: st) w := by
  intro p e s m args below meth c H locs cells slots ls hA hV hR hS hl hc hs hcr hsr
  exact lv_iand hA.1 hA.2.1 hd (kk p e s m args below meth c H locs cells slots ls hA hV hR hS hl hc hs hcr hsr)
theorem e_ladd {x y : Int64} (hd : decode M.2.1 pc = .ok (.ladd, 1)) (kk : EJ X M V rc rs (pc + 1) lv (vJ (x + y) :: st) w) : EJ X M V rc rs pc lv (vJ y :: vJ x :: st) w := by
  intro p e s m args below meth c H locs cells slots ls hA hV hR hS hl hc hs hcr hsr
  exact lv_ladd hA.1 hA.2.1 hd (kk p e s m args below meth c H locs cells slots ls hA hV hR hS hl hc hs hcr hsr)
theorem e_lsub {x y : Int64} (hd : decode M.2.1 pc = .ok (.lsub, 1)) (kk : EJ X M V rc rs (pc + 1) lv (vJ (x - y) :: st) w) : EJ X M V rc rs pc lv (vJ y :: vJ x :: st) w := by
  intro p e s m args below meth c H locs cells slots ls hA hV hR hS hl hc hs hcr hsr
  exact lv_lsub hA.1 hA.2.1 hd (kk p e s m args below meth c H locs cells slots ls hA hV hR hS hl hc hs hcr hsr)
theorem e_lmul {x y : Int64} (hd : decode M.2.1 pc = .ok (.lmul, 1)) (kk : EJ X M V rc rs (pc + 1) lv (vJ (x * y) :: st) w) : EJ X M V rc rs pc lv (vJ y :: vJ x :: st) w := by
  intro p e s m args below meth c H locs cells slots ls hA hV hR hS hl hc hs hcr hsr
  exact lv_lmul hA.1 hA.2.1 hd (kk p e s m args below meth c H locs cells slots ls hA hV hR hS hl hc hs hcr hsr)
theorem e_land {x y : Int64} (hd : decode M.2.1 pc = .ok (.land, 1)) (kk : EJ X M V rc rs (pc + 1) lv (vJ (x &&& y) :: st) w) : EJ X M V rc rs pc lv (vJ y :: vJ x :: st) w := by
  intro p e s m args below meth c H locs cells slots ls hA hV hR hS hl hc hs hcr hsr
  exact lv_land hA.1 hA.2.1 hd (kk p e s m args below meth c H locs cells slots ls hA hV hR hS hl hc hs hcr hsr)
theorem e_lor {x y : Int64} (hd : decode M.2.1 pc = .ok (.lor, 1)) (kk : EJ X M V rc rs (pc + 1) lv (vJ (x ||| y) :: st) w) : EJ X M V rc rs pc lv (vJ y :: vJ x :: st) w := by
  intro p e s m args below meth c H locs cells slots ls hA hV hR hS hl hc hs hcr hsr
  exact lv_lor hA.1 hA.2.1 hd (kk p e s m args below meth c H locs cells slots ls hA hV hR hS hl hc hs hcr hsr)
theorem e_lxor {x y : Int64} (hd : decode M.2.1 pc = .ok (.lxor, 1)) (kk : EJ X M V rc rs (pc + 1) lv (vJ (x ^^^ y) :: st) w) : EJ X M V rc rs pc lv (vJ y :: vJ x :: st) w := by
  intro p e s m args below meth c H locs cells slots ls hA hV hR hS hl hc hs hcr hsr
  exact lv_lxor hA.1 hA.2.1 hd (kk p e s m args below meth c H locs cells slots ls hA hV hR hS hl hc hs hcr hsr)
theorem e_idiv {x y : Int32} (hd : decode M.2.1 pc = .ok (.idiv, 1)) (hne : ¬ y = 0) (kk : EJ X M V rc rs (pc + 1) lv (vI (x / y) :: st) w) : EJ X M V rc rs pc lv (vI y :: vI x :: st) w := by
  intro p e s m args below meth c H locs cells slots ls hA hV hR hS hl hc hs hcr hsr
  exact lv_idiv hA.1 hA.2.1 hd hne (kk p e s m args below meth c H locs cells slots ls hA hV hR hS hl hc hs hcr hsr)
theorem e_ldiv {x y : Int64} (hd : decode M.2.1 pc = .ok (.ldiv, 1)) (hne : ¬ y = 0) (kk : EJ X M V rc rs (pc + 1) lv (vJ (x / y) :: st) w) : EJ X M V rc rs pc lv (vJ y :: vJ x :: st) w := by
  intro p e s m args below meth c H locs cells slots ls hA hV hR hS hl hc hs hcr hsr
  exact lv_ldiv hA.1 hA.2.1 hd hne (kk p e s m args below meth c H locs cells slots ls hA hV hR hS hl hc hs hcr hsr)
theorem e_i2l {x : Int32} (hd : decode M.2.1 pc = .ok (.i2l, 1)) (kk : EJ X M V rc rs (pc + 1) lv (vJ x.toInt64 :: st) w) : EJ X M V rc rs pc lv (vI x :: st) w := by
  intro p e s m args below meth c H locs cells slots ls hA hV hR hS hl hc hs hcr hsr
  exact lv_i2l hA.1 hA.2.1 hd rfl (kk p e s m args below meth c H locs cells slots ls hA hV hR hS hl hc hs hcr hsr)
theorem e_l2i {x : Int64} (hd : decode M.2.1 pc = .ok (.l2i, 1)) (kk : EJ X M V rc rs (pc + 1) lv (vI x.toInt32 :: st) w) : EJ X M V rc rs pc lv (vJ x :: st) w := by
  intro p e s m args below meth c H locs cells slots ls hA hV hR hS hl hc hs hcr hsr
  exact lv_l2i hA.1 hA.2.1 hd rfl (kk p e s m args below meth c H locs cells slots ls hA hV hR hS hl hc hs hcr hsr)
theorem e_lshl {x : Int64} {y : Int32} (hd : decode M.2.1 pc = .ok (.lshl, 1)) (kk : EJ X M V rc rs (pc + 1) lv (vJ (x <<< (y.toInt64 &&& 63)) :: st) w) : EJ X M V rc rs pc lv (vI y :: vJ x :: st) w := by
  intro p e s m args below meth c H locs cells slots ls hA hV hR hS hl hc hs hcr hsr
  exact lv_lshl hA.1 hA.2.1 hd rfl (kk p e s m args below meth c H locs cells slots ls hA hV hR hS hl hc hs hcr hsr)
theorem e_lshr {x : Int64} {y : Int32} (hd : decode M.2.1 pc = .ok (.lshr, 1)) (kk : EJ X M V rc rs (pc + 1) lv (vJ (x >>> (y.toInt64 &&& 63)) :: st) w) : EJ X M V rc rs pc lv (vI y :: vJ x :: st) w := by
  intro p e s m args below meth c H locs cells slots ls hA hV hR hS hl hc hs hcr hsr
  exact lv_lshr hA.1 hA.2.1 hd rfl (kk p e s m args below meth c H locs cells slots ls hA hV hR hS hl hc hs hcr hsr)
theorem e_lushr {x : Int64} {y : Int32} (hd : decode M.2.1 pc = .ok (.lushr, 1)) (kk : EJ X M V rc rs (pc + 1) lv (vJ ((x.toUInt64 >>> (y.toInt64.toUInt64 &&& Int64.toUInt64 63)).toInt64) :: st) w) : EJ X M V rc rs pc lv (vI y :: vJ x :: st) w := by
  intro p e s m args below meth c H locs cells slots ls hA hV hR hS hl hc hs hcr hsr
  exact lv_lushr hA.1 hA.2.1 hd rfl (kk p e s m args below meth c H locs cells slots ls hA hV hR hS hl hc hs hcr hsr)
theorem e_lcmp {x y : Int64} (hd : decode M.2.1 pc = .ok (.lcmp, 1)) (kk : EJ X M V rc rs (pc + 1) lv (vI (lg_cmp x y) :: st) w) : EJ X M V rc rs pc lv (vJ y :: vJ x :: st) w := by
  intro p e s m args below meth c H locs cells slots ls hA hV hR hS hl hc hs hcr hsr
  exact W.lcmp hA.1 hA.2.1 hd (kk p e s m args below meth c H locs cells slots ls hA hV hR hS hl hc hs hcr hsr)
theorem e_dup {v : Av} (hd : decode M.2.1 pc = .ok (.dup, 1)) (hv : cat v = 1) (kk : EJ X M V rc rs (pc + 1) lv (v :: v :: st) w) : EJ X M V rc rs pc lv (v :: st) w := by
  intro p e s m args below meth c H locs cells slots ls hA hV hR hS hl hc hs hcr hsr
  exact lv_dup hA.1 hA.2.1 hd ((cat_tv v).trans hv) (kk p e s m args below meth c H locs cells slots ls hA hV hR hS hl hc hs hcr hsr)
theorem e_pop {v : Av} (hd : decode M.2.1 pc = .ok (.pop, 1)) (hv : cat v = 1) (kk : EJ X M V rc rs (pc + 1) lv (st) w) : EJ X M V rc rs pc lv (v :: st) w := by
  intro p e s m args below meth c H locs cells slots ls hA hV hR hS hl hc hs hcr hsr
  exact lv_pop hA.1 hA.2.1 hd ((cat_tv v).trans hv) (kk p e s m args below meth c H locs cells slots ls hA hV hR hS hl hc hs hcr hsr)
theorem e_dup2_2 {v : Av} (hd : decode M.2.1 pc = .ok (.dup2, 1)) (hv : cat v = 2) (kk : EJ X M V rc rs (pc + 1) lv (v :: v :: st) w) : EJ X M V rc rs pc lv (v :: st) w := by
  intro p e s m args below meth c H locs cells slots ls hA hV hR hS hl hc hs hcr hsr
  exact lv_dup2_2 hA.1 hA.2.1 hd ((cat_tv v).trans hv) (kk p e s m args below meth c H locs cells slots ls hA hV hR hS hl hc hs hcr hsr)
theorem e_pop2_2 {v : Av} (hd : decode M.2.1 pc = .ok (.pop2, 1)) (hv : cat v = 2) (kk : EJ X M V rc rs (pc + 1) lv (st) w) : EJ X M V rc rs pc lv (v :: st) w := by
  intro p e s m args below meth c H locs cells slots ls hA hV hR hS hl hc hs hcr hsr
  exact lv_pop2_2 hA.1 hA.2.1 hd ((cat_tv v).trans hv) (kk p e s m args below meth c H locs cells slots ls hA hV hR hS hl hc hs hcr hsr)
theorem e_dup2_11 {v u : Av} (hd : decode M.2.1 pc = .ok (.dup2, 1)) (hv : cat v = 1) (hu : cat u = 1) (kk : EJ X M V rc rs (pc + 1) lv (v :: u :: v :: u :: st) w) : EJ X M V rc rs pc lv (v :: u :: st) w := by
  intro p e s m args below meth c H locs cells slots ls hA hV hR hS hl hc hs hcr hsr
  exact lv_dup2_11 hA.1 hA.2.1 hd ((cat_tv v).trans hv) ((cat_tv u).trans hu) (kk p e s m args below meth c H locs cells slots ls hA hV hR hS hl hc hs hcr hsr)
theorem e_if_eq {x : Int32} {off : Int} {tgt : Nat} (hd : decode M.2.1 pc = .ok (.ifCond .eq off, 3)) (ht : (pc : Int) + off = (tgt : Int)) (kt : x = 0 → EJ X M V rc rs tgt lv st w) (kf : ¬ x = 0 → EJ X M V rc rs (pc + 3) lv st w) : EJ X M V rc rs pc lv (vI x :: st) w := by
  intro p e s m args below meth c H locs cells slots ls hA hV hR hS hl hc hs hcr hsr
  exact lv_if_eq hA.1 hA.2.1 hd ht (fun h => kt h p e s m args below meth c H locs cells slots ls hA hV hR hS hl hc hs hcr hsr) (fun h => kf h p e s m args below meth c H locs cells slots ls hA hV hR hS hl hc hs hcr hsr)
theorem e_icmp_eq {x y : Int32} {off : Int} {tgt : Nat} (hd : decode M.2.1 pc = .ok (.if_icmp .eq off, 3)) (ht : (pc : Int) + off = (tgt : Int)) (kt : x = y → EJ X M V rc rs tgt lv st w) (kf : ¬ x = y → EJ X M V rc rs (pc + 3) lv st w) : EJ X M V rc rs pc lv (vI y :: vI x :: st) w := by
  intro p e s m args below meth c H locs cells slots ls hA hV hR hS hl hc hs hcr hsr
  exact lv_icmp_eq hA.1 hA.2.1 hd ht (fun h => kt h p e s m args below meth c H locs cells slots ls hA hV hR hS hl hc hs hcr hsr) (fun h => kf h p e s m args below meth c H locs cells slots ls hA hV hR hS hl hc hs hcr hsr)
theorem e_if_ne {x : Int32} {off : Int} {tgt : Nat} (hd : decode M.2.1 pc = .ok (.ifCond .ne off, 3)) (ht : (pc : Int) + off = (tgt : Int)) (kt : ¬ x = 0 → EJ X M V rc rs tgt lv st w) (kf : x = 0 → EJ X M V rc rs (pc + 3) lv st w) : EJ X M V rc rs pc lv (vI x :: st) w := by
  intro p e s m args below meth c H locs cells slots ls hA hV hR hS hl hc hs hcr hsr
  exact lv_if_ne hA.1 hA.2.1 hd ht (fun h => kt h p e s m args below meth c H locs cells slots ls hA hV hR hS hl hc hs hcr hsr) (fun h => kf h p e s m args below meth c H locs cells slots ls hA hV hR hS hl hc hs hcr hsr)
theorem e_icmp_ne {x y : Int32} {off : Int} {tgt : Nat} (hd : decode M.2.1 pc = .ok (.if_icmp .ne off, 3)) (ht : (pc : Int) + off = (tgt : Int)) (kt : ¬ x = y → EJ X M V rc rs tgt lv st w) (kf : x = y → EJ X M V rc rs (pc + 3) lv st w) : EJ X M V rc rs pc lv (vI y :: vI x :: st) w := by
  intro p e s m args below meth c H locs cells slots ls hA hV hR hS hl hc hs hcr hsr
  exact lv_icmp_ne hA.1 hA.2.1 hd ht (fun h => kt h p e s m args below meth c H locs cells slots ls hA hV hR hS hl hc hs hcr hsr) (fun h => kf h p e s m args below meth c H locs cells slots ls hA hV hR hS hl hc hs hcr hsr)
theorem e_if_lt {x : Int32} {off : Int} {tgt : Nat} (hd : decode M.2.1 pc = .ok (.ifCond .lt off, 3)) (ht : (pc : Int) + off = (tgt : Int)) (kt : x < 0 → EJ X M V rc rs tgt lv st w) (kf : ¬ x < 0 → EJ X M V rc rs (pc + 3) lv st w) : EJ X M V rc rs pc lv (vI x :: st) w := by
  intro p e s m args below meth c H locs cells slots ls hA hV hR hS hl hc hs hcr hsr
  exact lv_if_lt hA.1 hA.2.1 hd ht (fun h => kt h p e s m args below meth c H locs cells slots ls hA hV hR hS hl hc hs hcr hsr) (fun h => kf h p e s m args below meth c H locs cells slots ls hA hV hR hS hl hc hs hcr hsr)
theorem e_icmp_lt {x y : Int32} {off : Int} {tgt : Nat} (hd : decode M.2.1 pc = .ok (.if_icmp .lt off, 3)) (ht : (pc : Int) + off = (tgt : Int)) (kt : x < y → EJ X M V rc rs tgt lv st w) (kf : ¬ x < y → EJ X M V rc rs (pc + 3) lv st w) : EJ X M V rc rs pc lv (vI y :: vI x :: st) w := by
  intro p e s m args below meth c H locs cells slots ls hA hV hR hS hl hc hs hcr hsr
  exact lv_icmp_lt hA.1 hA.2.1 hd ht (fun h => kt h p e s m args below meth c H locs cells slots ls hA hV hR hS hl hc hs hcr hsr) (fun h => kf h p e s m args below meth c H locs cells slots ls hA hV hR hS hl hc hs hcr hsr)
theorem e_if_ge {x : Int32} {off : Int} {tgt : Nat} (hd : decode M.2.1 pc = .ok (.ifCond .ge off, 3)) (ht : (pc : Int) + off = (tgt : Int)) (kt : 0 ≤ x → EJ X M V rc rs tgt lv st w) (kf : ¬ 0 ≤ x → EJ X M V rc rs (pc + 3) lv st w) : EJ X M V rc rs pc lv (vI x :: st) w := by
  intro p e s m args below meth c H locs cells slots ls hA hV hR hS hl hc hs hcr hsr
  exact lv_if_ge hA.1 hA.2.1 hd ht (fun h => kt h p e s m args below meth c H locs cells slots ls hA hV hR hS hl hc hs hcr hsr) (fun h => kf h p e s m args below meth c H locs cells slots ls hA hV hR hS hl hc hs hcr hsr)
theorem e_icmp_ge {x y : Int32} {off : Int} {tgt : Nat} (hd : decode M.2.1 pc = .ok (.if_icmp .ge off, 3)) (ht : (pc : Int) + off = (tgt : Int)) (kt : y ≤ x → EJ X M V rc rs tgt lv st w) (kf : ¬ y ≤ x → EJ X M V rc rs (pc + 3) lv st w) : EJ X M V rc rs pc lv (vI y :: vI x :: st) w := by
  intro p e s m args below meth c H locs cells slots ls hA hV hR hS hl hc hs hcr hsr
  exact lv_icmp_ge hA.1 hA.2.1 hd ht (fun h => kt h p e s m args below meth c H locs cells slots ls hA hV hR hS hl hc hs hcr hsr) (fun h => kf h p e s m args below meth c H locs cells slots ls hA hV hR hS hl hc hs hcr hsr)
theorem e_if_gt {x : Int32} {off : Int} {tgt : Nat} (hd : decode M.2.1 pc = .ok (.ifCond .gt off, 3)) (ht : (pc : Int) + off = (tgt : Int)) (kt : 0 < x → EJ X M V rc rs tgt lv st w) (kf : ¬ 0 < x → EJ X M V rc rs (pc + 3) lv st w) : EJ X M V rc rs pc lv (vI x :: st) w := by
  intro p e s m args below meth c H locs cells slots ls hA hV hR hS hl hc hs hcr hsr
  exact lv_if_gt hA.1 hA.2.1 hd ht (fun h => kt h p e s m args below meth c H locs cells slots ls hA hV hR hS hl hc hs hcr hsr) (fun h => kf h p e s m args below meth c H locs cells slots ls hA hV hR hS hl hc hs hcr hsr)
theorem e_icmp_gt {x y : Int32} {off : Int} {tgt : Nat} (hd : decode M.2.1 pc = .ok (.if_icmp .gt off, 3)) (ht : (pc : Int) + off = (tgt : Int)) (kt : y < x → EJ X M V rc rs tgt lv st w) (kf : ¬ y < x → EJ X M V rc rs (pc + 3) lv st w) : EJ X M V rc rs pc lv (vI y :: vI x :: st) w := by
  intro p e s m args below meth c H locs cells slots ls hA hV hR hS hl hc hs hcr hsr
  exact lv_icmp_gt hA.1 hA.2.1 hd ht (fun h => kt h p e s m args below meth c H locs cells slots ls hA hV hR hS hl hc hs hcr hsr) (fun h => kf h p e s m args below meth c H locs cells slots ls hA hV hR hS hl hc hs hcr hsr)
theorem e_if_le {x : Int32} {off : Int} {tgt : Nat} (hd : decode M.2.1 pc = .ok (.ifCond .le off, 3)) (ht : (pc : Int) + off = (tgt : Int)) (kt : x ≤ 0 → EJ X M V rc rs tgt lv st w) (kf : ¬ x ≤ 0 → EJ X M V rc rs (pc + 3) lv st w) : EJ X M V rc rs pc lv (vI x :: st) w := by
  intro p e s m args below meth c H locs cells slots ls hA hV hR hS hl hc hs hcr hsr
  exact lv_if_le hA.1 hA.2.1 hd ht (fun h => kt h p e s m args below meth c H locs cells slots ls hA hV hR hS hl hc hs hcr hsr) (fun h => kf h p e s m args below meth c H locs cells slots ls hA hV hR hS hl hc hs hcr hsr)
theorem e_icmp_le {x y : Int32} {off : Int} {tgt : Nat} (hd : decode M.2.1 pc = .ok (.if_icmp .le off, 3)) (ht : (pc : Int) + off = (tgt : Int)) (kt : x ≤ y → EJ X M V rc rs tgt lv st w) (kf : ¬ x ≤ y → EJ X M V rc rs (pc + 3) lv st w) : EJ X M V rc rs pc lv (vI y :: vI x :: st) w := by
  intro p e s m args below meth c H locs cells slots ls hA hV hR hS hl hc hs hcr hsr
  exact lv_icmp_le hA.1 hA.2.1 hd ht (fun h => kt h p e s m args below meth c H locs cells slots ls hA hV hR hS hl hc hs hcr hsr) (fun h => kf h p e s m args below meth c H locs cells slots ls hA hV hR hS hl hc hs hcr hsr)
theorem e_goto {off : Int} {tgt : Nat} (hd : decode M.2.1 pc = .ok (.goto off, 3)) (ht : (pc : Int) + off = (tgt : Int)) (kk : EJ X M V rc rs tgt lv st w) : EJ X M V rc rs pc lv st w := by
  intro p e s m args below meth c H locs cells slots ls hA hV hR hS hl hc hs hcr hsr
  exact lv_goto hA.1 hA.2.1 hd ht (kk p e s m args below meth c H locs cells slots ls hA hV hR hS hl hc hs hcr hsr)
theorem e_ifnull {a : Nat} {off : Int} {tgt : Nat} (hd : decode M.2.1 pc = .ok (.ifnull off, 3)) (ht : (pc : Int) + off = (tgt : Int)) (kt : a = 0 → EJ X M V rc rs tgt lv st w) (kf : ¬ a = 0 → EJ X M V rc rs (pc + 3) lv st w) : EJ X M V rc rs pc lv (vR a :: st) w := by
  intro p e s m args below meth c H locs cells slots ls hA hV hR hS hl hc hs hcr hsr
  by_cases h : a = 0
  · have h2 := kt h p e s m args below meth c H locs cells slots ls hA hV hR hS hl hc hs hcr hsr
    subst h
    exact lv_ifnullN hA.1 hA.2.1 hd ht h2
  · have e1 : tv (vR a) = .ref a := rn_ne h
    rw [List.map_cons, e1]
    exact lv_ifnull hA.1 hA.2.1 hd (kf h p e s m args below meth c H locs cells slots ls hA hV hR hS hl hc hs hcr hsr)
theorem e_ifnonnull {a : Nat} {off : Int} {tgt : Nat} (hd : decode M.2.1 pc = .ok (.ifnonnull off, 3)) (ht : (pc : Int) + off = (tgt : Int)) (kt : ¬ a = 0 → EJ X M V rc rs tgt lv st w) (kf : a = 0 → EJ X M V rc rs (pc + 3) lv st w) : EJ X M V rc rs pc lv (vR a :: st) w := by
  intro p e s m args below meth c H locs cells slots ls hA hV hR hS hl hc hs hcr hsr
  by_cases h : a = 0
  · have h2 := kf h p e s m args below meth c H locs cells slots ls hA hV hR hS hl hc hs hcr hsr
    subst h
    exact lv_ifnonnullN hA.1 hA.2.1 hd h2
  · have e1 : tv (vR a) = .ref a := rn_ne h
    rw [List.map_cons, e1]
    exact lv_ifnonnull hA.1 hA.2.1 hd ht (kt h p e s m args below meth c H locs cells slots ls hA hV hR hS hl hc hs hcr hsr)
theorem e_acmp_eq {a b : Nat} {off : Int} {tgt : Nat} (hd : decode M.2.1 pc = .ok (.if_acmp .eq off, 3)) (ht : (pc : Int) + off = (tgt : Int)) (kt : a = b → EJ X M V rc rs tgt lv st w) (kf : ¬ a = b → EJ X M V rc rs (pc + 3) lv st w) : EJ X M V rc rs pc lv (vR b :: vR a :: st) w := by
  intro p e s m args below meth c H locs cells slots ls hA hV hR hS hl hc hs hcr hsr
  exact lv_acmp_eq hA.1 hA.2.1 hd ht (fun h => kt (nz_inj.mp h) p e s m args below meth c H locs cells slots ls hA hV hR hS hl hc hs hcr hsr) (fun h => kf (fun q => h (nz_inj.mpr q)) p e s m args below meth c H locs cells slots ls hA hV hR hS hl hc hs hcr hsr)
theorem e_acmp_ne {a b : Nat} {off : Int} {tgt : Nat} (hd : decode M.2.1 pc = .ok (.if_acmp .ne off, 3)) (ht : (pc : Int) + off = (tgt : Int)) (kt : ¬ a = b → EJ X M V rc rs tgt lv st w) (kf : a = b → EJ X M V rc rs (pc + 3) lv st w) : EJ X M V rc rs pc lv (vR b :: vR a :: st) w := by
  intro p e s m args below meth c H locs cells slots ls hA hV hR hS hl hc hs hcr hsr
  exact lv_acmp_ne hA.1 hA.2.1 hd ht (fun h => kt (fun q => h (nz_inj.mpr q)) p e s m args below meth c H locs cells slots ls hA hV hR hS hl hc hs hcr hsr) (fun h => kf (nz_inj.mp (by simpa using h)) p e s m args below meth c H locs cells slots ls hA hV hR hS hl hc hs hcr hsr)
theorem e_tableOut {dflt lo hi : Int} {offs : Array Int} {len : Nat} {x : Int32} {tgt : Nat} (hd : decode M.2.1 pc = .ok (.tableswitch dflt lo hi offs, len)) (h : x.toInt < lo ∨ hi < x.toInt) (ht : (pc : Int) + dflt = (tgt : Int)) (kk : EJ X M V rc rs tgt lv st w) : EJ X M V rc rs pc lv (vI x :: st) w := by
  intro p e s m args below meth c H locs cells slots ls hA hV hR hS hl hc hs hcr hsr
  exact lv_tableOut hA.1 hA.2.1 hd h ht (kk p e s m args below meth c H locs cells slots ls hA hV hR hS hl hc hs hcr hsr)
theorem e_tableIn {dflt lo hi : Int} {offs : Array Int} {len : Nat} {x : Int32} {off : Int} {tgt : Nat} (hd : decode M.2.1 pc = .ok (.tableswitch dflt lo hi offs, len)) (h1 : ¬ x.toInt < lo) (h2 : ¬ hi < x.toInt) (ho : offs[(x.toInt - lo).toNat]? = some off) (ht : (pc : Int) + off = (tgt : Int)) (kk : EJ X M V rc rs tgt lv st w) : EJ X M V rc rs pc lv (vI x :: st) w := by
  intro p e s m args below meth c H locs cells slots ls hA hV hR hS hl hc hs hcr hsr
  exact lv_tableIn hA.1 hA.2.1 hd h1 h2 ho ht (kk p e s m args below meth c H locs cells slots ls hA hV hR hS hl hc hs hcr hsr)
end E0
end
section
/-! ===== fields, arrays, making, calls, ends ===== -/
def FL (own : String) (idx ci k : Nat) : Prop := ci < 12 ∧ k < cN ci ∧ Cond.fieldLink own idx (cT ci k).1 (cT ci k).2.1 (cT ci k).2.2.1 ∈ tb
theorem Rh.obj {X : Cx} {w : Wd} {H : Heap} (h : Rh X w H) {a ci : Nat} (hc : ci < 12) (ha : wK w a = ci + 1) : ∃ (L : List Nat) (q0 : Nat), va_P X.2.1 cls (va_pl L (wF X.2.2.1 w)) H ∧ va_D (Fr X) (va_pl L (wF X.2.2.1 w)) ∧ (∀ a, wK w a ≠ 0 → a ∈ L) ∧ a ∈ L ∧ (va_pl L (wF X.2.2.1 w))[q0]? = some (a, .inr (ci, fl w ci a)) := by
  obtain ⟨L, hP, hD, hL⟩ := h
  have ha' : a ∈ L := hL a (by omega)
  obtain ⟨k, hk⟩ := va_pl_get (X := []) (f := wF X.2.2.1 w) ha'
  rw [wF_obj ha hc] at hk
  exact ⟨L, k, hP, hD, hL, ha', hk⟩
theorem Rh.arr {X : Cx} {w : Wd} {H : Heap} (h : Rh X w H) {a t : Nat} (ht : 13 ≤ t) (ha : wK w a = t) : ∃ (L : List Nat) (q0 : Nat), va_P X.2.1 cls (va_pl L (wF X.2.2.1 w)) H ∧ va_D (Fr X) (va_pl L (wF X.2.2.1 w)) ∧ (∀ a, wK w a ≠ 0 → a ∈ L) ∧ a ∈ L ∧ (va_pl L (wF X.2.2.1 w))[q0]? = some (a, .inl (X.2.2.1 t, wL w a, ac w t a)) := by
  obtain ⟨L, hP, hD, hL⟩ := h
  have ha' : a ∈ L := hL a (by omega)
  obtain ⟨k, hk⟩ := va_pl_get (X := []) (f := wF X.2.2.1 w) ha'
  rw [wF_arr ha ht] at hk
  exact ⟨L, k, hP, hD, hL, ha', hk⟩
/-- a place of the pool gets another content -/
theorem Rh.set {X : Cx} {w w' : Wd} {H1 : Heap} {L : List Nat} {q0 a : Nat} {e e' : va_E} (hD : va_D (Fr X) (va_pl L (wF X.2.2.1 w))) (hL : ∀ a, wK w a ≠ 0 → a ∈ L) (ha : a ∈ L) (he : wF X.2.2.1 w a = e) (hk : (va_pl L (wF X.2.2.1 w))[q0]? = some (a, e))
    (hP1 : va_P X.2.1 cls ((va_pl L (wF X.2.2.1 w)).set q0 (a, e')) H1) (hD1 : va_D (Fr X) ((va_pl L (wF X.2.2.1 w)).set q0 (a, e'))) (hK : ∀ b, wK w' b = wK w b) (ho : ∀ b, b ≠ a → eqAt w w' b) (he' : wF X.2.2.1 w' a = e') : Rh X w' H1 := by
  subst he
  have hs : (va_pl L (wF X.2.2.1 w)).set q0 (a, e') = va_pl L (wF X.2.2.1 w') := by
    have h1 := va_pl_set (X := []) (e := e') hD ha hk
    have h2 := va_pl_congr (L := L) (wF_up (cy := X.2.2.1) (w := w) (w' := w') (a := a) (e := e') (fun b hb => (ho b hb).F) he')
    exact h1.trans h2
  rw [hs] at hP1 hD1
  exact ⟨L, hP1, hD1, fun b hb => hL b (by rw [← hK b]; exact hb)⟩
theorem Rh.push {X : Cx} {w w' : Wd} {H1 : Heap} {L : List Nat} {q : Nat} {e : va_E} (hL : ∀ a, wK w a ≠ 0 → a ∈ L) (hP1 : va_P X.2.1 cls (va_pl L (wF X.2.2.1 w) ++ [(q, e)]) H1) (hD1 : va_D (Fr X) (va_pl L (wF X.2.2.1 w) ++ [(q, e)])) (ho : ∀ b, b ≠ q → eqAt w w' b) (he : wF X.2.2.1 w' q = e) : Rh X w' H1 ∧ wK w q = 0 := by
  have hq : q ∉ L := va_pl_fresh2 (X := []) hD1
  have hs : va_pl L (wF X.2.2.1 w) ++ [(q, e)] = va_pl (L ++ [q]) (wF X.2.2.1 w') := by
    rw [va_pl_push hq]
    exact va_pl_congr (wF_up (fun b hb => (ho b hb).F) he)
  rw [hs] at hP1 hD1
  refine ⟨⟨L ++ [q], hP1, hD1, fun b hb => ?_⟩, ?_⟩
  · by_cases h : b = q
    · subst h; simp
    · rw [(ho b h).1] at hb
      exact List.mem_append_left _ (hL b hb)
  · by_cases h : wK w q = 0
    · exact h
    · exact absurd (hL q h) hq
theorem vaD_last {A : Nat → Prop} {ws : va_W} {x : Nat × va_E} (h : va_D A (ws ++ [x])) : A x.1 := h.2 ws.length x (by simp)
theorem fv_I {w : Wd} {ci k a : Nat} (h : fk (cY ci k) = 0) : fv w ci k a = .int (wI w ci k a) := by simp [fv, h]
theorem fv_J {w : Wd} {ci k a : Nat} (h : fk (cY ci k) = 1) : fv w ci k a = .long (wJ w ci k a) := by simp [fv, h]
theorem fv_R {w : Wd} {ci k a : Nat} (h : fk (cY ci k) = 2) : fv w ci k a = rn (wR w ci k a) := by simp [fv, h]
section E1
variable {X : Cx} {M : Me} {V : Vw} {rc rs pc : Nat} {lv : List (Nat × Av)} {st : List Av} {w : Wd}
theorem e_get {idx ci k a : Nat} {v : Av} (hd : decode M.2.1 pc = .ok (.getfield idx, 3)) (hf : FL M.1.cls idx ci k) (ha : wK w a = ci + 1) (hv : fv w ci k a = tv v) (kk : EJ X M V rc rs (pc + 3) lv (v :: st) w) : EJ X M V rc rs pc lv (vR a :: st) w := by
  intro p e s m args below meth c H locs cells slots ls hA hV hR hS hl hc hs hcr hsr
  obtain ⟨L, q0, hP, hD, hL, haL, hk⟩ := hR.obj hf.1 ha
  have hne : a ≠ 0 := hR.ne hA.2.2.2.2.2.2.2.2.2 (by omega)
  have e1 : tv (vR a) = .ref a := rn_ne hne
  have h2 := kk p e s m args below meth c H locs cells slots ls hA hV hR hS hl hc hs hcr hsr
  rw [List.map_cons] at h2 ⊢
  rw [e1]
  rw [← hv] at h2
  exact va_get hA.1 hA.2.1 hA.2.2.2.2.2.1 (cls_in ci hf.1) hA.2.2.2.2.1 hA.2.2.2.2.2.2.1.1 hP q0 hk (cls_get ci hf.1) k hf.2.1 (hA.2.2.2.2.2.1 _ hf.2.2) (fun _ h => h) (fl_get hf.2.1) hd h2
theorem e_getI {idx ci k a : Nat} (hd : decode M.2.1 pc = .ok (.getfield idx, 3)) (hf : FL M.1.cls idx ci k) (ht : fk (cY ci k) = 0) (ha : wK w a = ci + 1) (kk : EJ X M V rc rs (pc + 3) lv (vI (wI w ci k a) :: st) w) : EJ X M V rc rs pc lv (vR a :: st) w := e_get hd hf ha (fv_I ht) kk
theorem e_getJ {idx ci k a : Nat} (hd : decode M.2.1 pc = .ok (.getfield idx, 3)) (hf : FL M.1.cls idx ci k) (ht : fk (cY ci k) = 1) (ha : wK w a = ci + 1) (kk : EJ X M V rc rs (pc + 3) lv (vJ (wJ w ci k a) :: st) w) : EJ X M V rc rs pc lv (vR a :: st) w := e_get hd hf ha (fv_J ht) kk
theorem e_getR {idx ci k a : Nat} (hd : decode M.2.1 pc = .ok (.getfield idx, 3)) (hf : FL M.1.cls idx ci k) (ht : fk (cY ci k) = 2) (ha : wK w a = ci + 1) (kk : EJ X M V rc rs (pc + 3) lv (vR (wR w ci k a) :: st) w) : EJ X M V rc rs pc lv (vR a :: st) w := e_get hd hf ha (fv_R ht) kk
theorem e_put {idx ci k a : Nat} {v : Av} {w' : Wd} (hd : decode M.2.1 pc = .ok (.putfield idx, 3)) (hf : FL M.1.cls idx ci k) (hfin : (cT ci k).2.2.2 = false ∨ ((cT ci k).2.2.2 = true ∧ M.1.name = "<init>" ∧ (cT ci k).1 = M.1.cls)) (ha : wK w a = ci + 1) (hn : narrow (cY ci k) (tv v) = tv v) (hft : fits (cY ci k) (tv v) = true)
    (hK : ∀ b, wK w' b = wK w b) (ho : ∀ b, b ≠ a → eqAt w w' b) (hv : fv w' ci k a = tv v) (hj : ∀ j, j ≠ k → fv w' ci j a = fv w ci j a) (kk : EJ X M V rc rs (pc + 3) lv st w') : EJ X M V rc rs pc lv (v :: vR a :: st) w := by
  intro p e s m args below meth c H locs cells slots ls hA hV hR hS hl hc hs hcr hsr
  obtain ⟨L, q0, hP, hD, hL, haL, hk⟩ := hR.obj hf.1 ha
  have hne : a ≠ 0 := hR.ne hA.2.2.2.2.2.2.2.2.2 (by omega)
  have e1 : tv (vR a) = .ref a := rn_ne hne
  rw [List.map_cons, List.map_cons, e1]
  have go : ∀ (H1 : Heap) (locs1 : List Loc), va_P X.2.1 cls ((va_pl L (wF X.2.2.1 w)).set q0 (a, .inr (ci, (fl w ci a).set k (tv v)))) H1 → va_D (Fr X) ((va_pl L (wF X.2.2.1 w)).set q0 (a, .inr (ci, (fl w ci a).set k (tv v)))) → va_S (Fr X) X.2.2.2 H1 locs1 → W p X.1 e V.1 s m args below meth c H1 locs1 cells slots (V.2.2.2.1 below args s) (F0 m (pc + 3) ls (st.map tv)) := by
    intro H1 locs1 hP1 hD1 hS1
    have hR1 : Rh X w' H1 := Rh.set hD hL haL (wF_obj ha hf.1) hk hP1 hD1 hK ho (by rw [wF_obj (by rw [hK a]; exact ha) hf.1, fl_set hv hj])
    exact kk p e s m args below meth c H1 locs1 cells slots ls hA hV hR1 hS1 hl hc hs hcr hsr
  rcases hfin with hfin | ⟨hfin, hnm, hdecl⟩
  · exact va_put hA.1 hA.2.1 hA.2.2.2.2.2.1 (cls_in ci hf.1) (cY ci) (cls_ty ci hf.1) (cls_nm ci hf.1) hA.2.2.2.2.1 hA.2.2.2.2.2.2.1.1 hP hD hS q0 hk (cls_get ci hf.1) k hf.2.1 (hA.2.2.2.2.2.1 _ hf.2.2) (fun _ h => h) hfin (cls_ty ci hf.1 k hf.2.1) hn hft (by rw [fl_len]; exact hf.2.1) hd go
  · exact va_putF hA.1 hA.2.1 hA.2.2.2.2.2.1 (cls_in ci hf.1) (cY ci) (cls_ty ci hf.1) (cls_nm ci hf.1) hA.2.2.2.2.1 hA.2.2.2.2.2.2.1.1 hP hD hS q0 hk (cls_get ci hf.1) k hf.2.1 (hA.2.2.2.2.2.1 _ hf.2.2) (fun _ h => h) hfin (hA.2.2.2.2.2.2.2.2.1.trans hnm) hdecl (cls_ty ci hf.1 k hf.2.1) hn hft (by rw [fl_len]; exact hf.2.1) hd go
theorem e_putI {idx ci k a : Nat} {x : Int32} (hd : decode M.2.1 pc = .ok (.putfield idx, 3)) (hf : FL M.1.cls idx ci k) (hfin : (cT ci k).2.2.2 = false ∨ ((cT ci k).2.2.2 = true ∧ M.1.name = "<init>" ∧ (cT ci k).1 = M.1.cls)) (ht : cY ci k = .int) (ha : wK w a = ci + 1) (kk : EJ X M V rc rs (pc + 3) lv st (sI w ci k a x)) : EJ X M V rc rs pc lv (vI x :: vR a :: st) w := by
  refine e_put (w' := sI w ci k a x) hd hf hfin ha (by rw [ht]; rfl) (by rw [ht]; rfl) (fun _ => rfl) (fun b hb => eqAt_sI hb) ?_ (fun j hj => ?_) kk
  · rw [fv_I (by rw [ht]; rfl)]
    simp [wI, sI, u3, tv]
  · unfold fv
    simp [wI, wJ, wR, sI, u3, hj]
theorem e_putZ {idx ci k a : Nat} {x : Int32} (hd : decode M.2.1 pc = .ok (.putfield idx, 3)) (hf : FL M.1.cls idx ci k) (hfin : (cT ci k).2.2.2 = false ∨ ((cT ci k).2.2.2 = true ∧ M.1.name = "<init>" ∧ (cT ci k).1 = M.1.cls)) (ht : cY ci k = .boolean) (ha : wK w a = ci + 1) (hx : x = 0 ∨ x = 1) (kk : EJ X M V rc rs (pc + 3) lv st (sI w ci k a x)) : EJ X M V rc rs pc lv (vI x :: vR a :: st) w := by
  refine e_put (w' := sI w ci k a x) hd hf hfin ha (by rw [ht]; rcases hx with rfl | rfl <;> rfl) (by rw [ht]; rcases hx with rfl | rfl <;> rfl) (fun _ => rfl) (fun b hb => eqAt_sI hb) ?_ (fun j hj => ?_) kk
  · rw [fv_I (by rw [ht]; rfl)]
    simp [wI, sI, u3, tv]
  · unfold fv
    simp [wI, wJ, wR, sI, u3, hj]
theorem e_putJ {idx ci k a : Nat} {x : Int64} (hd : decode M.2.1 pc = .ok (.putfield idx, 3)) (hf : FL M.1.cls idx ci k) (hfin : (cT ci k).2.2.2 = false ∨ ((cT ci k).2.2.2 = true ∧ M.1.name = "<init>" ∧ (cT ci k).1 = M.1.cls)) (ht : cY ci k = .long) (ha : wK w a = ci + 1) (kk : EJ X M V rc rs (pc + 3) lv st (sJ w ci k a x)) : EJ X M V rc rs pc lv (vJ x :: vR a :: st) w := by
  refine e_put (w' := sJ w ci k a x) hd hf hfin ha (by rw [ht]; rfl) (by rw [ht]; rfl) (fun _ => rfl) (fun b hb => eqAt_sJ hb) ?_ (fun j hj => ?_) kk
  · rw [fv_J (by rw [ht]; rfl)]
    simp [wJ, sJ, u3, tv]
  · unfold fv
    simp [wI, wJ, wR, sJ, u3, hj]
theorem nf_R {t : FieldType} (h : fk t = 2) (a : Nat) : narrow t (rn a) = rn a ∧ fits t (rn a) = true := by
  by_cases ha : a = 0
  · subst ha
    cases t <;> first | exact ⟨rfl, rfl⟩ | cases h
  · rw [rn_ne ha]
    cases t <;> first | exact ⟨rfl, rfl⟩ | cases h
theorem e_putR {idx ci k a : Nat} {x : Nat} (hd : decode M.2.1 pc = .ok (.putfield idx, 3)) (hf : FL M.1.cls idx ci k) (hfin : (cT ci k).2.2.2 = false ∨ ((cT ci k).2.2.2 = true ∧ M.1.name = "<init>" ∧ (cT ci k).1 = M.1.cls)) (ht : fk (cY ci k) = 2) (ha : wK w a = ci + 1) (kk : EJ X M V rc rs (pc + 3) lv st (sR w ci k a x)) : EJ X M V rc rs pc lv (vR x :: vR a :: st) w := by
  refine e_put (w' := sR w ci k a x) hd hf hfin ha (nf_R ht x).1 (nf_R ht x).2 (fun _ => rfl) (fun b hb => eqAt_sR hb) ?_ (fun j hj => ?_) kk
  · rw [fv_R ht]
    simp [wR, sR, u3, tv]
  · unfold fv
    simp [wI, wJ, wR, sR, u3, hj]
theorem e_alen {a t : Nat} (hd : decode M.2.1 pc = .ok (.arraylength, 1)) (ht1 : 13 ≤ t) (ht2 : t < 19) (ha : wK w a = t) (kk : EJ X M V rc rs (pc + 1) lv (vI (Int32.ofNat (wL w a)) :: st) w) : EJ X M V rc rs pc lv (vR a :: st) w := by
  intro p e s m args below meth c H locs cells slots ls hA hV hR hS hl hc hs hcr hsr
  obtain ⟨L, q0, hP, hD, hL, haL, hk⟩ := hR.arr ht1 ha
  have hne : a ≠ 0 := hR.ne hA.2.2.2.2.2.2.2.2.2 (by omega)
  have e1 : tv (vR a) = .ref a := rn_ne hne
  rw [List.map_cons, e1]
  exact va_alen hA.1 hA.2.1 hA.2.2.2.2.2.2.1.1 hP q0 (t - 13) hk (tysX_get X t ht1 ht2) rfl hd (kk p e s m args below meth c H locs cells slots ls hA hV hR hS hl hc hs hcr hsr)

theorem e_iald {a : Nat} {i : Int32} (hd : decode M.2.1 pc = .ok (.iaload, 1)) (ha : wK w a = 13) (hi : vp_in i (wL w a)) (kk : EJ X M V rc rs (pc + 1) lv (vI (xI w a i.toNatClampNeg) :: st) w) : EJ X M V rc rs pc lv (vI i :: vR a :: st) w := by
  intro p e s m args below meth c H locs cells slots ls hA hV hR hS hl hc hs hcr hsr
  obtain ⟨L, q0, hP, hD, hL, haL, hk⟩ := hR.arr (by omega) ha
  have hne : a ≠ 0 := hR.ne hA.2.2.2.2.2.2.2.2.2 (by omega)
  have e1 : tv (vR a) = .ref a := rn_ne hne
  rw [List.map_cons, List.map_cons, e1]
  exact va_iald hA.1 hA.2.1 hA.2.2.2.2.2.2.1.1 hP q0 (13 - 13) hk (tysX_get X 13 (by omega) (by omega)) hi hd (kk p e s m args below meth c H locs cells slots ls hA hV hR hS hl hc hs hcr hsr)
theorem e_zald {a : Nat} {i : Int32} (hd : decode M.2.1 pc = .ok (.baload, 1)) (ha : wK w a = 15) (hi : vp_in i (wL w a)) (kk : EJ X M V rc rs (pc + 1) lv (vI (xI w a i.toNatClampNeg) :: st) w) : EJ X M V rc rs pc lv (vI i :: vR a :: st) w := by
  intro p e s m args below meth c H locs cells slots ls hA hV hR hS hl hc hs hcr hsr
  obtain ⟨L, q0, hP, hD, hL, haL, hk⟩ := hR.arr (by omega) ha
  have hne : a ≠ 0 := hR.ne hA.2.2.2.2.2.2.2.2.2 (by omega)
  have e1 : tv (vR a) = .ref a := rn_ne hne
  rw [List.map_cons, List.map_cons, e1]
  exact va_zald hA.1 hA.2.1 hA.2.2.2.2.2.2.1.1 hP q0 (15 - 13) hk (tysX_get X 15 (by omega) (by omega)) hi hd (kk p e s m args below meth c H locs cells slots ls hA hV hR hS hl hc hs hcr hsr)
theorem e_lald {a : Nat} {i : Int32} (hd : decode M.2.1 pc = .ok (.laload, 1)) (ha : wK w a = 14) (hi : vp_in i (wL w a)) (kk : EJ X M V rc rs (pc + 1) lv (vJ (xJ w a i.toNatClampNeg) :: st) w) : EJ X M V rc rs pc lv (vI i :: vR a :: st) w := by
  intro p e s m args below meth c H locs cells slots ls hA hV hR hS hl hc hs hcr hsr
  obtain ⟨L, q0, hP, hD, hL, haL, hk⟩ := hR.arr (by omega) ha
  have hne : a ≠ 0 := hR.ne hA.2.2.2.2.2.2.2.2.2 (by omega)
  have e1 : tv (vR a) = .ref a := rn_ne hne
  rw [List.map_cons, List.map_cons, e1]
  exact va_lald hA.1 hA.2.1 hA.2.2.2.2.2.2.1.1 hP q0 (14 - 13) hk (tysX_get X 14 (by omega) (by omega)) hi hd (kk p e s m args below meth c H locs cells slots ls hA hV hR hS hl hc hs hcr hsr)
theorem e_aald {a t : Nat} {i : Int32} (hd : decode M.2.1 pc = .ok (.aaload, 1)) (ht1 : 16 ≤ t) (ht2 : t < 19) (ha : wK w a = t) (hi : vp_in i (wL w a)) (kk : EJ X M V rc rs (pc + 1) lv (vR (xR w a i.toNatClampNeg) :: st) w) : EJ X M V rc rs pc lv (vI i :: vR a :: st) w := by
  intro p e s m args below meth c H locs cells slots ls hA hV hR hS hl hc hs hcr hsr
  obtain ⟨L, q0, hP, hD, hL, haL, hk⟩ := hR.arr (by omega) ha
  have hne : a ≠ 0 := hR.ne hA.2.2.2.2.2.2.2.2.2 (by omega)
  have e1 : tv (vR a) = .ref a := rn_ne hne
  rw [List.map_cons, List.map_cons, e1]
  have hac : ac w t a = .inr (.inr (.inr (.inr (fun i => nz (xR w a i))))) := by unfold ac; rw [if_neg (by omega), if_neg (by omega)]
  rw [hac] at hk
  have htt := tysX_get X t (by omega) ht2
  have h2 := kk p e s m args below meth c H locs cells slots ls hA hV hR hS hl hc hs hcr hsr
  match t, ht1, ht2, htt, hk with
  | 16, _, _, htt, hk => exact va_aldq hA.1 hA.2.1 hA.2.2.2.2.2.2.1.1 hP q0 3 hk htt hi hd h2
  | 17, _, _, htt, hk => exact va_aldq hA.1 hA.2.1 hA.2.2.2.2.2.2.1.1 hP q0 4 hk htt hi hd h2
  | 18, _, _, htt, hk => exact va_aldq hA.1 hA.2.1 hA.2.2.2.2.2.2.1.1 hP q0 5 hk htt hi hd h2
  | n + 19, _, h, _, _ => exact absurd h (by omega)
theorem e_iast {a : Nat} {i : Int32} {x : Int32} (hd : decode M.2.1 pc = .ok (.iastore, 1)) (ha : wK w a = 13) (hi : vp_in i (wL w a)) (kk : EJ X M V rc rs (pc + 1) lv st (yI w a i.toNatClampNeg x)) : EJ X M V rc rs pc lv (vI x :: vI i :: vR a :: st) w := by
  intro p e s m args below meth c H locs cells slots ls hA hV hR hS hl hc hs hcr hsr
  obtain ⟨L, q0, hP, hD, hL, haL, hk⟩ := hR.arr (by omega) ha
  have hne : a ≠ 0 := hR.ne hA.2.2.2.2.2.2.2.2.2 (by omega)
  have e1 : tv (vR a) = .ref a := rn_ne hne
  rw [List.map_cons, List.map_cons, List.map_cons, e1]
  refine va_iast hA.1 hA.2.1 hA.2.2.2.2.2.2.1.1 hP hD hS q0 (13 - 13) hk (tysX_get X 13 (by omega) (by omega)) hi hd (fun H1 locs1 hP1 hD1 hS1 => ?_)
  have hR1 : Rh X (yI w a i.toNatClampNeg x) H1 := by
    refine Rh.set hD hL haL (wF_arr ha (by omega)) hk hP1 hD1 (fun _ => rfl) (fun b hb => eqAt_yI hb) ?_
    rw [wF_arr (show wK (yI w a i.toNatClampNeg x) a = 13 from ha) (by omega)]
    have hx : xI (yI w a i.toNatClampNeg x) a = upd (xI w a) i.toNatClampNeg x := by
      funext j
      by_cases hj : j = i.toNatClampNeg <;> simp [xI, yI, u2, upd, hj]
    show Sum.inl (_, _, ac (yI w a i.toNatClampNeg x) 13 a) = _
    unfold ac
    simp [hx]
    rfl
  exact kk p e s m args below meth c H1 locs1 cells slots ls hA hV hR1 hS1 hl hc hs hcr hsr
theorem e_zast {a : Nat} {i : Int32} {x : Int32} (hd : decode M.2.1 pc = .ok (.bastore, 1)) (ha : wK w a = 15) (hi : vp_in i (wL w a)) (kk : EJ X M V rc rs (pc + 1) lv st (yI w a i.toNatClampNeg (vp_nar .boolean x))) : EJ X M V rc rs pc lv (vI x :: vI i :: vR a :: st) w := by
  intro p e s m args below meth c H locs cells slots ls hA hV hR hS hl hc hs hcr hsr
  obtain ⟨L, q0, hP, hD, hL, haL, hk⟩ := hR.arr (by omega) ha
  have hne : a ≠ 0 := hR.ne hA.2.2.2.2.2.2.2.2.2 (by omega)
  have e1 : tv (vR a) = .ref a := rn_ne hne
  rw [List.map_cons, List.map_cons, List.map_cons, e1]
  refine va_zast hA.1 hA.2.1 hA.2.2.2.2.2.2.1.1 hP hD hS q0 (15 - 13) hk (tysX_get X 15 (by omega) (by omega)) hi hd (fun H1 locs1 hP1 hD1 hS1 => ?_)
  have hR1 : Rh X (yI w a i.toNatClampNeg (vp_nar .boolean x)) H1 := by
    refine Rh.set hD hL haL (wF_arr ha (by omega)) hk hP1 hD1 (fun _ => rfl) (fun b hb => eqAt_yI hb) ?_
    rw [wF_arr (show wK (yI w a i.toNatClampNeg (vp_nar .boolean x)) a = 15 from ha) (by omega)]
    have hx : xI (yI w a i.toNatClampNeg (vp_nar .boolean x)) a = upd (xI w a) i.toNatClampNeg (vp_nar .boolean x) := by
      funext j
      by_cases hj : j = i.toNatClampNeg <;> simp [xI, yI, u2, upd, hj]
    show Sum.inl (_, _, ac (yI w a i.toNatClampNeg (vp_nar .boolean x)) 15 a) = _
    unfold ac
    simp [hx]
    rfl
  exact kk p e s m args below meth c H1 locs1 cells slots ls hA hV hR1 hS1 hl hc hs hcr hsr
theorem e_last {a : Nat} {i : Int32} {x : Int64} (hd : decode M.2.1 pc = .ok (.lastore, 1)) (ha : wK w a = 14) (hi : vp_in i (wL w a)) (kk : EJ X M V rc rs (pc + 1) lv st (yJ w a i.toNatClampNeg x)) : EJ X M V rc rs pc lv (vJ x :: vI i :: vR a :: st) w := by
  intro p e s m args below meth c H locs cells slots ls hA hV hR hS hl hc hs hcr hsr
  obtain ⟨L, q0, hP, hD, hL, haL, hk⟩ := hR.arr (by omega) ha
  have hne : a ≠ 0 := hR.ne hA.2.2.2.2.2.2.2.2.2 (by omega)
  have e1 : tv (vR a) = .ref a := rn_ne hne
  rw [List.map_cons, List.map_cons, List.map_cons, e1]
  refine va_last hA.1 hA.2.1 hA.2.2.2.2.2.2.1.1 hP hD hS q0 (14 - 13) hk (tysX_get X 14 (by omega) (by omega)) hi hd (fun H1 locs1 hP1 hD1 hS1 => ?_)
  have hR1 : Rh X (yJ w a i.toNatClampNeg x) H1 := by
    refine Rh.set hD hL haL (wF_arr ha (by omega)) hk hP1 hD1 (fun _ => rfl) (fun b hb => eqAt_yJ hb) ?_
    rw [wF_arr (show wK (yJ w a i.toNatClampNeg x) a = 14 from ha) (by omega)]
    have hx : xJ (yJ w a i.toNatClampNeg x) a = vp_updL (xJ w a) i.toNatClampNeg x := by
      funext j
      by_cases hj : j = i.toNatClampNeg <;> simp [xJ, yJ, u2, vp_updL, hj]
    show Sum.inl (_, _, ac (yJ w a i.toNatClampNeg x) 14 a) = _
    unfold ac
    simp [hx]
    rfl
  exact kk p e s m args below meth c H1 locs1 cells slots ls hA hV hR1 hS1 hl hc hs hcr hsr
theorem e_aast {a t v ci : Nat} {i : Int32} (hd : decode M.2.1 pc = .ok (.aastore, 1)) (ht : (t = 16 ∧ ci = 0) ∨ (t = 17 ∧ ci = 2) ∨ (t = 18 ∧ ci = 3)) (ha : wK w a = t) (hv : wK w v = ci + 1) (hi : vp_in i (wL w a)) (kk : EJ X M V rc rs (pc + 1) lv st (yR w a i.toNatClampNeg v)) : EJ X M V rc rs pc lv (vR v :: vI i :: vR a :: st) w := by
  intro p e s m args below meth c H locs cells slots ls hA hV hR hS hl hc hs hcr hsr
  obtain ⟨L, q0, hP, hD, hL, haL, hk⟩ := hR.arr (by omega) ha
  have hne : a ≠ 0 := hR.ne hA.2.2.2.2.2.2.2.2.2 (by omega)
  have hnv : v ≠ 0 := hR.ne hA.2.2.2.2.2.2.2.2.2 (by omega)
  have e1 : tv (vR a) = .ref a := rn_ne hne
  have e2 : tv (vR v) = .ref v := rn_ne hnv
  obtain ⟨qk, hkv⟩ := va_pl_get (X := []) (f := wF X.2.2.1 w) (hL v (by omega))
  rw [wF_obj hv (by omega)] at hkv
  rw [List.map_cons, List.map_cons, List.map_cons, e1, e2]
  have hac : ac w t a = .inr (.inr (.inr (.inr (fun i => nz (xR w a i))))) := by unfold ac; rw [if_neg (by omega), if_neg (by omega)]
  have hk' := hk
  rw [hac] at hk'
  have go : ∀ (H1 : Heap) (locs1 : List Loc), va_P X.2.1 cls ((va_pl L (wF X.2.2.1 w)).set q0 (a, .inl (X.2.2.1 t, wL w a, .inr (.inr (.inr (.inr (va_up (fun i => nz (xR w a i)) i.toNatClampNeg (some v)))))))) H1 → va_D (Fr X) ((va_pl L (wF X.2.2.1 w)).set q0 (a, .inl (X.2.2.1 t, wL w a, .inr (.inr (.inr (.inr (va_up (fun i => nz (xR w a i)) i.toNatClampNeg (some v)))))))) → va_S (Fr X) X.2.2.2 H1 locs1 → W p X.1 e V.1 s m args below meth c H1 locs1 cells slots (V.2.2.2.1 below args s) (F0 m (pc + 1) ls (st.map tv)) := by
    intro H1 locs1 hP1 hD1 hS1
    have hR1 : Rh X (yR w a i.toNatClampNeg v) H1 := by
      refine Rh.set hD hL haL (wF_arr ha (by omega)) hk hP1 hD1 (fun _ => rfl) (fun b hb => eqAt_yR hb) ?_
      rw [wF_arr (show wK (yR w a i.toNatClampNeg v) a = t from ha) (by omega)]
      have hx : (fun j => nz (xR (yR w a i.toNatClampNeg v) a j)) = va_up (fun i => nz (xR w a i)) i.toNatClampNeg (some v) := by
        funext j
        by_cases hj : j = i.toNatClampNeg <;> simp [xR, yR, u2, va_up, hj, nz_ne hnv]
      show Sum.inl (_, _, ac (yR w a i.toNatClampNeg v) t a) = _
      unfold ac
      rw [if_neg (by omega), if_neg (by omega), hx]
      rfl
    exact kk p e s m args below meth c H1 locs1 cells slots ls hA hV hR1 hS1 hl hc hs hcr hsr
  rcases ht with ⟨rfl, rfl⟩ | ⟨rfl, rfl⟩ | ⟨rfl, rfl⟩
  · exact va_astq (r := (RX0, TX0, 2)) hA.1 hA.2.1 hA.2.2.2.2.2.2.1.1 hP hD hS q0 3 qk 0 hk' rfl hkv rfl hi hd go
  · exact va_astq (r := (RX2, TX2, 13)) hA.1 hA.2.1 hA.2.2.2.2.2.2.1.1 hP hD hS q0 4 qk 2 hk' rfl hkv rfl hi hd go
  · exact va_astq (r := (RX3, TX3, 5)) hA.1 hA.2.1 hA.2.2.2.2.2.2.1.1 hP hD hS q0 5 qk 3 hk' rfl hkv rfl hi hd go
def dv (t : FieldType) : Value := match fk t with
  | 1 => .long 0
  | 2 => .null
  | _ => .int 0
theorem e_new {idx ci : Nat} (hd : decode M.2.1 pc = .ok (.new idx, 3)) (hc12 : ci < 12) (hcl : Cond.classLink M.1.cls idx (cR ci) ∈ tb) (hdv : ∀ j, j < cN ci → defaultValue (cY ci j) = dv (cY ci j)) {rc' rs' : Nat} (h1 : rc = rc' + 1) (h2 : rs = rs' + cN ci) (kk : ∀ q : Nat, wK w q = 0 → q ≠ 0 → EJ X M V rc' rs' (pc + 3) lv (vR q :: st) (nO w ci q)) : EJ X M V rc rs pc lv st w := by
  intro p e s m args below meth c H locs cells slots ls hA hV hR hS hl hc hs hcr hsr
  obtain ⟨L, hP, hD, hL⟩ := hR
  subst h1 h2
  refine va_new (ci := ci) (fs := (List.range (cN ci)).map (fun k => dv (cY ci k))) hA.1 hA.2.1 hA.2.2.2.2.2.1 (cls_in ci hc12) (cY ci) (cls_ty ci hc12) hA.2.2.2.2.1 (hA.2.2.2.2.2.1 _ hcl) (hA.2.2.2.2.2.1 _ (cls_inst ci hc12).1) (hA.2.2.2.2.2.1 _ (cls_inst ci hc12).2) hA.2.2.2.2.2.2.1.1 hP hD hS (fun _ h => h) (cls_get ci hc12) (fun j hj => by rw [hdv j hj]; simp [vp_V, hj]) (by omega) (by omega) hd (fun q H1 hP1 hD1 hS1 => ?_)
  have hq0 : q ≠ 0 := by
    have h3 : Fr X q := vaD_last hD1
    have h4 := hA.2.2.2.2.2.2.2.2.2
    intro e1
    subst e1
    exact absurd h3 (by show ¬ X.2.2.2.size ≤ 0; omega)
  have hF : wF X.2.2.1 (nO w ci q) q = .inr (ci, (List.range (cN ci)).map (fun k => dv (cY ci k))) := by
    rw [wF_obj (by simp [wK, nO, va_up]) hc12]
    congr 2
    unfold fl
    apply List.map_congr_left
    intro k hk
    unfold fv dv
    have e0 : rn 0 = Value.null := rfl
    split <;> simp_all [wI, wJ, wR, nO, z3]
  obtain ⟨hR1, hq⟩ := Rh.push hL hP1 hD1 (fun b hb => eqAt_nO hb) hF
  have e1 : tv (vR q) = .ref q := rn_ne hq0
  have h5 := kk q hq hq0 p e s m args below meth c H1 locs (cells + 1) (slots + cN ci) ls hA hV hR1 hS1 hl (by omega) (by omega) hcr hsr
  rw [List.map_cons, e1] at h5
  exact h5
theorem RA_inj {U : State} {c1 c2 : ClassId} {ty : FieldType} (h1 : va_RA U c1 ty) (h2 : va_RA U c2 ty) : c1 = c2 := by
  cases ty with
  | object C =>
    obtain ⟨_, _, _, _, _, a⟩ := h1
    obtain ⟨_, _, _, _, _, b⟩ := h2
    rw [a] at b
    exact Option.some.inj b
  | _ =>
    have a : U.vm.findClass _ = some c1 := h1
    have b : U.vm.findClass _ = some c2 := h2
    rw [a] at b
    exact Option.some.inj b

theorem e_newI {n : Int32} {N : Nat} (hd : decode M.2.1 pc = .ok (.newarray .int, 2)) (hn : ¬ n < 0) (hN : n.toNatClampNeg = N) (hb : N ≤ 60000) {rc' rs' : Nat} (h1 : rc = rc' + 1) (h2 : rs = rs' + N) (kk : ∀ q : Nat, wK w q = 0 → q ≠ 0 → EJ X M V rc' rs' (pc + 2) lv (vR q :: st) (nA w 13 q N)) : EJ X M V rc rs pc lv (vI n :: st) w := by
  intro p e s m args below meth c H locs cells slots ls hA hV hR hS hl hc hs hcr hsr
  obtain ⟨L, hP, hD, hL⟩ := hR
  subst h1 h2
  refine va_newa (atype := .int) (ty := .int) (a0 := (N, .inl (fun _ => 0))) hA.1 hA.2.1 (hA.2.2.2.2.2.1 (Cond.arrayClass .int) (tb_of (by decide +kernel) rfl)) rfl hA.2.2.2.2.2.2.1.1 hP hD hS (fun _ h => h) (fun cA => rfl) hn hN (by simp [componentBytes]; omega) (by omega) (by omega) hd (fun q cA H1 hK1 hP1 hD1 hS1 => ?_)
  have hq0 : q ≠ 0 := by
    have h3 : Fr X q := vaD_last hD1
    have h4 := hA.2.2.2.2.2.2.2.2.2
    intro e1
    subst e1
    exact absurd h3 (by show ¬ X.2.2.2.size ≤ 0; omega)
  have hcA : cA = X.2.2.1 13 := RA_inj (hK1.2 6 (cA, .int) rfl).2 (hA.2.2.2.2.2.2.1.1.2 (13 - 13) _ (tysX_get X 13 (by omega) (by omega))).2
  subst hcA
  have hF : wF X.2.2.1 (nA w 13 q N) q = .inl (X.2.2.1 13, (N, .inl (fun _ => 0))) := by
    rw [wF_arr (t := 13) (by simp [wK, nA, va_up]) (by omega)]
    congr 2
    refine Prod.ext (by simp [wL, nA, va_up]) ?_
    have hi : xI (nA w 13 q N) q = fun _ => 0 := by funext j; simp [xI, nA, z2]
    have hj : xJ (nA w 13 q N) q = fun _ => 0 := by funext j; simp [xJ, nA, z2]
    show ac (nA w 13 q N) 13 q = _
    unfold ac
    simp [hi, hj]
  obtain ⟨hR1, hq⟩ := Rh.push hL hP1 hD1 (fun b hb => eqAt_nA hb) hF
  have e1 : tv (vR q) = .ref q := rn_ne hq0
  have h5 := kk q hq hq0 p e s m args below meth c H1 locs (cells + 1) (slots + N) ls hA hV hR1 hS1 hl (by omega) (by omega) hcr hsr
  rw [List.map_cons, e1] at h5
  exact h5
theorem e_newJ {n : Int32} {N : Nat} (hd : decode M.2.1 pc = .ok (.newarray .long, 2)) (hn : ¬ n < 0) (hN : n.toNatClampNeg = N) (hb : N ≤ 60000) {rc' rs' : Nat} (h1 : rc = rc' + 1) (h2 : rs = rs' + N) (kk : ∀ q : Nat, wK w q = 0 → q ≠ 0 → EJ X M V rc' rs' (pc + 2) lv (vR q :: st) (nA w 14 q N)) : EJ X M V rc rs pc lv (vI n :: st) w := by
  intro p e s m args below meth c H locs cells slots ls hA hV hR hS hl hc hs hcr hsr
  obtain ⟨L, hP, hD, hL⟩ := hR
  subst h1 h2
  refine va_newa (atype := .long) (ty := .long) (a0 := (N, .inr (.inl (fun _ => 0)))) hA.1 hA.2.1 (hA.2.2.2.2.2.1 (Cond.arrayClass .long) (tb_of (by decide +kernel) rfl)) rfl hA.2.2.2.2.2.2.1.1 hP hD hS (fun _ h => h) (fun cA => rfl) hn hN (by simp [componentBytes]; omega) (by omega) (by omega) hd (fun q cA H1 hK1 hP1 hD1 hS1 => ?_)
  have hq0 : q ≠ 0 := by
    have h3 : Fr X q := vaD_last hD1
    have h4 := hA.2.2.2.2.2.2.2.2.2
    intro e1
    subst e1
    exact absurd h3 (by show ¬ X.2.2.2.size ≤ 0; omega)
  have hcA : cA = X.2.2.1 14 := RA_inj (hK1.2 6 (cA, .long) rfl).2 (hA.2.2.2.2.2.2.1.1.2 (14 - 13) _ (tysX_get X 14 (by omega) (by omega))).2
  subst hcA
  have hF : wF X.2.2.1 (nA w 14 q N) q = .inl (X.2.2.1 14, (N, .inr (.inl (fun _ => 0)))) := by
    rw [wF_arr (t := 14) (by simp [wK, nA, va_up]) (by omega)]
    congr 2
    refine Prod.ext (by simp [wL, nA, va_up]) ?_
    have hi : xI (nA w 14 q N) q = fun _ => 0 := by funext j; simp [xI, nA, z2]
    have hj : xJ (nA w 14 q N) q = fun _ => 0 := by funext j; simp [xJ, nA, z2]
    show ac (nA w 14 q N) 14 q = _
    unfold ac
    simp [hi, hj]
  obtain ⟨hR1, hq⟩ := Rh.push hL hP1 hD1 (fun b hb => eqAt_nA hb) hF
  have e1 : tv (vR q) = .ref q := rn_ne hq0
  have h5 := kk q hq hq0 p e s m args below meth c H1 locs (cells + 1) (slots + N) ls hA hV hR1 hS1 hl (by omega) (by omega) hcr hsr
  rw [List.map_cons, e1] at h5
  exact h5
theorem e_newZ {n : Int32} {N : Nat} (hd : decode M.2.1 pc = .ok (.newarray .boolean, 2)) (hn : ¬ n < 0) (hN : n.toNatClampNeg = N) (hb : N ≤ 60000) {rc' rs' : Nat} (h1 : rc = rc' + 1) (h2 : rs = rs' + N) (kk : ∀ q : Nat, wK w q = 0 → q ≠ 0 → EJ X M V rc' rs' (pc + 2) lv (vR q :: st) (nA w 15 q N)) : EJ X M V rc rs pc lv (vI n :: st) w := by
  intro p e s m args below meth c H locs cells slots ls hA hV hR hS hl hc hs hcr hsr
  obtain ⟨L, hP, hD, hL⟩ := hR
  subst h1 h2
  refine va_newa (atype := .boolean) (ty := .boolean) (a0 := (N, .inl (fun _ => 0))) hA.1 hA.2.1 (hA.2.2.2.2.2.1 (Cond.arrayClass .boolean) (tb_of (by decide +kernel) rfl)) rfl hA.2.2.2.2.2.2.1.1 hP hD hS (fun _ h => h) (fun cA => rfl) hn hN (by simp [componentBytes]; omega) (by omega) (by omega) hd (fun q cA H1 hK1 hP1 hD1 hS1 => ?_)
  have hq0 : q ≠ 0 := by
    have h3 : Fr X q := vaD_last hD1
    have h4 := hA.2.2.2.2.2.2.2.2.2
    intro e1
    subst e1
    exact absurd h3 (by show ¬ X.2.2.2.size ≤ 0; omega)
  have hcA : cA = X.2.2.1 15 := RA_inj (hK1.2 6 (cA, .boolean) rfl).2 (hA.2.2.2.2.2.2.1.1.2 (15 - 13) _ (tysX_get X 15 (by omega) (by omega))).2
  subst hcA
  have hF : wF X.2.2.1 (nA w 15 q N) q = .inl (X.2.2.1 15, (N, .inl (fun _ => 0))) := by
    rw [wF_arr (t := 15) (by simp [wK, nA, va_up]) (by omega)]
    congr 2
    refine Prod.ext (by simp [wL, nA, va_up]) ?_
    have hi : xI (nA w 15 q N) q = fun _ => 0 := by funext j; simp [xI, nA, z2]
    have hj : xJ (nA w 15 q N) q = fun _ => 0 := by funext j; simp [xJ, nA, z2]
    show ac (nA w 15 q N) 15 q = _
    unfold ac
    simp [hi, hj]
  obtain ⟨hR1, hq⟩ := Rh.push hL hP1 hD1 (fun b hb => eqAt_nA hb) hF
  have e1 : tv (vR q) = .ref q := rn_ne hq0
  have h5 := kk q hq hq0 p e s m args below meth c H1 locs (cells + 1) (slots + N) ls hA hV hR1 hS1 hl (by omega) (by omega) hcr hsr
  rw [List.map_cons, e1] at h5
  exact h5
theorem e_newR {idx t : Nat} {C : String} {n : Int32} {N : Nat} (hd : decode M.2.1 pc = .ok (.anewarray idx, 3)) (ht : (t = 16 ∧ C = RX0) ∨ (t = 17 ∧ C = RX2) ∨ (t = 18 ∧ C = RX3)) (hcl : Cond.classLink M.1.cls idx C ∈ tb) (hn : ¬ n < 0) (hN : n.toNatClampNeg = N) (hb : N ≤ 60000) {rc' rs' : Nat} (h1 : rc = rc' + 1) (h2 : rs = rs' + N) (kk : ∀ q : Nat, wK w q = 0 → q ≠ 0 → EJ X M V rc' rs' (pc + 3) lv (vR q :: st) (nA w t q N)) : EJ X M V rc rs pc lv (vI n :: st) w := by
  intro p e s m args below meth c H locs cells slots ls hA hV hR hS hl hc hs hcr hsr
  obtain ⟨L, hP, hD, hL⟩ := hR
  subst h1 h2
  have AO := hA.2.2.2.2.2.2.1.2
  refine va_newq (C := C) hA.1 hA.2.1 hA.2.2.2.2.1 (hA.2.2.2.2.2.1 _ hcl) (ht.elim (fun q => by rw [q.2]; exact AO.1) (fun q => q.elim (fun q => by rw [q.2]; exact AO.2.1) (fun q => by rw [q.2]; exact AO.2.2))) hA.2.2.2.2.2.2.1.1 hP hD hS (fun _ h => h) hn hN (by omega) (by omega) (by omega) hd (fun q cA H1 hK1 hP1 hD1 hS1 => ?_)
  have hq0 : q ≠ 0 := by
    have h3 : Fr X q := vaD_last hD1
    have h4 := hA.2.2.2.2.2.2.2.2.2
    intro e1
    subst e1
    exact absurd h3 (by show ¬ X.2.2.2.size ≤ 0; omega)
  have hcA : cA = X.2.2.1 t := by
    have a1 := (hK1.2 6 (cA, .object C) rfl).2
    have a2 := (hA.2.2.2.2.2.2.1.1.2 (t - 13) _ (tysX_get X t (by omega) (by omega))).2
    rcases ht with ⟨rfl, rfl⟩ | ⟨rfl, rfl⟩ | ⟨rfl, rfl⟩ <;> exact RA_inj a1 a2
  subst hcA
  have hF : wF X.2.2.1 (nA w t q N) q = .inl (X.2.2.1 t, (N, .inr (.inr (.inr (.inr (fun _ => none)))))) := by
    rw [wF_arr (t := t) (by simp [wK, nA, va_up]) (by omega)]
    congr 2
    refine Prod.ext (by simp [wL, nA, va_up]) ?_
    have hr : (fun i => nz (xR (nA w t q N) q i)) = fun _ => none := by funext j; simp [xR, nA, z2, nz]
    show ac (nA w t q N) t q = _
    unfold ac
    rw [if_neg (by omega), if_neg (by omega), hr]
  obtain ⟨hR1, hq⟩ := Rh.push hL hP1 hD1 (fun b hb => eqAt_nA hb) hF
  have e1 : tv (vR q) = .ref q := rn_ne hq0
  have h5 := kk q hq hq0 p e s m args below meth c H1 locs (cells + 1) (slots + N) ls hA hV hR1 hS1 hl (by omega) (by omega) hcr hsr
  rw [List.map_cons, e1] at h5
  exact h5
end E1
end
section
/-! ===== contracts, calls, ends ===== -/
theorem tbl_goodIn {ws : List Cond} (h : ∀ w ∈ ws, w ∈ tb) : GoodIn tb ws := fun w hw => ⟨h w hw, good_of_word (List.mem_filter.mp (h w hw)).2⟩
def PcW (X : Cx) (w : Wd) (U : State) : Prop := Rh X w U.heap ∧ va_S (Fr X) X.2.2.2 U.heap [] ∧ KK X U ∧ 0 < X.2.2.2.size
abbrev cdW (M : Me) : Cond := .code M.1 M.2.1 M.2.2.1 M.2.2.2
/-- a contract: from world w with these arguments the method comes to an end with Q -/
def Ct (X : Cx) (B : Bu) (M : Me) (as : List Av) (w : Wd) (Q : Option Av → Wd → Prop) : Prop :=
  Met X.1 M.1 (cdW M :: tb) (rmO B) (va_Pc (as.map tv) (PcW X w)) (Qw X Q) B.2.1 B.2.2 (Fr X)
def qI (A : Int32 → Wd → Prop) : Option Av → Wd → Prop := fun r w => ∃ x, r = some (vI x) ∧ A x w
def qJ (A : Int64 → Wd → Prop) : Option Av → Wd → Prop := fun r w => ∃ x, r = some (vJ x) ∧ A x w
def qR (A : Nat → Wd → Prop) : Option Av → Wd → Prop := fun r w => ∃ x, r = some (vR x) ∧ A x w
def qV (A : Wd → Prop) : Option Av → Wd → Prop := fun r w => r = none ∧ A w
theorem Ct.mono {X : Cx} {B : Bu} {M : Me} {as : List Av} {w : Wd} {Q Q' : Option Av → Wd → Prop} (h : Ct X B M as w Q) (hq : ∀ r w', Q r w' → Q' r w') : Ct X B M as w Q' := by
  unfold Ct Met MetFree at *
  intro p e h1 h2 h3 s m args below h4 h5 h6 h7
  obtain ⟨k, oc, a1, a2, a3, ⟨⟨r, w', b1, b2, b3⟩, hF⟩⟩ := h p e h1 h2 h3 s m args below h4 h5 h6 h7
  exact ⟨k, oc, a1, a2, a3, ⟨⟨r, w', b1, hq r w' b2, b3⟩, hF⟩⟩
theorem Ct.I {X : Cx} {B : Bu} {M : Me} {as : List Av} {w : Wd} {A A' : Int32 → Wd → Prop} (h : Ct X B M as w (qI A)) (hq : ∀ x w', A x w' → A' x w') : Ct X B M as w (qI A') := h.mono fun _ _ ⟨x, e, a⟩ => ⟨x, e, hq x _ a⟩
theorem Ct.J {X : Cx} {B : Bu} {M : Me} {as : List Av} {w : Wd} {A A' : Int64 → Wd → Prop} (h : Ct X B M as w (qJ A)) (hq : ∀ x w', A x w' → A' x w') : Ct X B M as w (qJ A') := h.mono fun _ _ ⟨x, e, a⟩ => ⟨x, e, hq x _ a⟩
theorem Ct.R {X : Cx} {B : Bu} {M : Me} {as : List Av} {w : Wd} {A A' : Nat → Wd → Prop} (h : Ct X B M as w (qR A)) (hq : ∀ x w', A x w' → A' x w') : Ct X B M as w (qR A') := h.mono fun _ _ ⟨x, e, a⟩ => ⟨x, e, hq x _ a⟩
theorem Ct.V {X : Cx} {B : Bu} {M : Me} {as : List Av} {w : Wd} {A A' : Wd → Prop} (h : Ct X B M as w (qV A)) (hq : ∀ w', A w' → A' w') : Ct X B M as w (qV A') := h.mono fun _ _ ⟨e, a⟩ => ⟨e, hq _ a⟩
def lvA (i : Nat) (as : List Av) : List (Nat × Av) := match as with
  | [] => []
  | v :: t => (i, v) :: lvA (i + cat v) t
theorem lvA_args (as : List Av) : ∀ i, (lvA i as).map t2 = lv_args i (as.map tv) := by
  induction as with
  | nil => intro i; rfl
  | cons v t ih =>
    intro i
    show t2 (i, v) :: (lvA (i + cat v) t).map t2 = (i, tv v) :: lv_args (if (tv v).category = 2 then i + 2 else i + 1) (t.map tv)
    rw [ih]
    have h : i + cat v = if (tv v).category = 2 then i + 2 else i + 1 := by
      rw [cat_tv, cat_J]
      cases isJ v <;> rfl
    rw [h]
    rfl
theorem lgsl_len (as : List Av) : (lg_sl (as.map tv)).length = (as.map cat).sum := by
  induction as with
  | nil => rfl
  | cons v t ih =>
    simp only [lg_sl, List.map_cons, List.flatMap_cons, List.length_append, List.sum_cons] at ih ⊢
    rw [ih, cat_tv, cat_J]
    cases isJ v <;> simp
theorem Ct.of {X : Cx} {B : Bu} {M : Me} {as : List Av} {w : Wd} {Q : Option Av → Wd → Prop} (hy : plainName M.1.cls = true) (hsz : (as.map cat).sum ≤ M.2.2.1) {lv : List (Nat × Av)} (hlv : lvA 0 as = lv) (h : EJ X M (vw X B Q) B.2.1 B.2.2 0 lv [] w) : Ct X B M as w Q := by
  refine Met.ofW (cc := M.2.1) (maxL := M.2.2.1) (ret := M.2.2.2) hy rfl ?_
  intro p e s m args below meth c s₁ Bd hml hv
  obtain ⟨rfl, hR, hS, hK, h0⟩ := hv
  have hts := atoms_spec (ws := cdW M :: tb) Bd.pre
  have hown : s.vm.findClass M.1.cls = some m.cls := findClass_of_methodNamed Bd.named
  have hin : meth.name = M.1.name := (name_of_methodNamed Bd.named Bd.method).1
  have hl := lv_entry (as.map tv) (n := M.2.2.1) (by rw [lgsl_len]; exact hsz)
  rw [lg_entry_eq]
  generalize (lg_sl (as.map tv) ++ List.replicate (M.2.2.1 - (lg_sl (as.map tv)).length) Slot.unset).toArray = ls at hl ⊢
  rw [← lvA_args, hlv] at hl
  exact h p e s m _ below meth c s.heap [] 0 0 ls ⟨Bd.exec, Bd.bytes, Bd.returns, hml, hown, fun w hw => hts w (List.mem_cons_of_mem _ hw), hK, Bd.notSynchronized, hin, h0⟩ trivial hR hS hl (Nat.le_of_eq (Nat.zero_add _)) (Nat.le_of_eq (Nat.zero_add _)) (Nat.le_refl _) (Nat.le_refl _)
/-- what the tables say of a callee -/
def MK (M : Me) (n : Nat) : Prop := cdW M ∈ tb ∧ Cond.initialized M.1.cls ∈ tb ∧ M.1.cls ≠ "java/lang/invoke/MethodHandle" ∧ M.1.cls ≠ "java/lang/invoke/VarHandle" ∧ (parseMethodDescriptor M.1.desc).map (fun d => d.parameters.length) = some n
def MV (own : String) (idx : Nat) (M : Me) : Prop := Cond.methodLink own idx M.1 ∈ tb ∧ Cond.instanceMethod M.1 ∈ tb ∧ Cond.selects M.1.cls M.1 M.1 ∈ tb
def MS (own : String) (idx : Nat) (M : Me) : Prop := Cond.methodLink own idx M.1 ∈ tb ∧ Cond.static M.1 ∈ tb
def MI (own : String) (idx : Nat) (M : Me) : Prop := Cond.methodLink own idx M.1 ∈ tb ∧ Cond.instanceMethod M.1 ∈ tb
theorem PcW_blind (X : Cx) (w : Wd) (av : List Value) : FrameBlind (va_Pc av (PcW X w)) := by
  intro a U g mk h
  obtain ⟨h1, h2, h3, h4, h5⟩ := h
  exact ⟨h1, h2, h3, KK.moved (u := U) (U := U.calling g mk a) (Vm.Alike.refl U.vm) h4, h5⟩
theorem PcW_use {X : Cx} {w : Wd} {s U : State} {H : Heap} {locs : List Loc} (hR : Rh X w H) (hS : va_S (Fr X) X.2.2.2 H locs) (hK : KK X s) (h0 : 0 < X.2.2.2.size) (hU : U.heap = H) (hW : s.WarmedH U.vm) : PcW X w U := by
  subst hU
  exact ⟨hR, ⟨hS.1, hS.2.1, fun _ h => by cases h⟩, hK.moved hW.alike, h0⟩
theorem call_of {X : Cx} {M' : Me} {B' : Bu} {R : Room} {s : State} {args : Array Value} {own : String} {idx n : Nat} (hts : ∀ w ∈ tb, w.before args s = true) (hk : MK M' n) (hl : Cond.methodLink own idx M'.1 ∈ tb) (hR : B'.1 + 1 ≤ R.frames ∧ 8 + (M'.2.2.1 + 11) + 60 * B'.1 ≤ R.locals) : CallB R s args own idx M'.1 M'.2.1 M'.2.2.1 M'.2.2.2 (cdW M' :: tb) (rmO B') B'.2.1 B'.2.2 n :=
  callB_of n hts (tbl_goodIn (fun w h => (List.mem_cons.mp h).elim (fun e => by rw [e]; exact hk.1) id)) rfl rfl rfl (hts _ hk.2.1) (hts _ hl) ⟨hk.2.2.1, hk.2.2.2.1, hk.2.2.2.2⟩ hR
theorem run_on {X : Cx} {p : Program} {e : Env} {R : Room} {s : State} {m : MethodId} {args a : Array Value} {below : List Frame} {meth : Method} {c : Code} {H : Heap} {locs : List Loc} {cells slots mc ms pc : Nat} {ls : Array Slot} {st0 rest : List Value} {Q' : Option Av → Wd → Prop} {Q : State → Prop}
    (hr : va_Run p X.1 e R s m args below meth c H locs cells slots mc ms (F0 m pc ls st0) rest (Qw X Q' a) (Fr X)) (hS : va_S (Fr X) X.2.2.2 H locs)
    (kk : ∀ (r : Option Av) (w' : Wd) (H1 : Heap) (locs1 : List Loc), Q' r w' → Rh X w' H1 → va_S (Fr X) X.2.2.2 H1 locs1 → W p X.1 e R s m args below meth c H1 locs1 (cells + mc) (slots + ms) Q (F0 m (pc + 3) ls (r.toList.map tv ++ rest))) : W p X.1 e R s m args below meth c H locs cells slots Q (F0 m pc ls st0) := by
  intro T hT Y
  obtain ⟨v, st₀, t, T', L, h0, Y', hL, e1, e2, ⟨r, w', b1, b2, b3, b4⟩, st⟩ := hr T hT Y
  have hv : v = r.map tv := by simpa using b1
  have ht : v.toList = r.toList.map tv := by rw [hv]; cases r <;> rfl
  rw [ht] at st
  obtain ⟨t2, a1, c1⟩ := kk r w' T'.heap (locs ++ L) b2 (by rw [e1]; exact b3) ⟨by rw [e1]; exact b4.1, fun q g1 g2 => by rw [e1]; exact b4.2.1 q g1 g2, fun q hq => by
    rcases List.mem_append.mp hq with h | h
    · exact hS.2.2 q h
    · exact hL q h⟩ T' rfl Y'
  exact ⟨t2, st t2 a1, c1⟩
theorem cat_sum (st : List Av) : ((st.map tv).map fun v => v.category).sum = (st.map cat).sum := by
  induction st with
  | nil => rfl
  | cons v t ih => simp only [List.map_cons, List.sum_cons, cat_tv] at ih ⊢; rw [ih]
section E2
variable {X : Cx} {M : Me} {V : Vw} {rc rs pc : Nat} {lv : List (Nat × Av)} {st : List Av} {w : Wd}
theorem e_callV {idx a ci n : Nat} {M' : Me} {B' : Bu} {st0 : List Av} (as : List Av) {Q' : Option Av → Wd → Prop} (hd : decode M.2.1 pc = .ok (.invokevirtual idx, 3)) (hm : MV M.1.cls idx M') (hk : MK M' n) (hc12 : ci < 12) (hcl : M'.1.cls = cR ci) (ha : wK w a = ci + 1) (hst : st0 = as.reverse ++ vR a :: st) (hn : as.length = n) (hrm : (st.map cat).sum ≤ 8) (hfr : B'.1 + 1 ≤ V.1.frames ∧ 8 + (M'.2.2.1 + 11) + 60 * B'.1 ≤ V.1.locals) {rc' rs' : Nat} (h1 : rc = rc' + B'.2.1) (h2 : rs = rs' + B'.2.2)
    (hct : Ct X B' M' (vR a :: as) w Q') (kk : ∀ (r : Option Av) (w' : Wd), Q' r w' → EJ X M V rc' rs' (pc + 3) lv (r.toList ++ st) w') : EJ X M V rc rs pc lv st0 w := by
  intro p e s m args below meth c H locs cells slots ls hA hV hR hS hl hc hs hcr hsr
  subst hst h1 h2
  obtain ⟨L, q0, hP, hD, hL, haL, hq⟩ := hR.obj hc12 ha
  have hne : a ≠ 0 := hR.ne hA.2.2.2.2.2.2.2.2.2 (by omega)
  have e1 : tv (vR a) = .ref a := rn_ne hne
  have hts := hA.2.2.2.2.2.1
  refine run_on (a := (Value.ref a :: as.map tv).toArray) (rest := st.map tv) (Q' := Q') (mc := B'.2.1) (ms := B'.2.2) (va_runV (C := M'.1.cls) (As := as.map tv) ⟨hA.1, hA.2.1, hA.2.2.2.1, hA.2.2.2.2.1, hts⟩ hct ⟨call_of (X := X) hts hk hm.1 hfr, hts _ hm.2.1, hts _ hm.2.2⟩ ⟨PcW_blind X w _, by rw [hcl]; exact va_recv hA.2.2.2.2.2.2.1.1 hP (cls_get ci hc12) hq, fun U hU hW => ⟨by rw [List.map_cons, e1], PcW_use hR hS hA.2.2.2.2.2.2.1 hA.2.2.2.2.2.2.2.2.2 hU hW⟩⟩ rfl (by rw [List.length_map]; exact hn) hl.1 (by rw [List.map_append, List.map_reverse, List.map_cons, e1]) (lv_room (by rw [cat_sum]; exact hrm)) hd ⟨by omega, by omega⟩) hS (fun r w' H1 locs1 hq1 hR1 hS1 => ?_)
  have h5 := kk r w' hq1 p e s m args below meth c H1 locs1 (cells + B'.2.1) (slots + B'.2.2) ls hA hV hR1 hS1 hl (by omega) (by omega) hcr hsr
  rw [List.map_append] at h5
  exact h5
theorem e_callS {idx n : Nat} {M' : Me} {B' : Bu} {st0 : List Av} (as : List Av) {Q' : Option Av → Wd → Prop} (hd : decode M.2.1 pc = .ok (.invokestatic idx, 3)) (hm : MS M.1.cls idx M') (hk : MK M' n) (hst : st0 = as.reverse ++ st) (hn : as.length = n) (hrm : (st.map cat).sum ≤ 8) (hfr : B'.1 + 1 ≤ V.1.frames ∧ 8 + (M'.2.2.1 + 11) + 60 * B'.1 ≤ V.1.locals) {rc' rs' : Nat} (h1 : rc = rc' + B'.2.1) (h2 : rs = rs' + B'.2.2)
    (hct : Ct X B' M' as w Q') (kk : ∀ (r : Option Av) (w' : Wd), Q' r w' → EJ X M V rc' rs' (pc + 3) lv (r.toList ++ st) w') : EJ X M V rc rs pc lv st0 w := by
  intro p e s m args below meth c H locs cells slots ls hA hV hR hS hl hc hs hcr hsr
  subst hst h1 h2
  have hts := hA.2.2.2.2.2.1
  refine run_on (a := (as.map tv).toArray) (rest := st.map tv) (Q' := Q') (mc := B'.2.1) (ms := B'.2.2) (va_runS (As := as.map tv) ⟨hA.1, hA.2.1, hA.2.2.2.1, hA.2.2.2.2.1, hts⟩ hct ⟨call_of (X := X) hts hk hm.1 hfr, hts _ hm.2⟩ ⟨PcW_blind X w _, fun U hU hW => ⟨rfl, PcW_use hR hS hA.2.2.2.2.2.2.1 hA.2.2.2.2.2.2.2.2.2 hU hW⟩⟩ rfl (by rw [List.length_map]; exact hn) hl.1 (by rw [List.map_append, List.map_reverse]) (lv_room (by rw [cat_sum]; exact hrm)) hd ⟨by omega, by omega⟩) hS (fun r w' H1 locs1 hq1 hR1 hS1 => ?_)
  have h5 := kk r w' hq1 p e s m args below meth c H1 locs1 (cells + B'.2.1) (slots + B'.2.2) ls hA hV hR1 hS1 hl (by omega) (by omega) hcr hsr
  rw [List.map_append] at h5
  exact h5
theorem e_callI {idx a n : Nat} {M' : Me} {B' : Bu} {st0 : List Av} (as : List Av) {Q' : Option Av → Wd → Prop} (hd : decode M.2.1 pc = .ok (.invokespecial idx, 3)) (hm : MI M.1.cls idx M') (hk : MK M' n) (hnm : M'.1.name = "<init>") (hret : M'.2.2.2 = none) (ha : wK w a ≠ 0) (hst : st0 = as.reverse ++ vR a :: st) (hn : as.length = n) (hrm : (st.map cat).sum ≤ 8) (hfr : B'.1 + 1 ≤ V.1.frames ∧ 8 + (M'.2.2.1 + 11) + 60 * B'.1 ≤ V.1.locals) {rc' rs' : Nat} (h1 : rc = rc' + B'.2.1) (h2 : rs = rs' + B'.2.2)
    (hct : Ct X B' M' (vR a :: as) w Q') (kk : ∀ (r : Option Av) (w' : Wd), Q' r w' → EJ X M V rc' rs' (pc + 3) lv (r.toList ++ st) w') : EJ X M V rc rs pc lv st0 w := by
  intro p e s m args below meth c H locs cells slots ls hA hV hR hS hl hc hs hcr hsr
  subst hst h1 h2
  have hne : a ≠ 0 := hR.ne hA.2.2.2.2.2.2.2.2.2 ha
  have e1 : tv (vR a) = .ref a := rn_ne hne
  have hts := hA.2.2.2.2.2.1
  have cb := call_of (X := X) (B' := B') (R := V.1) hts hk hm.1 hfr
  rw [hret] at cb
  refine run_on (a := (Value.ref a :: as.map tv).toArray) (rest := st.map tv) (Q' := Q') (mc := B'.2.1) (ms := B'.2.2) (va_runI (As := as.map tv) (b := a) ⟨hA.1, hA.2.1, hA.2.2.2.1, hA.2.2.2.2.1, hts⟩ hct ⟨cb, hnm, hts _ hm.2⟩ ⟨PcW_blind X w _, fun U hU hW => ⟨by rw [List.map_cons, e1], PcW_use hR hS hA.2.2.2.2.2.2.1 hA.2.2.2.2.2.2.2.2.2 hU hW⟩⟩ rfl (by rw [List.length_map]; exact hn) hl.1 (by rw [List.map_append, List.map_reverse, List.map_cons, e1]) (lv_room (by rw [cat_sum]; exact hrm)) hd ⟨by omega, by omega⟩) hS (fun r w' H1 locs1 hq1 hR1 hS1 => ?_)
  have h5 := kk r w' hq1 p e s m args below meth c H1 locs1 (cells + B'.2.1) (slots + B'.2.2) ls hA hV hR1 hS1 hl (by omega) (by omega) hcr hsr
  rw [List.map_append] at h5
  exact h5

theorem e_callVi {idx a ci n : Nat} {M' : Me} {B' : Bu} {st0 : List Av} (as : List Av) {A : Int32 → Wd → Prop} (hd : decode M.2.1 pc = .ok (.invokevirtual idx, 3)) (hm : MV M.1.cls idx M') (hk : MK M' n) (hc12 : ci < 12) (hcl : M'.1.cls = cR ci) (ha : wK w a = ci + 1) (hst : st0 = as.reverse ++ vR a :: st) (hn : as.length = n) (hrm : (st.map cat).sum ≤ 8) (hfr : B'.1 + 1 ≤ V.1.frames ∧ 8 + (M'.2.2.1 + 11) + 60 * B'.1 ≤ V.1.locals) {rc' rs' : Nat} (h1 : rc = rc' + B'.2.1) (h2 : rs = rs' + B'.2.2) (hct : Ct X B' M' (vR a :: as) w (qI A)) (kk : ∀ (x : Int32) (w' : Wd), A x w' → EJ X M V rc' rs' (pc + 3) lv (vI x :: st) w') : EJ X M V rc rs pc lv st0 w :=
  e_callV as hd hm hk hc12 hcl ha hst hn hrm hfr h1 h2 hct (fun r w' hq => by obtain ⟨x, rfl, h⟩ := hq; exact kk x w' h)
theorem e_callVj {idx a ci n : Nat} {M' : Me} {B' : Bu} {st0 : List Av} (as : List Av) {A : Int64 → Wd → Prop} (hd : decode M.2.1 pc = .ok (.invokevirtual idx, 3)) (hm : MV M.1.cls idx M') (hk : MK M' n) (hc12 : ci < 12) (hcl : M'.1.cls = cR ci) (ha : wK w a = ci + 1) (hst : st0 = as.reverse ++ vR a :: st) (hn : as.length = n) (hrm : (st.map cat).sum ≤ 8) (hfr : B'.1 + 1 ≤ V.1.frames ∧ 8 + (M'.2.2.1 + 11) + 60 * B'.1 ≤ V.1.locals) {rc' rs' : Nat} (h1 : rc = rc' + B'.2.1) (h2 : rs = rs' + B'.2.2) (hct : Ct X B' M' (vR a :: as) w (qJ A)) (kk : ∀ (x : Int64) (w' : Wd), A x w' → EJ X M V rc' rs' (pc + 3) lv (vJ x :: st) w') : EJ X M V rc rs pc lv st0 w :=
  e_callV as hd hm hk hc12 hcl ha hst hn hrm hfr h1 h2 hct (fun r w' hq => by obtain ⟨x, rfl, h⟩ := hq; exact kk x w' h)
theorem e_callVr {idx a ci n : Nat} {M' : Me} {B' : Bu} {st0 : List Av} (as : List Av) {A : Nat → Wd → Prop} (hd : decode M.2.1 pc = .ok (.invokevirtual idx, 3)) (hm : MV M.1.cls idx M') (hk : MK M' n) (hc12 : ci < 12) (hcl : M'.1.cls = cR ci) (ha : wK w a = ci + 1) (hst : st0 = as.reverse ++ vR a :: st) (hn : as.length = n) (hrm : (st.map cat).sum ≤ 8) (hfr : B'.1 + 1 ≤ V.1.frames ∧ 8 + (M'.2.2.1 + 11) + 60 * B'.1 ≤ V.1.locals) {rc' rs' : Nat} (h1 : rc = rc' + B'.2.1) (h2 : rs = rs' + B'.2.2) (hct : Ct X B' M' (vR a :: as) w (qR A)) (kk : ∀ (x : Nat) (w' : Wd), A x w' → EJ X M V rc' rs' (pc + 3) lv (vR x :: st) w') : EJ X M V rc rs pc lv st0 w :=
  e_callV as hd hm hk hc12 hcl ha hst hn hrm hfr h1 h2 hct (fun r w' hq => by obtain ⟨x, rfl, h⟩ := hq; exact kk x w' h)
theorem e_callVv {idx a ci n : Nat} {M' : Me} {B' : Bu} {st0 : List Av} (as : List Av) {A : Wd → Prop} (hd : decode M.2.1 pc = .ok (.invokevirtual idx, 3)) (hm : MV M.1.cls idx M') (hk : MK M' n) (hc12 : ci < 12) (hcl : M'.1.cls = cR ci) (ha : wK w a = ci + 1) (hst : st0 = as.reverse ++ vR a :: st) (hn : as.length = n) (hrm : (st.map cat).sum ≤ 8) (hfr : B'.1 + 1 ≤ V.1.frames ∧ 8 + (M'.2.2.1 + 11) + 60 * B'.1 ≤ V.1.locals) {rc' rs' : Nat} (h1 : rc = rc' + B'.2.1) (h2 : rs = rs' + B'.2.2) (hct : Ct X B' M' (vR a :: as) w (qV A)) (kk : ∀ w' : Wd, A w' → EJ X M V rc' rs' (pc + 3) lv st w') : EJ X M V rc rs pc lv st0 w :=
  e_callV as hd hm hk hc12 hcl ha hst hn hrm hfr h1 h2 hct (fun r w' hq => by obtain ⟨rfl, h⟩ := hq; exact kk w' h)
theorem e_callSi {idx n : Nat} {M' : Me} {B' : Bu} {st0 : List Av} (as : List Av) {A : Int32 → Wd → Prop} (hd : decode M.2.1 pc = .ok (.invokestatic idx, 3)) (hm : MS M.1.cls idx M') (hk : MK M' n) (hst : st0 = as.reverse ++ st) (hn : as.length = n) (hrm : (st.map cat).sum ≤ 8) (hfr : B'.1 + 1 ≤ V.1.frames ∧ 8 + (M'.2.2.1 + 11) + 60 * B'.1 ≤ V.1.locals) {rc' rs' : Nat} (h1 : rc = rc' + B'.2.1) (h2 : rs = rs' + B'.2.2) (hct : Ct X B' M' (as) w (qI A)) (kk : ∀ (x : Int32) (w' : Wd), A x w' → EJ X M V rc' rs' (pc + 3) lv (vI x :: st) w') : EJ X M V rc rs pc lv st0 w :=
  e_callS as hd hm hk hst hn hrm hfr h1 h2 hct (fun r w' hq => by obtain ⟨x, rfl, h⟩ := hq; exact kk x w' h)
theorem e_callSj {idx n : Nat} {M' : Me} {B' : Bu} {st0 : List Av} (as : List Av) {A : Int64 → Wd → Prop} (hd : decode M.2.1 pc = .ok (.invokestatic idx, 3)) (hm : MS M.1.cls idx M') (hk : MK M' n) (hst : st0 = as.reverse ++ st) (hn : as.length = n) (hrm : (st.map cat).sum ≤ 8) (hfr : B'.1 + 1 ≤ V.1.frames ∧ 8 + (M'.2.2.1 + 11) + 60 * B'.1 ≤ V.1.locals) {rc' rs' : Nat} (h1 : rc = rc' + B'.2.1) (h2 : rs = rs' + B'.2.2) (hct : Ct X B' M' (as) w (qJ A)) (kk : ∀ (x : Int64) (w' : Wd), A x w' → EJ X M V rc' rs' (pc + 3) lv (vJ x :: st) w') : EJ X M V rc rs pc lv st0 w :=
  e_callS as hd hm hk hst hn hrm hfr h1 h2 hct (fun r w' hq => by obtain ⟨x, rfl, h⟩ := hq; exact kk x w' h)
theorem e_callSr {idx n : Nat} {M' : Me} {B' : Bu} {st0 : List Av} (as : List Av) {A : Nat → Wd → Prop} (hd : decode M.2.1 pc = .ok (.invokestatic idx, 3)) (hm : MS M.1.cls idx M') (hk : MK M' n) (hst : st0 = as.reverse ++ st) (hn : as.length = n) (hrm : (st.map cat).sum ≤ 8) (hfr : B'.1 + 1 ≤ V.1.frames ∧ 8 + (M'.2.2.1 + 11) + 60 * B'.1 ≤ V.1.locals) {rc' rs' : Nat} (h1 : rc = rc' + B'.2.1) (h2 : rs = rs' + B'.2.2) (hct : Ct X B' M' (as) w (qR A)) (kk : ∀ (x : Nat) (w' : Wd), A x w' → EJ X M V rc' rs' (pc + 3) lv (vR x :: st) w') : EJ X M V rc rs pc lv st0 w :=
  e_callS as hd hm hk hst hn hrm hfr h1 h2 hct (fun r w' hq => by obtain ⟨x, rfl, h⟩ := hq; exact kk x w' h)
theorem e_callSv {idx n : Nat} {M' : Me} {B' : Bu} {st0 : List Av} (as : List Av) {A : Wd → Prop} (hd : decode M.2.1 pc = .ok (.invokestatic idx, 3)) (hm : MS M.1.cls idx M') (hk : MK M' n) (hst : st0 = as.reverse ++ st) (hn : as.length = n) (hrm : (st.map cat).sum ≤ 8) (hfr : B'.1 + 1 ≤ V.1.frames ∧ 8 + (M'.2.2.1 + 11) + 60 * B'.1 ≤ V.1.locals) {rc' rs' : Nat} (h1 : rc = rc' + B'.2.1) (h2 : rs = rs' + B'.2.2) (hct : Ct X B' M' (as) w (qV A)) (kk : ∀ w' : Wd, A w' → EJ X M V rc' rs' (pc + 3) lv st w') : EJ X M V rc rs pc lv st0 w :=
  e_callS as hd hm hk hst hn hrm hfr h1 h2 hct (fun r w' hq => by obtain ⟨rfl, h⟩ := hq; exact kk w' h)
theorem e_callIv {idx a n : Nat} {M' : Me} {B' : Bu} {st0 : List Av} (as : List Av) {A : Wd → Prop} (hd : decode M.2.1 pc = .ok (.invokespecial idx, 3)) (hm : MI M.1.cls idx M') (hk : MK M' n) (hnm : M'.1.name = "<init>") (hret : M'.2.2.2 = none) (ha : wK w a ≠ 0) (hst : st0 = as.reverse ++ vR a :: st) (hn : as.length = n) (hrm : (st.map cat).sum ≤ 8) (hfr : B'.1 + 1 ≤ V.1.frames ∧ 8 + (M'.2.2.1 + 11) + 60 * B'.1 ≤ V.1.locals) {rc' rs' : Nat} (h1 : rc = rc' + B'.2.1) (h2 : rs = rs' + B'.2.2) (hct : Ct X B' M' (vR a :: as) w (qV A)) (kk : ∀ w' : Wd, A w' → EJ X M V rc' rs' (pc + 3) lv st w') : EJ X M V rc rs pc lv st0 w :=
  e_callI as hd hm hk hnm hret ha hst hn hrm hfr h1 h2 hct (fun r w' hq => by obtain ⟨rfl, h⟩ := hq; exact kk w' h)
theorem e_mmin {idx : Nat} {x y : Int32} (hd : decode M.2.1 pc = .ok (.invokestatic idx, 3)) (hm : Cond.methodLink M.1.cls idx Lib.Math.min.name ∈ tb) (hrm : (st.map cat).sum + 13 ≤ V.1.locals) (hfr : 1 ≤ V.1.frames) (kk : EJ X M V rc rs (pc + 3) lv (vI (if y < x then y else x) :: st) w) : EJ X M V rc rs pc lv (vI y :: vI x :: st) w := by
  intro p e s m args below meth c H locs cells slots ls hA hV hR hS hl hc hs hcr hsr
  have hts := hA.2.2.2.2.2.1
  exact va_mmin hA.1 hA.2.1 (hA.2.2.2.1.trans hl.1.symm) hA.2.2.2.2.1 (hts _ hm) (hts _ (tb_of (by decide +kernel) rfl)) (hts _ (tb_of (by decide +kernel) rfl)) (hts _ (tb_of (by decide +kernel) rfl)) hfr (by rw [cat_sum]; exact hrm) (by omega) (by omega) hd (kk p e s m args below meth c H locs cells slots ls hA hV hR hS hl hc hs hcr hsr)
theorem e_mmax {idx : Nat} {x y : Int32} (hd : decode M.2.1 pc = .ok (.invokestatic idx, 3)) (hm : Cond.methodLink M.1.cls idx Lib.Math.max.name ∈ tb) (hrm : (st.map cat).sum + 13 ≤ V.1.locals) (hfr : 1 ≤ V.1.frames) (kk : EJ X M V rc rs (pc + 3) lv (vI (if x < y then y else x) :: st) w) : EJ X M V rc rs pc lv (vI y :: vI x :: st) w := by
  intro p e s m args below meth c H locs cells slots ls hA hV hR hS hl hc hs hcr hsr
  have hts := hA.2.2.2.2.2.1
  exact va_mmax hA.1 hA.2.1 (hA.2.2.2.1.trans hl.1.symm) hA.2.2.2.2.1 (hts _ hm) (hts _ (tb_of (by decide +kernel) rfl)) (hts _ (tb_of (by decide +kernel) rfl)) (hts _ (tb_of (by decide +kernel) rfl)) hfr (by rw [cat_sum]; exact hrm) (by omega) (by omega) hd (kk p e s m args below meth c H locs cells slots ls hA hV hR hS hl hc hs hcr hsr)
theorem e_mminJ {idx : Nat} {x y : Int64} (hd : decode M.2.1 pc = .ok (.invokestatic idx, 3)) (hm : Cond.methodLink M.1.cls idx Lib.MathLoose.min_long.x ∈ tb) (hrm : (st.map cat).sum + 15 ≤ V.1.locals) (hfr : 1 ≤ V.1.frames) (kk : EJ X M V rc rs (pc + 3) lv (vJ (if y < x then y else x) :: st) w) : EJ X M V rc rs pc lv (vJ y :: vJ x :: st) w := by
  intro p e s m args below meth c H locs cells slots ls hA hV hR hS hl hc hs hcr hsr
  have hts := hA.2.2.2.2.2.1
  exact va_mmin_long hA.1 hA.2.1 (hA.2.2.2.1.trans hl.1.symm) hA.2.2.2.2.1 (hts _ hm) (hts _ (tb_of (by decide +kernel) rfl)) (hts _ (tb_of (by decide +kernel) rfl)) (hts _ (tb_of (by decide +kernel) rfl)) hfr (by rw [cat_sum]; exact hrm) (by omega) (by omega) hd (kk p e s m args below meth c H locs cells slots ls hA hV hR hS hl hc hs hcr hsr)
theorem e_objInit {idx a : Nat} (hd : decode M.2.1 pc = .ok (.invokespecial idx, 3)) (hm : Cond.methodLink M.1.cls idx Lib.objectInit ∈ tb) (ha : wK w a ≠ 0) (hrm : (st.map cat).sum ≤ 8) (hfr : 1 ≤ V.1.frames) (hlo : 60 ≤ V.1.locals) (kk : EJ X M V rc rs (pc + 3) lv st w) : EJ X M V rc rs pc lv (vR a :: st) w := by
  intro p e s m args below meth c H locs cells slots ls hA hV hR hS hl hc hs hcr hsr
  have hts := hA.2.2.2.2.2.1
  have hne : a ≠ 0 := hR.ne hA.2.2.2.2.2.2.2.2.2 ha
  have e1 : tv (vR a) = .ref a := rn_ne hne
  rw [List.map_cons, e1]
  refine W.objInit hA.1 hA.2.1 hA.2.2.2.2.1 (hts _ hm) (hts _ (tb_of (by decide +kernel) rfl)) (hts _ (tb_of (by decide +kernel) rfl)) rfl (hl.1.trans hA.2.2.2.1.symm) rfl hd hfr ?_ (kk p e s m args below meth c H locs cells slots ls hA hV hR hS hl hc hs hcr hsr)
  have h8 : 2 * (F0 m pc ls (Value.ref a :: st.map tv)).monitorRoom + ((st.map tv).map fun v => v.category).sum ≤ 8 := lv_room (by rw [cat_sum]; exact hrm)
  omega
end E2
section E3
variable {X : Cx} {M : Me} {B : Bu} {Q : Option Av → Wd → Prop} {rc rs pc : Nat} {lv : List (Nat × Av)} {w : Wd}
theorem ret_q {X : Cx} {Q : Option Av → Wd → Prop} {w : Wd} {H : Heap} {locs : List Loc} {args : Array Value} {s : State} (r : Option Av) (hq : Q r w) (hR : Rh X w H) (hS : va_S (Fr X) X.2.2.2 H locs) : ∀ t : State, t.heap = H → s.WarmedH t.vm → Qw X Q args s (.returned (r.map tv)) t := by
  intro t ht _
  subst ht
  exact ⟨r, w, rfl, hq, hR, hS.1, hS.2.1, fun _ h => by cases h⟩
theorem e_ireturn {x : Int32} (hd : decode M.2.1 pc = .ok (.ireturn, 1)) (hr : M.2.2.2 = some .int) (hq : Q (some (vI x)) w) : EJ X M (vw X B Q) rc rs pc lv [vI x] w := by
  intro p e s m args below meth c H locs cells slots ls hA hV hR hS hl hc hs hcr hsr
  refine W.widen (k := B.2.1) (n := B.2.2) (Nat.le_trans (Nat.le_add_right _ _) hc) (Nat.le_trans (Nat.le_add_right _ _) hs) ?_
  exact W.iret hA.1 hA.2.1 (hA.2.2.1.trans hr) (ret_q (some (vI x)) hq hR hS) hS.2.2 hd (hlocks := hA.2.2.2.2.2.2.2.1)
theorem e_zreturn {x : Int32} (hd : decode M.2.1 pc = .ok (.ireturn, 1)) (hr : M.2.2.2 = some .boolean) (hx : x = 0 ∨ x = 1) (hq : Q (some (vI x)) w) : EJ X M (vw X B Q) rc rs pc lv [vI x] w := by
  intro p e s m args below meth c H locs cells slots ls hA hV hR hS hl hc hs hcr hsr
  refine W.widen (k := B.2.1) (n := B.2.2) (Nat.le_trans (Nat.le_add_right _ _) hc) (Nat.le_trans (Nat.le_add_right _ _) hs) ?_
  exact W.zret hA.1 hA.2.1 (hA.2.2.1.trans hr) (by rcases hx with rfl | rfl <;> rfl) (ret_q (some (vI x)) hq hR hS) hS.2.2 hd (hlocks := hA.2.2.2.2.2.2.2.1)
theorem e_lreturn {x : Int64} (hd : decode M.2.1 pc = .ok (.lreturn, 1)) (hr : M.2.2.2 = some .long) (hq : Q (some (vJ x)) w) : EJ X M (vw X B Q) rc rs pc lv [vJ x] w := by
  intro p e s m args below meth c H locs cells slots ls hA hV hR hS hl hc hs hcr hsr
  refine W.widen (k := B.2.1) (n := B.2.2) (Nat.le_trans (Nat.le_add_right _ _) hc) (Nat.le_trans (Nat.le_add_right _ _) hs) ?_
  exact W.lret hA.1 hA.2.1 (hA.2.2.1.trans hr) (ret_q (some (vJ x)) hq hR hS) hS.2.2 hd (hlocks := hA.2.2.2.2.2.2.2.1)
theorem e_areturn {x : Nat} {cn : String} (hd : decode M.2.1 pc = .ok (.areturn, 1)) (hr : M.2.2.2 = some (.object cn)) (hq : Q (some (vR x)) w) : EJ X M (vw X B Q) rc rs pc lv [vR x] w := by
  intro p e s m args below meth c H locs cells slots ls hA hV hR hS hl hc hs hcr hsr
  refine W.widen (k := B.2.1) (n := B.2.2) (Nat.le_trans (Nat.le_add_right _ _) hc) (Nat.le_trans (Nat.le_add_right _ _) hs) ?_
  refine W.aret hA.1 hA.2.1 (hA.2.2.1.trans hr) (Or.inl ⟨cn, rfl⟩) ?_ (ret_q (some (vR x)) hq hR hS) hS.2.2 hd (hlocks := hA.2.2.2.2.2.2.2.1)
  by_cases h : x = 0
  · subst h; exact Or.inl rfl
  · exact Or.inr ⟨x, rn_ne h⟩
theorem e_vreturn (hd : decode M.2.1 pc = .ok (.return_, 1)) (hr : M.2.2.2 = none) (hq : Q none w) : EJ X M (vw X B Q) rc rs pc lv [] w := by
  intro p e s m args below meth c H locs cells slots ls hA hV hR hS hl hc hs hcr hsr
  refine W.widen (k := B.2.1) (n := B.2.2) (Nat.le_trans (Nat.le_add_right _ _) hc) (Nat.le_trans (Nat.le_add_right _ _) hs) ?_
  exact W.vret hA.1 hA.2.1 (hA.2.2.1.trans hr) (ret_q none hq hR hS) hS.2.2 hd (hlocks := hA.2.2.2.2.2.2.2.1)
end E3
end
section
theorem dX0_init_0 : decode cX0_init 0 = .ok (.aload_n 0, 1) := by decide +kernel
theorem dX0_init_1 : decode cX0_init 1 = .ok (.invokespecial 1, 3) := by decide +kernel
theorem dX0_init_4 : decode cX0_init 4 = .ok (.aload_n 0, 1) := by decide +kernel
theorem dX0_init_5 : decode cX0_init 5 = .ok (.iload_n 1, 1) := by decide +kernel
theorem dX0_init_6 : decode cX0_init 6 = .ok (.putfield 7, 3) := by decide +kernel
theorem dX0_init_9 : decode cX0_init 9 = .ok (.aload_n 0, 1) := by decide +kernel
theorem dX0_init_10 : decode cX0_init 10 = .ok (.iload_n 2, 1) := by decide +kernel
theorem dX0_init_11 : decode cX0_init 11 = .ok (.putfield 13, 3) := by decide +kernel
theorem dX0_init_14 : decode cX0_init 14 = .ok (.return_, 1) := by decide +kernel
theorem dX0_happened_0 : decode cX0_happened 0 = .ok (.aload_n 0, 1) := by decide +kernel
theorem dX0_happened_1 : decode cX0_happened 1 = .ok (.ifnull 29, 3) := by decide +kernel
theorem dX0_happened_4 : decode cX0_happened 4 = .ok (.aload_n 0, 1) := by decide +kernel
theorem dX0_happened_5 : decode cX0_happened 5 = .ok (.getfield 7, 3) := by decide +kernel
theorem dX0_happened_8 : decode cX0_happened 8 = .ok (.aload_n 1, 1) := by decide +kernel
theorem dX0_happened_9 : decode cX0_happened 9 = .ok (.getfield 16, 3) := by decide +kernel
theorem dX0_happened_12 : decode cX0_happened 12 = .ok (.if_icmp .gt 18, 3) := by decide +kernel
theorem dX0_happened_15 : decode cX0_happened 15 = .ok (.aload_n 0, 1) := by decide +kernel
theorem dX0_happened_16 : decode cX0_happened 16 = .ok (.getfield 13, 3) := by decide +kernel
theorem dX0_happened_19 : decode cX0_happened 19 = .ok (.aload_n 1, 1) := by decide +kernel
theorem dX0_happened_20 : decode cX0_happened 20 = .ok (.getfield 21, 3) := by decide +kernel
theorem dX0_happened_23 : decode cX0_happened 23 = .ok (.if_icmp .gt 7, 3) := by decide +kernel
theorem dX0_happened_26 : decode cX0_happened 26 = .ok (.iconst 1, 1) := by decide +kernel
theorem dX0_happened_27 : decode cX0_happened 27 = .ok (.goto 4, 3) := by decide +kernel
theorem dX0_happened_30 : decode cX0_happened 30 = .ok (.iconst 0, 1) := by decide +kernel
theorem dX0_happened_31 : decode cX0_happened 31 = .ok (.ireturn, 1) := by decide +kernel
theorem dX1_init_0 : decode cX1_init 0 = .ok (.aload_n 0, 1) := by decide +kernel
theorem dX1_init_1 : decode cX1_init 1 = .ok (.invokespecial 3, 3) := by decide +kernel
theorem dX1_init_4 : decode cX1_init 4 = .ok (.aload_n 0, 1) := by decide +kernel
theorem dX1_init_5 : decode cX1_init 5 = .ok (.bipush 101, 2) := by decide +kernel
theorem dX1_init_7 : decode cX1_init 7 = .ok (.newarray .int, 2) := by decide +kernel
theorem dX1_init_9 : decode cX1_init 9 = .ok (.putfield 9, 3) := by decide +kernel
theorem dX1_init_12 : decode cX1_init 12 = .ok (.return_, 1) := by decide +kernel
theorem dX1_wholeAt_0 : decode cX1_wholeAt 0 = .ok (.iload_n 1, 1) := by decide +kernel
theorem dX1_wholeAt_1 : decode cX1_wholeAt 1 = .ok (.ifCond .lt 29, 3) := by decide +kernel
theorem dX1_wholeAt_4 : decode cX1_wholeAt 4 = .ok (.iload_n 1, 1) := by decide +kernel
theorem dX1_wholeAt_5 : decode cX1_wholeAt 5 = .ok (.aload_n 0, 1) := by decide +kernel
theorem dX1_wholeAt_6 : decode cX1_wholeAt 6 = .ok (.getfield 15, 3) := by decide +kernel
theorem dX1_wholeAt_9 : decode cX1_wholeAt 9 = .ok (.if_icmp .ge 21, 3) := by decide +kernel
theorem dX1_wholeAt_12 : decode cX1_wholeAt 12 = .ok (.iload_n 1, 1) := by decide +kernel
theorem dX1_wholeAt_13 : decode cX1_wholeAt 13 = .ok (.aload_n 0, 1) := by decide +kernel
theorem dX1_wholeAt_14 : decode cX1_wholeAt 14 = .ok (.getfield 9, 3) := by decide +kernel
theorem dX1_wholeAt_17 : decode cX1_wholeAt 17 = .ok (.arraylength, 1) := by decide +kernel
theorem dX1_wholeAt_18 : decode cX1_wholeAt 18 = .ok (.if_icmp .ge 12, 3) := by decide +kernel
theorem dX1_wholeAt_21 : decode cX1_wholeAt 21 = .ok (.aload_n 0, 1) := by decide +kernel
theorem dX1_wholeAt_22 : decode cX1_wholeAt 22 = .ok (.getfield 9, 3) := by decide +kernel
theorem dX1_wholeAt_25 : decode cX1_wholeAt 25 = .ok (.iload_n 1, 1) := by decide +kernel
theorem dX1_wholeAt_26 : decode cX1_wholeAt 26 = .ok (.iaload, 1) := by decide +kernel
theorem dX1_wholeAt_27 : decode cX1_wholeAt 27 = .ok (.goto 4, 3) := by decide +kernel
theorem dX1_wholeAt_30 : decode cX1_wholeAt 30 = .ok (.iconst (-1), 1) := by decide +kernel
theorem dX1_wholeAt_31 : decode cX1_wholeAt 31 = .ok (.ireturn, 1) := by decide +kernel
theorem dX1_closedBy_0 : decode cX1_closedBy 0 = .ok (.aload_n 1, 1) := by decide +kernel
theorem dX1_closedBy_1 : decode cX1_closedBy 1 = .ok (.aload_n 2, 1) := by decide +kernel
theorem dX1_closedBy_2 : decode cX1_closedBy 2 = .ok (.aload_n 3, 1) := by decide +kernel
theorem dX1_closedBy_3 : decode cX1_closedBy 3 = .ok (.invokestatic 19, 3) := by decide +kernel
theorem dX1_closedBy_6 : decode cX1_closedBy 6 = .ok (.aload_n 2, 1) := by decide +kernel
theorem dX1_closedBy_7 : decode cX1_closedBy 7 = .ok (.getfield 23, 3) := by decide +kernel
theorem dX1_closedBy_10 : decode cX1_closedBy 10 = .ok (.iconst (-1), 1) := by decide +kernel
theorem dX1_closedBy_11 : decode cX1_closedBy 11 = .ok (.if_icmp .ne 5, 3) := by decide +kernel
theorem dX1_closedBy_14 : decode cX1_closedBy 14 = .ok (.iconst 0, 1) := by decide +kernel
theorem dX1_closedBy_15 : decode cX1_closedBy 15 = .ok (.ireturn, 1) := by decide +kernel
theorem dX1_closedBy_16 : decode cX1_closedBy 16 = .ok (.aload_n 0, 1) := by decide +kernel
theorem dX1_closedBy_17 : decode cX1_closedBy 17 = .ok (.dup, 1) := by decide +kernel
theorem dX1_closedBy_18 : decode cX1_closedBy 18 = .ok (.getfield 28, 3) := by decide +kernel
theorem dX1_closedBy_21 : decode cX1_closedBy 21 = .ok (.iconst 1, 1) := by decide +kernel
theorem dX1_closedBy_22 : decode cX1_closedBy 22 = .ok (.iadd, 1) := by decide +kernel
theorem dX1_closedBy_23 : decode cX1_closedBy 23 = .ok (.putfield 28, 3) := by decide +kernel
theorem dX1_closedBy_26 : decode cX1_closedBy 26 = .ok (.aload_n 0, 1) := by decide +kernel
theorem dX1_closedBy_27 : decode cX1_closedBy 27 = .ok (.iconst 0, 1) := by decide +kernel
theorem dX1_closedBy_28 : decode cX1_closedBy 28 = .ok (.putfield 15, 3) := by decide +kernel
theorem dX1_closedBy_31 : decode cX1_closedBy 31 = .ok (.aload_n 0, 1) := by decide +kernel
theorem dX1_closedBy_32 : decode cX1_closedBy 32 = .ok (.aload_n 1, 1) := by decide +kernel
theorem dX1_closedBy_33 : decode cX1_closedBy 33 = .ok (.invokevirtual 31, 3) := by decide +kernel
theorem dX1_closedBy_36 : decode cX1_closedBy 36 = .ok (.aload_n 2, 1) := by decide +kernel
theorem dX1_closedBy_37 : decode cX1_closedBy 37 = .ok (.astore 4, 2) := by decide +kernel
theorem dX1_closedBy_39 : decode cX1_closedBy 39 = .ok (.iconst 0, 1) := by decide +kernel
theorem dX1_closedBy_40 : decode cX1_closedBy 40 = .ok (.istore 5, 2) := by decide +kernel
theorem dX1_closedBy_42 : decode cX1_closedBy 42 = .ok (.iload 5, 2) := by decide +kernel
theorem dX1_closedBy_44 : decode cX1_closedBy 44 = .ok (.bipush 100, 2) := by decide +kernel
theorem dX1_closedBy_46 : decode cX1_closedBy 46 = .ok (.if_icmp .ge 34, 3) := by decide +kernel
theorem dX1_closedBy_49 : decode cX1_closedBy 49 = .ok (.aload 4, 2) := by decide +kernel
theorem dX1_closedBy_51 : decode cX1_closedBy 51 = .ok (.ifnull 29, 3) := by decide +kernel
theorem dX1_closedBy_54 : decode cX1_closedBy 54 = .ok (.aload 4, 2) := by decide +kernel
theorem dX1_closedBy_56 : decode cX1_closedBy 56 = .ok (.aload_n 1, 1) := by decide +kernel
theorem dX1_closedBy_57 : decode cX1_closedBy 57 = .ok (.if_acmp .eq 23, 3) := by decide +kernel
theorem dX1_closedBy_60 : decode cX1_closedBy 60 = .ok (.aload_n 0, 1) := by decide +kernel
theorem dX1_closedBy_61 : decode cX1_closedBy 61 = .ok (.aload 4, 2) := by decide +kernel
theorem dX1_closedBy_63 : decode cX1_closedBy 63 = .ok (.invokevirtual 31, 3) := by decide +kernel
theorem dX1_closedBy_66 : decode cX1_closedBy 66 = .ok (.aload 4, 2) := by decide +kernel
theorem dX1_closedBy_68 : decode cX1_closedBy 68 = .ok (.aload_n 3, 1) := by decide +kernel
theorem dX1_closedBy_69 : decode cX1_closedBy 69 = .ok (.invokestatic 35, 3) := by decide +kernel
theorem dX1_closedBy_72 : decode cX1_closedBy 72 = .ok (.astore 4, 2) := by decide +kernel
theorem dX1_closedBy_74 : decode cX1_closedBy 74 = .ok (.iinc 5 1, 3) := by decide +kernel
theorem dX1_closedBy_77 : decode cX1_closedBy 77 = .ok (.goto (-35), 3) := by decide +kernel
theorem dX1_closedBy_80 : decode cX1_closedBy 80 = .ok (.iconst 1, 1) := by decide +kernel
theorem dX1_closedBy_81 : decode cX1_closedBy 81 = .ok (.ireturn, 1) := by decide +kernel
theorem dX1_measureSteps_0 : decode cX1_measureSteps 0 = .ok (.aload_n 2, 1) := by decide +kernel
theorem dX1_measureSteps_1 : decode cX1_measureSteps 1 = .ok (.astore_n 3, 1) := by decide +kernel
theorem dX1_measureSteps_2 : decode cX1_measureSteps 2 = .ok (.aload_n 3, 1) := by decide +kernel
theorem dX1_measureSteps_3 : decode cX1_measureSteps 3 = .ok (.ifnull 33, 3) := by decide +kernel
theorem dX1_measureSteps_6 : decode cX1_measureSteps 6 = .ok (.aload_n 3, 1) := by decide +kernel
theorem dX1_measureSteps_7 : decode cX1_measureSteps 7 = .ok (.getfield 39, 3) := by decide +kernel
theorem dX1_measureSteps_10 : decode cX1_measureSteps 10 = .ok (.getfield 45, 3) := by decide +kernel
theorem dX1_measureSteps_13 : decode cX1_measureSteps 13 = .ok (.iconst (-1), 1) := by decide +kernel
theorem dX1_measureSteps_14 : decode cX1_measureSteps 14 = .ok (.putfield 23, 3) := by decide +kernel
theorem dX1_measureSteps_17 : decode cX1_measureSteps 17 = .ok (.aload_n 3, 1) := by decide +kernel
theorem dX1_measureSteps_18 : decode cX1_measureSteps 18 = .ok (.getfield 51, 3) := by decide +kernel
theorem dX1_measureSteps_21 : decode cX1_measureSteps 21 = .ok (.getfield 45, 3) := by decide +kernel
theorem dX1_measureSteps_24 : decode cX1_measureSteps 24 = .ok (.iconst (-1), 1) := by decide +kernel
theorem dX1_measureSteps_25 : decode cX1_measureSteps 25 = .ok (.putfield 23, 3) := by decide +kernel
theorem dX1_measureSteps_28 : decode cX1_measureSteps 28 = .ok (.aload_n 3, 1) := by decide +kernel
theorem dX1_measureSteps_29 : decode cX1_measureSteps 29 = .ok (.getfield 54, 3) := by decide +kernel
theorem dX1_measureSteps_32 : decode cX1_measureSteps 32 = .ok (.astore_n 3, 1) := by decide +kernel
theorem dX1_measureSteps_33 : decode cX1_measureSteps 33 = .ok (.goto (-31), 3) := by decide +kernel
theorem dX1_measureSteps_36 : decode cX1_measureSteps 36 = .ok (.aload_n 1, 1) := by decide +kernel
theorem dX1_measureSteps_37 : decode cX1_measureSteps 37 = .ok (.iconst (-1), 1) := by decide +kernel
theorem dX1_measureSteps_38 : decode cX1_measureSteps 38 = .ok (.putfield 23, 3) := by decide +kernel
theorem dX1_measureSteps_41 : decode cX1_measureSteps 41 = .ok (.aload_n 0, 1) := by decide +kernel
theorem dX1_measureSteps_42 : decode cX1_measureSteps 42 = .ok (.iconst 0, 1) := by decide +kernel
theorem dX1_measureSteps_43 : decode cX1_measureSteps 43 = .ok (.putfield 23, 3) := by decide +kernel
theorem dX1_measureSteps_46 : decode cX1_measureSteps 46 = .ok (.iconst 1, 1) := by decide +kernel
theorem dX1_measureSteps_47 : decode cX1_measureSteps 47 = .ok (.istore_n 3, 1) := by decide +kernel
theorem dX1_measureSteps_48 : decode cX1_measureSteps 48 = .ok (.iconst 1, 1) := by decide +kernel
theorem dX1_measureSteps_49 : decode cX1_measureSteps 49 = .ok (.istore 4, 2) := by decide +kernel
theorem dX1_measureSteps_51 : decode cX1_measureSteps 51 = .ok (.iload 4, 2) := by decide +kernel
theorem dX1_measureSteps_53 : decode cX1_measureSteps 53 = .ok (.bipush 100, 2) := by decide +kernel
theorem dX1_measureSteps_55 : decode cX1_measureSteps 55 = .ok (.if_icmp .gt 87, 3) := by decide +kernel
theorem dX1_measureSteps_58 : decode cX1_measureSteps 58 = .ok (.iload_n 3, 1) := by decide +kernel
theorem dX1_measureSteps_59 : decode cX1_measureSteps 59 = .ok (.ifCond .eq 83, 3) := by decide +kernel
theorem dX1_measureSteps_62 : decode cX1_measureSteps 62 = .ok (.iconst 0, 1) := by decide +kernel
theorem dX1_measureSteps_63 : decode cX1_measureSteps 63 = .ok (.istore_n 3, 1) := by decide +kernel
theorem dX1_measureSteps_64 : decode cX1_measureSteps 64 = .ok (.aload_n 2, 1) := by decide +kernel
theorem dX1_measureSteps_65 : decode cX1_measureSteps 65 = .ok (.astore 5, 2) := by decide +kernel
theorem dX1_measureSteps_67 : decode cX1_measureSteps 67 = .ok (.aload 5, 2) := by decide +kernel
theorem dX1_measureSteps_69 : decode cX1_measureSteps 69 = .ok (.ifnull 67, 3) := by decide +kernel
theorem dX1_measureSteps_72 : decode cX1_measureSteps 72 = .ok (.aload 5, 2) := by decide +kernel
theorem dX1_measureSteps_74 : decode cX1_measureSteps 74 = .ok (.getfield 39, 3) := by decide +kernel
theorem dX1_measureSteps_77 : decode cX1_measureSteps 77 = .ok (.getfield 45, 3) := by decide +kernel
theorem dX1_measureSteps_80 : decode cX1_measureSteps 80 = .ok (.astore 6, 2) := by decide +kernel
theorem dX1_measureSteps_82 : decode cX1_measureSteps 82 = .ok (.aload 5, 2) := by decide +kernel
theorem dX1_measureSteps_84 : decode cX1_measureSteps 84 = .ok (.getfield 58, 3) := by decide +kernel
theorem dX1_measureSteps_87 : decode cX1_measureSteps 87 = .ok (.ifnonnull 39, 3) := by decide +kernel
theorem dX1_measureSteps_90 : decode cX1_measureSteps 90 = .ok (.aload 6, 2) := by decide +kernel
theorem dX1_measureSteps_92 : decode cX1_measureSteps 92 = .ok (.getfield 23, 3) := by decide +kernel
theorem dX1_measureSteps_95 : decode cX1_measureSteps 95 = .ok (.iconst (-1), 1) := by decide +kernel
theorem dX1_measureSteps_96 : decode cX1_measureSteps 96 = .ok (.if_icmp .ne 30, 3) := by decide +kernel
theorem dX1_measureSteps_99 : decode cX1_measureSteps 99 = .ok (.aload 5, 2) := by decide +kernel
theorem dX1_measureSteps_101 : decode cX1_measureSteps 101 = .ok (.getfield 51, 3) := by decide +kernel
theorem dX1_measureSteps_104 : decode cX1_measureSteps 104 = .ok (.getfield 45, 3) := by decide +kernel
theorem dX1_measureSteps_107 : decode cX1_measureSteps 107 = .ok (.getfield 23, 3) := by decide +kernel
theorem dX1_measureSteps_110 : decode cX1_measureSteps 110 = .ok (.iload 4, 2) := by decide +kernel
theorem dX1_measureSteps_112 : decode cX1_measureSteps 112 = .ok (.iconst 1, 1) := by decide +kernel
theorem dX1_measureSteps_113 : decode cX1_measureSteps 113 = .ok (.isub, 1) := by decide +kernel
theorem dX1_measureSteps_114 : decode cX1_measureSteps 114 = .ok (.if_icmp .ne 12, 3) := by decide +kernel
theorem dX1_measureSteps_117 : decode cX1_measureSteps 117 = .ok (.aload 6, 2) := by decide +kernel
theorem dX1_measureSteps_119 : decode cX1_measureSteps 119 = .ok (.iload 4, 2) := by decide +kernel
theorem dX1_measureSteps_121 : decode cX1_measureSteps 121 = .ok (.putfield 23, 3) := by decide +kernel
theorem dX1_measureSteps_124 : decode cX1_measureSteps 124 = .ok (.iconst 1, 1) := by decide +kernel
theorem dX1_measureSteps_125 : decode cX1_measureSteps 125 = .ok (.istore_n 3, 1) := by decide +kernel
theorem dX1_measureSteps_126 : decode cX1_measureSteps 126 = .ok (.aload 5, 2) := by decide +kernel
theorem dX1_measureSteps_128 : decode cX1_measureSteps 128 = .ok (.getfield 54, 3) := by decide +kernel
theorem dX1_measureSteps_131 : decode cX1_measureSteps 131 = .ok (.astore 5, 2) := by decide +kernel
theorem dX1_measureSteps_133 : decode cX1_measureSteps 133 = .ok (.goto (-66), 3) := by decide +kernel
theorem dX1_measureSteps_136 : decode cX1_measureSteps 136 = .ok (.iinc 4 1, 3) := by decide +kernel
theorem dX1_measureSteps_139 : decode cX1_measureSteps 139 = .ok (.goto (-88), 3) := by decide +kernel
theorem dX1_measureSteps_142 : decode cX1_measureSteps 142 = .ok (.return_, 1) := by decide +kernel
theorem dX1_nearer_0 : decode cX1_nearer 0 = .ok (.aload_n 1, 1) := by decide +kernel
theorem dX1_nearer_1 : decode cX1_nearer 1 = .ok (.astore_n 2, 1) := by decide +kernel
theorem dX1_nearer_2 : decode cX1_nearer 2 = .ok (.aload_n 2, 1) := by decide +kernel
theorem dX1_nearer_3 : decode cX1_nearer 3 = .ok (.ifnull 56, 3) := by decide +kernel
theorem dX1_nearer_6 : decode cX1_nearer 6 = .ok (.aload_n 2, 1) := by decide +kernel
theorem dX1_nearer_7 : decode cX1_nearer 7 = .ok (.getfield 58, 3) := by decide +kernel
theorem dX1_nearer_10 : decode cX1_nearer 10 = .ok (.ifnonnull 41, 3) := by decide +kernel
theorem dX1_nearer_13 : decode cX1_nearer 13 = .ok (.aload_n 2, 1) := by decide +kernel
theorem dX1_nearer_14 : decode cX1_nearer 14 = .ok (.getfield 39, 3) := by decide +kernel
theorem dX1_nearer_17 : decode cX1_nearer 17 = .ok (.getfield 45, 3) := by decide +kernel
theorem dX1_nearer_20 : decode cX1_nearer 20 = .ok (.aload_n 0, 1) := by decide +kernel
theorem dX1_nearer_21 : decode cX1_nearer 21 = .ok (.if_acmp .ne 30, 3) := by decide +kernel
theorem dX1_nearer_24 : decode cX1_nearer 24 = .ok (.aload_n 2, 1) := by decide +kernel
theorem dX1_nearer_25 : decode cX1_nearer 25 = .ok (.getfield 51, 3) := by decide +kernel
theorem dX1_nearer_28 : decode cX1_nearer 28 = .ok (.getfield 45, 3) := by decide +kernel
theorem dX1_nearer_31 : decode cX1_nearer 31 = .ok (.getfield 23, 3) := by decide +kernel
theorem dX1_nearer_34 : decode cX1_nearer 34 = .ok (.aload_n 0, 1) := by decide +kernel
theorem dX1_nearer_35 : decode cX1_nearer 35 = .ok (.getfield 23, 3) := by decide +kernel
theorem dX1_nearer_38 : decode cX1_nearer 38 = .ok (.iconst 1, 1) := by decide +kernel
theorem dX1_nearer_39 : decode cX1_nearer 39 = .ok (.isub, 1) := by decide +kernel
theorem dX1_nearer_40 : decode cX1_nearer 40 = .ok (.if_icmp .ne 11, 3) := by decide +kernel
theorem dX1_nearer_43 : decode cX1_nearer 43 = .ok (.aload_n 2, 1) := by decide +kernel
theorem dX1_nearer_44 : decode cX1_nearer 44 = .ok (.getfield 51, 3) := by decide +kernel
theorem dX1_nearer_47 : decode cX1_nearer 47 = .ok (.getfield 45, 3) := by decide +kernel
theorem dX1_nearer_50 : decode cX1_nearer 50 = .ok (.areturn, 1) := by decide +kernel
theorem dX1_nearer_51 : decode cX1_nearer 51 = .ok (.aload_n 2, 1) := by decide +kernel
theorem dX1_nearer_52 : decode cX1_nearer 52 = .ok (.getfield 54, 3) := by decide +kernel
theorem dX1_nearer_55 : decode cX1_nearer 55 = .ok (.astore_n 2, 1) := by decide +kernel
theorem dX1_nearer_56 : decode cX1_nearer 56 = .ok (.goto (-54), 3) := by decide +kernel
theorem dX1_nearer_59 : decode cX1_nearer 59 = .ok (.aconst_null, 1) := by decide +kernel
theorem dX1_nearer_60 : decode cX1_nearer 60 = .ok (.areturn, 1) := by decide +kernel
theorem dX1_add_0 : decode cX1_add 0 = .ok (.aload_n 0, 1) := by decide +kernel
theorem dX1_add_1 : decode cX1_add 1 = .ok (.getfield 15, 3) := by decide +kernel
theorem dX1_add_4 : decode cX1_add 4 = .ok (.aload_n 0, 1) := by decide +kernel
theorem dX1_add_5 : decode cX1_add 5 = .ok (.getfield 9, 3) := by decide +kernel
theorem dX1_add_8 : decode cX1_add 8 = .ok (.arraylength, 1) := by decide +kernel
theorem dX1_add_9 : decode cX1_add 9 = .ok (.if_icmp .ge 26, 3) := by decide +kernel
theorem dX1_add_12 : decode cX1_add 12 = .ok (.aload_n 0, 1) := by decide +kernel
theorem dX1_add_13 : decode cX1_add 13 = .ok (.getfield 9, 3) := by decide +kernel
theorem dX1_add_16 : decode cX1_add 16 = .ok (.aload_n 0, 1) := by decide +kernel
theorem dX1_add_17 : decode cX1_add 17 = .ok (.getfield 15, 3) := by decide +kernel
theorem dX1_add_20 : decode cX1_add 20 = .ok (.aload_n 1, 1) := by decide +kernel
theorem dX1_add_21 : decode cX1_add 21 = .ok (.invokevirtual 62, 3) := by decide +kernel
theorem dX1_add_24 : decode cX1_add 24 = .ok (.iastore, 1) := by decide +kernel
theorem dX1_add_25 : decode cX1_add 25 = .ok (.aload_n 0, 1) := by decide +kernel
theorem dX1_add_26 : decode cX1_add 26 = .ok (.dup, 1) := by decide +kernel
theorem dX1_add_27 : decode cX1_add 27 = .ok (.getfield 15, 3) := by decide +kernel
theorem dX1_add_30 : decode cX1_add 30 = .ok (.iconst 1, 1) := by decide +kernel
theorem dX1_add_31 : decode cX1_add 31 = .ok (.iadd, 1) := by decide +kernel
theorem dX1_add_32 : decode cX1_add 32 = .ok (.putfield 15, 3) := by decide +kernel
theorem dX1_add_35 : decode cX1_add 35 = .ok (.return_, 1) := by decide +kernel
theorem dX2_init_0 : decode cX2_init 0 = .ok (.aload_n 0, 1) := by decide +kernel
theorem dX2_init_1 : decode cX2_init 1 = .ok (.invokespecial 1, 3) := by decide +kernel
theorem dX2_init_4 : decode cX2_init 4 = .ok (.aload_n 0, 1) := by decide +kernel
theorem dX2_init_5 : decode cX2_init 5 = .ok (.iload_n 1, 1) := by decide +kernel
theorem dX2_init_6 : decode cX2_init 6 = .ok (.putfield 7, 3) := by decide +kernel
theorem dX2_init_9 : decode cX2_init 9 = .ok (.aload_n 0, 1) := by decide +kernel
theorem dX2_init_10 : decode cX2_init 10 = .ok (.aload_n 2, 1) := by decide +kernel
theorem dX2_init_11 : decode cX2_init 11 = .ok (.putfield 13, 3) := by decide +kernel
theorem dX2_init_14 : decode cX2_init 14 = .ok (.aload_n 0, 1) := by decide +kernel
theorem dX2_init_15 : decode cX2_init 15 = .ok (.aload_n 3, 1) := by decide +kernel
theorem dX2_init_16 : decode cX2_init 16 = .ok (.putfield 17, 3) := by decide +kernel
theorem dX2_init_19 : decode cX2_init 19 = .ok (.aload_n 0, 1) := by decide +kernel
theorem dX2_init_20 : decode cX2_init 20 = .ok (.lload 4, 2) := by decide +kernel
theorem dX2_init_22 : decode cX2_init 22 = .ok (.putfield 21, 3) := by decide +kernel
theorem dX2_init_25 : decode cX2_init 25 = .ok (.aload_n 0, 1) := by decide +kernel
theorem dX2_init_26 : decode cX2_init 26 = .ok (.iload 6, 2) := by decide +kernel
theorem dX2_init_28 : decode cX2_init 28 = .ok (.putfield 25, 3) := by decide +kernel
theorem dX2_init_31 : decode cX2_init 31 = .ok (.return_, 1) := by decide +kernel
theorem dX2_isBelow_0 : decode cX2_isBelow 0 = .ok (.aload_n 0, 1) := by decide +kernel
theorem dX2_isBelow_1 : decode cX2_isBelow 1 = .ok (.astore_n 2, 1) := by decide +kernel
theorem dX2_isBelow_2 : decode cX2_isBelow 2 = .ok (.aload_n 2, 1) := by decide +kernel
theorem dX2_isBelow_3 : decode cX2_isBelow 3 = .ok (.ifnull 18, 3) := by decide +kernel
theorem dX2_isBelow_6 : decode cX2_isBelow 6 = .ok (.aload_n 2, 1) := by decide +kernel
theorem dX2_isBelow_7 : decode cX2_isBelow 7 = .ok (.aload_n 1, 1) := by decide +kernel
theorem dX2_isBelow_8 : decode cX2_isBelow 8 = .ok (.if_acmp .ne 5, 3) := by decide +kernel
theorem dX2_isBelow_11 : decode cX2_isBelow 11 = .ok (.iconst 1, 1) := by decide +kernel
theorem dX2_isBelow_12 : decode cX2_isBelow 12 = .ok (.ireturn, 1) := by decide +kernel
theorem dX2_isBelow_13 : decode cX2_isBelow 13 = .ok (.aload_n 2, 1) := by decide +kernel
theorem dX2_isBelow_14 : decode cX2_isBelow 14 = .ok (.getfield 17, 3) := by decide +kernel
theorem dX2_isBelow_17 : decode cX2_isBelow 17 = .ok (.astore_n 2, 1) := by decide +kernel
theorem dX2_isBelow_18 : decode cX2_isBelow 18 = .ok (.goto (-16), 3) := by decide +kernel
theorem dX2_isBelow_21 : decode cX2_isBelow 21 = .ok (.iconst 0, 1) := by decide +kernel
theorem dX2_isBelow_22 : decode cX2_isBelow 22 = .ok (.ireturn, 1) := by decide +kernel
theorem dX2_recordRelease_0 : decode cX2_recordRelease 0 = .ok (.aload_n 0, 1) := by decide +kernel
theorem dX2_recordRelease_1 : decode cX2_recordRelease 1 = .ok (.getfield 28, 3) := by decide +kernel
theorem dX2_recordRelease_4 : decode cX2_recordRelease 4 = .ok (.ifnonnull 20, 3) := by decide +kernel
theorem dX2_recordRelease_7 : decode cX2_recordRelease 7 = .ok (.aload_n 0, 1) := by decide +kernel
theorem dX2_recordRelease_8 : decode cX2_recordRelease 8 = .ok (.aload_n 0, 1) := by decide +kernel
theorem dX2_recordRelease_9 : decode cX2_recordRelease 9 = .ok (.getfield 13, 3) := by decide +kernel
theorem dX2_recordRelease_12 : decode cX2_recordRelease 12 = .ok (.getfield 32, 3) := by decide +kernel
theorem dX2_recordRelease_15 : decode cX2_recordRelease 15 = .ok (.getfield 38, 3) := by decide +kernel
theorem dX2_recordRelease_18 : decode cX2_recordRelease 18 = .ok (.anewarray 43, 3) := by decide +kernel
theorem dX2_recordRelease_21 : decode cX2_recordRelease 21 = .ok (.putfield 28, 3) := by decide +kernel
theorem dX2_recordRelease_24 : decode cX2_recordRelease 24 = .ok (.iload_n 1, 1) := by decide +kernel
theorem dX2_recordRelease_25 : decode cX2_recordRelease 25 = .ok (.ifCond .lt 19, 3) := by decide +kernel
theorem dX2_recordRelease_28 : decode cX2_recordRelease 28 = .ok (.iload_n 1, 1) := by decide +kernel
theorem dX2_recordRelease_29 : decode cX2_recordRelease 29 = .ok (.aload_n 0, 1) := by decide +kernel
theorem dX2_recordRelease_30 : decode cX2_recordRelease 30 = .ok (.getfield 28, 3) := by decide +kernel
theorem dX2_recordRelease_33 : decode cX2_recordRelease 33 = .ok (.arraylength, 1) := by decide +kernel
theorem dX2_recordRelease_34 : decode cX2_recordRelease 34 = .ok (.if_icmp .ge 10, 3) := by decide +kernel
theorem dX2_recordRelease_37 : decode cX2_recordRelease 37 = .ok (.aload_n 0, 1) := by decide +kernel
theorem dX2_recordRelease_38 : decode cX2_recordRelease 38 = .ok (.getfield 28, 3) := by decide +kernel
theorem dX2_recordRelease_41 : decode cX2_recordRelease 41 = .ok (.iload_n 1, 1) := by decide +kernel
theorem dX2_recordRelease_42 : decode cX2_recordRelease 42 = .ok (.aload_n 2, 1) := by decide +kernel
theorem dX2_recordRelease_43 : decode cX2_recordRelease 43 = .ok (.aastore, 1) := by decide +kernel
theorem dX2_recordRelease_44 : decode cX2_recordRelease 44 = .ok (.return_, 1) := by decide +kernel
theorem dX2_isReleased_0 : decode cX2_isReleased 0 = .ok (.aload_n 0, 1) := by decide +kernel
theorem dX2_isReleased_1 : decode cX2_isReleased 1 = .ok (.astore_n 3, 1) := by decide +kernel
theorem dX2_isReleased_2 : decode cX2_isReleased 2 = .ok (.aload_n 3, 1) := by decide +kernel
theorem dX2_isReleased_3 : decode cX2_isReleased 3 = .ok (.ifnull 46, 3) := by decide +kernel
theorem dX2_isReleased_6 : decode cX2_isReleased 6 = .ok (.aload_n 3, 1) := by decide +kernel
theorem dX2_isReleased_7 : decode cX2_isReleased 7 = .ok (.getfield 28, 3) := by decide +kernel
theorem dX2_isReleased_10 : decode cX2_isReleased 10 = .ok (.astore 4, 2) := by decide +kernel
theorem dX2_isReleased_12 : decode cX2_isReleased 12 = .ok (.aload 4, 2) := by decide +kernel
theorem dX2_isReleased_14 : decode cX2_isReleased 14 = .ok (.ifnull 27, 3) := by decide +kernel
theorem dX2_isReleased_17 : decode cX2_isReleased 17 = .ok (.iload_n 1, 1) := by decide +kernel
theorem dX2_isReleased_18 : decode cX2_isReleased 18 = .ok (.ifCond .lt 23, 3) := by decide +kernel
theorem dX2_isReleased_21 : decode cX2_isReleased 21 = .ok (.iload_n 1, 1) := by decide +kernel
theorem dX2_isReleased_22 : decode cX2_isReleased 22 = .ok (.aload 4, 2) := by decide +kernel
theorem dX2_isReleased_24 : decode cX2_isReleased 24 = .ok (.arraylength, 1) := by decide +kernel
theorem dX2_isReleased_25 : decode cX2_isReleased 25 = .ok (.if_icmp .ge 16, 3) := by decide +kernel
theorem dX2_isReleased_28 : decode cX2_isReleased 28 = .ok (.aload 4, 2) := by decide +kernel
theorem dX2_isReleased_30 : decode cX2_isReleased 30 = .ok (.iload_n 1, 1) := by decide +kernel
theorem dX2_isReleased_31 : decode cX2_isReleased 31 = .ok (.aaload, 1) := by decide +kernel
theorem dX2_isReleased_32 : decode cX2_isReleased 32 = .ok (.aload_n 2, 1) := by decide +kernel
theorem dX2_isReleased_33 : decode cX2_isReleased 33 = .ok (.invokestatic 45, 3) := by decide +kernel
theorem dX2_isReleased_36 : decode cX2_isReleased 36 = .ok (.ifCond .eq 5, 3) := by decide +kernel
theorem dX2_isReleased_39 : decode cX2_isReleased 39 = .ok (.iconst 1, 1) := by decide +kernel
theorem dX2_isReleased_40 : decode cX2_isReleased 40 = .ok (.ireturn, 1) := by decide +kernel
theorem dX2_isReleased_41 : decode cX2_isReleased 41 = .ok (.aload_n 3, 1) := by decide +kernel
theorem dX2_isReleased_42 : decode cX2_isReleased 42 = .ok (.getfield 17, 3) := by decide +kernel
theorem dX2_isReleased_45 : decode cX2_isReleased 45 = .ok (.astore_n 3, 1) := by decide +kernel
theorem dX2_isReleased_46 : decode cX2_isReleased 46 = .ok (.goto (-44), 3) := by decide +kernel
theorem dX2_isReleased_49 : decode cX2_isReleased 49 = .ok (.iconst 0, 1) := by decide +kernel
theorem dX2_isReleased_50 : decode cX2_isReleased 50 = .ok (.ireturn, 1) := by decide +kernel
theorem dX2_liesOn_0 : decode cX2_liesOn 0 = .ok (.aload_n 0, 1) := by decide +kernel
theorem dX2_liesOn_1 : decode cX2_liesOn 1 = .ok (.getfield 13, 3) := by decide +kernel
theorem dX2_liesOn_4 : decode cX2_liesOn 4 = .ok (.getfield 32, 3) := by decide +kernel
theorem dX2_liesOn_7 : decode cX2_liesOn 7 = .ok (.astore_n 3, 1) := by decide +kernel
theorem dX2_liesOn_8 : decode cX2_liesOn 8 = .ok (.aload_n 3, 1) := by decide +kernel
theorem dX2_liesOn_9 : decode cX2_liesOn 9 = .ok (.iload_n 1, 1) := by decide +kernel
theorem dX2_liesOn_10 : decode cX2_liesOn 10 = .ok (.invokevirtual 49, 3) := by decide +kernel
theorem dX2_liesOn_13 : decode cX2_liesOn 13 = .ok (.ifCond .eq 38, 3) := by decide +kernel
theorem dX2_liesOn_16 : decode cX2_liesOn 16 = .ok (.aload_n 3, 1) := by decide +kernel
theorem dX2_liesOn_17 : decode cX2_liesOn 17 = .ok (.iload_n 1, 1) := by decide +kernel
theorem dX2_liesOn_18 : decode cX2_liesOn 18 = .ok (.invokevirtual 53, 3) := by decide +kernel
theorem dX2_liesOn_21 : decode cX2_liesOn 21 = .ok (.ifCond .ne 30, 3) := by decide +kernel
theorem dX2_liesOn_24 : decode cX2_liesOn 24 = .ok (.aload_n 0, 1) := by decide +kernel
theorem dX2_liesOn_25 : decode cX2_liesOn 25 = .ok (.getfield 13, 3) := by decide +kernel
theorem dX2_liesOn_28 : decode cX2_liesOn 28 = .ok (.getfield 56, 3) := by decide +kernel
theorem dX2_liesOn_31 : decode cX2_liesOn 31 = .ok (.iload_n 1, 1) := by decide +kernel
theorem dX2_liesOn_32 : decode cX2_liesOn 32 = .ok (.lushr, 1) := by decide +kernel
theorem dX2_liesOn_33 : decode cX2_liesOn 33 = .ok (.lconst 1, 1) := by decide +kernel
theorem dX2_liesOn_34 : decode cX2_liesOn 34 = .ok (.land, 1) := by decide +kernel
theorem dX2_liesOn_35 : decode cX2_liesOn 35 = .ok (.lconst 0, 1) := by decide +kernel
theorem dX2_liesOn_36 : decode cX2_liesOn 36 = .ok (.lcmp, 1) := by decide +kernel
theorem dX2_liesOn_37 : decode cX2_liesOn 37 = .ok (.ifCond .eq 14, 3) := by decide +kernel
theorem dX2_liesOn_40 : decode cX2_liesOn 40 = .ok (.aload_n 0, 1) := by decide +kernel
theorem dX2_liesOn_41 : decode cX2_liesOn 41 = .ok (.getfield 13, 3) := by decide +kernel
theorem dX2_liesOn_44 : decode cX2_liesOn 44 = .ok (.aload_n 2, 1) := by decide +kernel
theorem dX2_liesOn_45 : decode cX2_liesOn 45 = .ok (.invokevirtual 59, 3) := by decide +kernel
theorem dX2_liesOn_48 : decode cX2_liesOn 48 = .ok (.ifCond .ne 5, 3) := by decide +kernel
theorem dX2_liesOn_51 : decode cX2_liesOn 51 = .ok (.iconst 0, 1) := by decide +kernel
theorem dX2_liesOn_52 : decode cX2_liesOn 52 = .ok (.ireturn, 1) := by decide +kernel
theorem dX2_liesOn_53 : decode cX2_liesOn 53 = .ok (.aload_n 0, 1) := by decide +kernel
theorem dX2_liesOn_54 : decode cX2_liesOn 54 = .ok (.getfield 13, 3) := by decide +kernel
theorem dX2_liesOn_57 : decode cX2_liesOn 57 = .ok (.getfield 63, 3) := by decide +kernel
theorem dX2_liesOn_60 : decode cX2_liesOn 60 = .ok (.astore 4, 2) := by decide +kernel
theorem dX2_liesOn_62 : decode cX2_liesOn 62 = .ok (.aload 4, 2) := by decide +kernel
theorem dX2_liesOn_64 : decode cX2_liesOn 64 = .ok (.ifnull 34, 3) := by decide +kernel
theorem dX2_liesOn_67 : decode cX2_liesOn 67 = .ok (.aload 4, 2) := by decide +kernel
theorem dX2_liesOn_69 : decode cX2_liesOn 69 = .ok (.aload_n 0, 1) := by decide +kernel
theorem dX2_liesOn_70 : decode cX2_liesOn 70 = .ok (.invokevirtual 66, 3) := by decide +kernel
theorem dX2_liesOn_73 : decode cX2_liesOn 73 = .ok (.ifCond .eq 15, 3) := by decide +kernel
theorem dX2_liesOn_76 : decode cX2_liesOn 76 = .ok (.aload 4, 2) := by decide +kernel
theorem dX2_liesOn_78 : decode cX2_liesOn 78 = .ok (.iload_n 1, 1) := by decide +kernel
theorem dX2_liesOn_79 : decode cX2_liesOn 79 = .ok (.aload_n 2, 1) := by decide +kernel
theorem dX2_liesOn_80 : decode cX2_liesOn 80 = .ok (.invokevirtual 70, 3) := by decide +kernel
theorem dX2_liesOn_83 : decode cX2_liesOn 83 = .ok (.ifCond .ne 5, 3) := by decide +kernel
theorem dX2_liesOn_86 : decode cX2_liesOn 86 = .ok (.iconst 1, 1) := by decide +kernel
theorem dX2_liesOn_87 : decode cX2_liesOn 87 = .ok (.ireturn, 1) := by decide +kernel
theorem dX2_liesOn_88 : decode cX2_liesOn 88 = .ok (.aload 4, 2) := by decide +kernel
theorem dX2_liesOn_90 : decode cX2_liesOn 90 = .ok (.getfield 74, 3) := by decide +kernel
theorem dX2_liesOn_93 : decode cX2_liesOn 93 = .ok (.astore 4, 2) := by decide +kernel
theorem dX2_liesOn_95 : decode cX2_liesOn 95 = .ok (.goto (-33), 3) := by decide +kernel
theorem dX2_liesOn_98 : decode cX2_liesOn 98 = .ok (.iconst 0, 1) := by decide +kernel
theorem dX2_liesOn_99 : decode cX2_liesOn 99 = .ok (.ireturn, 1) := by decide +kernel
theorem dX3_init_0 : decode cX3_init 0 = .ok (.aload_n 0, 1) := by decide +kernel
theorem dX3_init_1 : decode cX3_init 1 = .ok (.invokespecial 1, 3) := by decide +kernel
theorem dX3_init_4 : decode cX3_init 4 = .ok (.aload_n 0, 1) := by decide +kernel
theorem dX3_init_5 : decode cX3_init 5 = .ok (.iload_n 1, 1) := by decide +kernel
theorem dX3_init_6 : decode cX3_init 6 = .ok (.putfield 7, 3) := by decide +kernel
theorem dX3_init_9 : decode cX3_init 9 = .ok (.aload_n 0, 1) := by decide +kernel
theorem dX3_init_10 : decode cX3_init 10 = .ok (.iload_n 2, 1) := by decide +kernel
theorem dX3_init_11 : decode cX3_init 11 = .ok (.putfield 13, 3) := by decide +kernel
theorem dX3_init_14 : decode cX3_init 14 = .ok (.return_, 1) := by decide +kernel
theorem dX3_hasParcel_0 : decode cX3_hasParcel 0 = .ok (.iload_n 1, 1) := by decide +kernel
theorem dX3_hasParcel_1 : decode cX3_hasParcel 1 = .ok (.ifCond .lt 15, 3) := by decide +kernel
theorem dX3_hasParcel_4 : decode cX3_hasParcel 4 = .ok (.iload_n 1, 1) := by decide +kernel
theorem dX3_hasParcel_5 : decode cX3_hasParcel 5 = .ok (.aload_n 0, 1) := by decide +kernel
theorem dX3_hasParcel_6 : decode cX3_hasParcel 6 = .ok (.getfield 13, 3) := by decide +kernel
theorem dX3_hasParcel_9 : decode cX3_hasParcel 9 = .ok (.if_icmp .ge 7, 3) := by decide +kernel
theorem dX3_hasParcel_12 : decode cX3_hasParcel 12 = .ok (.iconst 1, 1) := by decide +kernel
theorem dX3_hasParcel_13 : decode cX3_hasParcel 13 = .ok (.goto 4, 3) := by decide +kernel
theorem dX3_hasParcel_16 : decode cX3_hasParcel 16 = .ok (.iconst 0, 1) := by decide +kernel
theorem dX3_hasParcel_17 : decode cX3_hasParcel 17 = .ok (.ireturn, 1) := by decide +kernel
theorem dX3_isTorn_0 : decode cX3_isTorn 0 = .ok (.aload_n 0, 1) := by decide +kernel
theorem dX3_isTorn_1 : decode cX3_isTorn 1 = .ok (.getfield 16, 3) := by decide +kernel
theorem dX3_isTorn_4 : decode cX3_isTorn 4 = .ok (.iload_n 1, 1) := by decide +kernel
theorem dX3_isTorn_5 : decode cX3_isTorn 5 = .ok (.lushr, 1) := by decide +kernel
theorem dX3_isTorn_6 : decode cX3_isTorn 6 = .ok (.lconst 1, 1) := by decide +kernel
theorem dX3_isTorn_7 : decode cX3_isTorn 7 = .ok (.land, 1) := by decide +kernel
theorem dX3_isTorn_8 : decode cX3_isTorn 8 = .ok (.lconst 0, 1) := by decide +kernel
theorem dX3_isTorn_9 : decode cX3_isTorn 9 = .ok (.lcmp, 1) := by decide +kernel
theorem dX3_isTorn_10 : decode cX3_isTorn 10 = .ok (.ifCond .eq 7, 3) := by decide +kernel
theorem dX3_isTorn_13 : decode cX3_isTorn 13 = .ok (.iconst 1, 1) := by decide +kernel
theorem dX3_isTorn_14 : decode cX3_isTorn 14 = .ok (.goto 4, 3) := by decide +kernel
theorem dX3_isTorn_17 : decode cX3_isTorn 17 = .ok (.iconst 0, 1) := by decide +kernel
theorem dX3_isTorn_18 : decode cX3_isTorn 18 = .ok (.ireturn, 1) := by decide +kernel
theorem dX3_tearOff_0 : decode cX3_tearOff 0 = .ok (.aload_n 0, 1) := by decide +kernel
theorem dX3_tearOff_1 : decode cX3_tearOff 1 = .ok (.dup, 1) := by decide +kernel
theorem dX3_tearOff_2 : decode cX3_tearOff 2 = .ok (.getfield 16, 3) := by decide +kernel
theorem dX3_tearOff_5 : decode cX3_tearOff 5 = .ok (.lconst 1, 1) := by decide +kernel
theorem dX3_tearOff_6 : decode cX3_tearOff 6 = .ok (.iload_n 1, 1) := by decide +kernel
theorem dX3_tearOff_7 : decode cX3_tearOff 7 = .ok (.lshl, 1) := by decide +kernel
theorem dX3_tearOff_8 : decode cX3_tearOff 8 = .ok (.lor, 1) := by decide +kernel
theorem dX3_tearOff_9 : decode cX3_tearOff 9 = .ok (.putfield 16, 3) := by decide +kernel
theorem dX3_tearOff_12 : decode cX3_tearOff 12 = .ok (.return_, 1) := by decide +kernel
theorem dX3_allParcels_0 : decode cX3_allParcels 0 = .ok (.lconst 1, 1) := by decide +kernel
theorem dX3_allParcels_1 : decode cX3_allParcels 1 = .ok (.aload_n 0, 1) := by decide +kernel
theorem dX3_allParcels_2 : decode cX3_allParcels 2 = .ok (.getfield 13, 3) := by decide +kernel
theorem dX3_allParcels_5 : decode cX3_allParcels 5 = .ok (.lshl, 1) := by decide +kernel
theorem dX3_allParcels_6 : decode cX3_allParcels 6 = .ok (.lconst 1, 1) := by decide +kernel
theorem dX3_allParcels_7 : decode cX3_allParcels 7 = .ok (.lsub, 1) := by decide +kernel
theorem dX3_allParcels_8 : decode cX3_allParcels 8 = .ok (.lreturn, 1) := by decide +kernel
theorem dX3_insert_0 : decode cX3_insert 0 = .ok (.aload_n 0, 1) := by decide +kernel
theorem dX3_insert_1 : decode cX3_insert 1 = .ok (.getfield 20, 3) := by decide +kernel
theorem dX3_insert_4 : decode cX3_insert 4 = .ok (.astore_n 2, 1) := by decide +kernel
theorem dX3_insert_5 : decode cX3_insert 5 = .ok (.aload_n 2, 1) := by decide +kernel
theorem dX3_insert_6 : decode cX3_insert 6 = .ok (.ifnull 28, 3) := by decide +kernel
theorem dX3_insert_9 : decode cX3_insert 9 = .ok (.aload_n 2, 1) := by decide +kernel
theorem dX3_insert_10 : decode cX3_insert 10 = .ok (.getfield 24, 3) := by decide +kernel
theorem dX3_insert_13 : decode cX3_insert 13 = .ok (.getfield 30, 3) := by decide +kernel
theorem dX3_insert_16 : decode cX3_insert 16 = .ok (.aload_n 1, 1) := by decide +kernel
theorem dX3_insert_17 : decode cX3_insert 17 = .ok (.getfield 24, 3) := by decide +kernel
theorem dX3_insert_20 : decode cX3_insert 20 = .ok (.getfield 30, 3) := by decide +kernel
theorem dX3_insert_23 : decode cX3_insert 23 = .ok (.if_icmp .le 11, 3) := by decide +kernel
theorem dX3_insert_26 : decode cX3_insert 26 = .ok (.aload_n 2, 1) := by decide +kernel
theorem dX3_insert_27 : decode cX3_insert 27 = .ok (.getfield 35, 3) := by decide +kernel
theorem dX3_insert_30 : decode cX3_insert 30 = .ok (.astore_n 2, 1) := by decide +kernel
theorem dX3_insert_31 : decode cX3_insert 31 = .ok (.goto (-26), 3) := by decide +kernel
theorem dX3_insert_34 : decode cX3_insert 34 = .ok (.aload_n 2, 1) := by decide +kernel
theorem dX3_insert_35 : decode cX3_insert 35 = .ok (.ifnonnull 10, 3) := by decide +kernel
theorem dX3_insert_38 : decode cX3_insert 38 = .ok (.aload_n 0, 1) := by decide +kernel
theorem dX3_insert_39 : decode cX3_insert 39 = .ok (.getfield 38, 3) := by decide +kernel
theorem dX3_insert_42 : decode cX3_insert 42 = .ok (.goto 7, 3) := by decide +kernel
theorem dX3_insert_45 : decode cX3_insert 45 = .ok (.aload_n 2, 1) := by decide +kernel
theorem dX3_insert_46 : decode cX3_insert 46 = .ok (.getfield 41, 3) := by decide +kernel
theorem dX3_insert_49 : decode cX3_insert 49 = .ok (.astore_n 3, 1) := by decide +kernel
theorem dX3_insert_50 : decode cX3_insert 50 = .ok (.aload_n 1, 1) := by decide +kernel
theorem dX3_insert_51 : decode cX3_insert 51 = .ok (.aload_n 2, 1) := by decide +kernel
theorem dX3_insert_52 : decode cX3_insert 52 = .ok (.putfield 35, 3) := by decide +kernel
theorem dX3_insert_55 : decode cX3_insert 55 = .ok (.aload_n 1, 1) := by decide +kernel
theorem dX3_insert_56 : decode cX3_insert 56 = .ok (.aload_n 3, 1) := by decide +kernel
theorem dX3_insert_57 : decode cX3_insert 57 = .ok (.putfield 41, 3) := by decide +kernel
theorem dX3_insert_60 : decode cX3_insert 60 = .ok (.aload_n 2, 1) := by decide +kernel
theorem dX3_insert_61 : decode cX3_insert 61 = .ok (.ifnonnull 11, 3) := by decide +kernel
theorem dX3_insert_64 : decode cX3_insert 64 = .ok (.aload_n 0, 1) := by decide +kernel
theorem dX3_insert_65 : decode cX3_insert 65 = .ok (.aload_n 1, 1) := by decide +kernel
theorem dX3_insert_66 : decode cX3_insert 66 = .ok (.putfield 38, 3) := by decide +kernel
theorem dX3_insert_69 : decode cX3_insert 69 = .ok (.goto 8, 3) := by decide +kernel
theorem dX3_insert_72 : decode cX3_insert 72 = .ok (.aload_n 2, 1) := by decide +kernel
theorem dX3_insert_73 : decode cX3_insert 73 = .ok (.aload_n 1, 1) := by decide +kernel
theorem dX3_insert_74 : decode cX3_insert 74 = .ok (.putfield 41, 3) := by decide +kernel
theorem dX3_insert_77 : decode cX3_insert 77 = .ok (.aload_n 3, 1) := by decide +kernel
theorem dX3_insert_78 : decode cX3_insert 78 = .ok (.ifnonnull 11, 3) := by decide +kernel
theorem dX3_insert_81 : decode cX3_insert 81 = .ok (.aload_n 0, 1) := by decide +kernel
theorem dX3_insert_82 : decode cX3_insert 82 = .ok (.aload_n 1, 1) := by decide +kernel
theorem dX3_insert_83 : decode cX3_insert 83 = .ok (.putfield 20, 3) := by decide +kernel
theorem dX3_insert_86 : decode cX3_insert 86 = .ok (.goto 8, 3) := by decide +kernel
theorem dX3_insert_89 : decode cX3_insert 89 = .ok (.aload_n 3, 1) := by decide +kernel
theorem dX3_insert_90 : decode cX3_insert 90 = .ok (.aload_n 1, 1) := by decide +kernel
theorem dX3_insert_91 : decode cX3_insert 91 = .ok (.putfield 35, 3) := by decide +kernel
theorem dX3_insert_94 : decode cX3_insert 94 = .ok (.return_, 1) := by decide +kernel
theorem dX4_init_0 : decode cX4_init 0 = .ok (.aload_n 0, 1) := by decide +kernel
theorem dX4_init_1 : decode cX4_init 1 = .ok (.invokespecial 1, 3) := by decide +kernel
theorem dX4_init_4 : decode cX4_init 4 = .ok (.aload_n 0, 1) := by decide +kernel
theorem dX4_init_5 : decode cX4_init 5 = .ok (.iload_n 1, 1) := by decide +kernel
theorem dX4_init_6 : decode cX4_init 6 = .ok (.putfield 7, 3) := by decide +kernel
theorem dX4_init_9 : decode cX4_init 9 = .ok (.aload_n 0, 1) := by decide +kernel
theorem dX4_init_10 : decode cX4_init 10 = .ok (.iload_n 2, 1) := by decide +kernel
theorem dX4_init_11 : decode cX4_init 11 = .ok (.putfield 13, 3) := by decide +kernel
theorem dX4_init_14 : decode cX4_init 14 = .ok (.return_, 1) := by decide +kernel
theorem dX5_init_0 : decode cX5_init 0 = .ok (.aload_n 0, 1) := by decide +kernel
theorem dX5_init_1 : decode cX5_init 1 = .ok (.invokespecial 1, 3) := by decide +kernel
theorem dX5_init_4 : decode cX5_init 4 = .ok (.aload_n 0, 1) := by decide +kernel
theorem dX5_init_5 : decode cX5_init 5 = .ok (.iload_n 1, 1) := by decide +kernel
theorem dX5_init_6 : decode cX5_init 6 = .ok (.putfield 7, 3) := by decide +kernel
theorem dX5_init_9 : decode cX5_init 9 = .ok (.aload_n 0, 1) := by decide +kernel
theorem dX5_init_10 : decode cX5_init 10 = .ok (.aload_n 2, 1) := by decide +kernel
theorem dX5_init_11 : decode cX5_init 11 = .ok (.putfield 13, 3) := by decide +kernel
theorem dX5_init_14 : decode cX5_init 14 = .ok (.aload_n 0, 1) := by decide +kernel
theorem dX5_init_15 : decode cX5_init 15 = .ok (.aload_n 3, 1) := by decide +kernel
theorem dX5_init_16 : decode cX5_init 16 = .ok (.putfield 17, 3) := by decide +kernel
theorem dX5_init_19 : decode cX5_init 19 = .ok (.aload_n 0, 1) := by decide +kernel
theorem dX5_init_20 : decode cX5_init 20 = .ok (.lload 4, 2) := by decide +kernel
theorem dX5_init_22 : decode cX5_init 22 = .ok (.putfield 20, 3) := by decide +kernel
theorem dX5_init_25 : decode cX5_init 25 = .ok (.aload_n 0, 1) := by decide +kernel
theorem dX5_init_26 : decode cX5_init 26 = .ok (.aload 6, 2) := by decide +kernel
theorem dX5_init_28 : decode cX5_init 28 = .ok (.putfield 24, 3) := by decide +kernel
theorem dX5_init_31 : decode cX5_init 31 = .ok (.return_, 1) := by decide +kernel
theorem dX5_countsOn_0 : decode cX5_countsOn 0 = .ok (.aload_n 0, 1) := by decide +kernel
theorem dX5_countsOn_1 : decode cX5_countsOn 1 = .ok (.getfield 13, 3) := by decide +kernel
theorem dX5_countsOn_4 : decode cX5_countsOn 4 = .ok (.getfield 28, 3) := by decide +kernel
theorem dX5_countsOn_7 : decode cX5_countsOn 7 = .ok (.getfield 34, 3) := by decide +kernel
theorem dX5_countsOn_10 : decode cX5_countsOn 10 = .ok (.aload_n 1, 1) := by decide +kernel
theorem dX5_countsOn_11 : decode cX5_countsOn 11 = .ok (.if_acmp .ne 53, 3) := by decide +kernel
theorem dX5_countsOn_14 : decode cX5_countsOn 14 = .ok (.aload_n 0, 1) := by decide +kernel
theorem dX5_countsOn_15 : decode cX5_countsOn 15 = .ok (.getfield 24, 3) := by decide +kernel
theorem dX5_countsOn_18 : decode cX5_countsOn 18 = .ok (.aload_n 3, 1) := by decide +kernel
theorem dX5_countsOn_19 : decode cX5_countsOn 19 = .ok (.invokestatic 40, 3) := by decide +kernel
theorem dX5_countsOn_22 : decode cX5_countsOn 22 = .ok (.ifCond .eq 42, 3) := by decide +kernel
theorem dX5_countsOn_25 : decode cX5_countsOn 25 = .ok (.aload_n 0, 1) := by decide +kernel
theorem dX5_countsOn_26 : decode cX5_countsOn 26 = .ok (.getfield 46, 3) := by decide +kernel
theorem dX5_countsOn_29 : decode cX5_countsOn 29 = .ok (.aload_n 3, 1) := by decide +kernel
theorem dX5_countsOn_30 : decode cX5_countsOn 30 = .ok (.invokestatic 40, 3) := by decide +kernel
theorem dX5_countsOn_33 : decode cX5_countsOn 33 = .ok (.ifCond .ne 31, 3) := by decide +kernel
theorem dX5_countsOn_36 : decode cX5_countsOn 36 = .ok (.aload_n 0, 1) := by decide +kernel
theorem dX5_countsOn_37 : decode cX5_countsOn 37 = .ok (.getfield 13, 3) := by decide +kernel
theorem dX5_countsOn_40 : decode cX5_countsOn 40 = .ok (.iload_n 2, 1) := by decide +kernel
theorem dX5_countsOn_41 : decode cX5_countsOn 41 = .ok (.aload_n 3, 1) := by decide +kernel
theorem dX5_countsOn_42 : decode cX5_countsOn 42 = .ok (.invokevirtual 49, 3) := by decide +kernel
theorem dX5_countsOn_45 : decode cX5_countsOn 45 = .ok (.ifCond .eq 19, 3) := by decide +kernel
theorem dX5_countsOn_48 : decode cX5_countsOn 48 = .ok (.aload_n 0, 1) := by decide +kernel
theorem dX5_countsOn_49 : decode cX5_countsOn 49 = .ok (.getfield 17, 3) := by decide +kernel
theorem dX5_countsOn_52 : decode cX5_countsOn 52 = .ok (.iload_n 2, 1) := by decide +kernel
theorem dX5_countsOn_53 : decode cX5_countsOn 53 = .ok (.aload_n 3, 1) := by decide +kernel
theorem dX5_countsOn_54 : decode cX5_countsOn 54 = .ok (.invokevirtual 49, 3) := by decide +kernel
theorem dX5_countsOn_57 : decode cX5_countsOn 57 = .ok (.ifCond .eq 7, 3) := by decide +kernel
theorem dX5_countsOn_60 : decode cX5_countsOn 60 = .ok (.iconst 1, 1) := by decide +kernel
theorem dX5_countsOn_61 : decode cX5_countsOn 61 = .ok (.goto 4, 3) := by decide +kernel
theorem dX5_countsOn_64 : decode cX5_countsOn 64 = .ok (.iconst 0, 1) := by decide +kernel
theorem dX5_countsOn_65 : decode cX5_countsOn 65 = .ok (.ireturn, 1) := by decide +kernel
theorem dX5_changePlaces_0 : decode cX5_changePlaces 0 = .ok (.aload_n 0, 1) := by decide +kernel
theorem dX5_changePlaces_1 : decode cX5_changePlaces 1 = .ok (.getfield 13, 3) := by decide +kernel
theorem dX5_changePlaces_4 : decode cX5_changePlaces 4 = .ok (.getfield 28, 3) := by decide +kernel
theorem dX5_changePlaces_7 : decode cX5_changePlaces 7 = .ok (.astore_n 1, 1) := by decide +kernel
theorem dX5_changePlaces_8 : decode cX5_changePlaces 8 = .ok (.aload_n 0, 1) := by decide +kernel
theorem dX5_changePlaces_9 : decode cX5_changePlaces 9 = .ok (.getfield 17, 3) := by decide +kernel
theorem dX5_changePlaces_12 : decode cX5_changePlaces 12 = .ok (.getfield 28, 3) := by decide +kernel
theorem dX5_changePlaces_15 : decode cX5_changePlaces 15 = .ok (.astore_n 2, 1) := by decide +kernel
theorem dX5_changePlaces_16 : decode cX5_changePlaces 16 = .ok (.aload_n 1, 1) := by decide +kernel
theorem dX5_changePlaces_17 : decode cX5_changePlaces 17 = .ok (.getfield 53, 3) := by decide +kernel
theorem dX5_changePlaces_20 : decode cX5_changePlaces 20 = .ok (.aload_n 2, 1) := by decide +kernel
theorem dX5_changePlaces_21 : decode cX5_changePlaces 21 = .ok (.getfield 53, 3) := by decide +kernel
theorem dX5_changePlaces_24 : decode cX5_changePlaces 24 = .ok (.if_icmp .lt 4, 3) := by decide +kernel
theorem dX5_changePlaces_27 : decode cX5_changePlaces 27 = .ok (.return_, 1) := by decide +kernel
theorem dX5_changePlaces_28 : decode cX5_changePlaces 28 = .ok (.aload_n 1, 1) := by decide +kernel
theorem dX5_changePlaces_29 : decode cX5_changePlaces 29 = .ok (.getfield 53, 3) := by decide +kernel
theorem dX5_changePlaces_32 : decode cX5_changePlaces 32 = .ok (.istore_n 3, 1) := by decide +kernel
theorem dX5_changePlaces_33 : decode cX5_changePlaces 33 = .ok (.aload_n 1, 1) := by decide +kernel
theorem dX5_changePlaces_34 : decode cX5_changePlaces 34 = .ok (.aload_n 2, 1) := by decide +kernel
theorem dX5_changePlaces_35 : decode cX5_changePlaces 35 = .ok (.getfield 53, 3) := by decide +kernel
theorem dX5_changePlaces_38 : decode cX5_changePlaces 38 = .ok (.putfield 53, 3) := by decide +kernel
theorem dX5_changePlaces_41 : decode cX5_changePlaces 41 = .ok (.aload_n 2, 1) := by decide +kernel
theorem dX5_changePlaces_42 : decode cX5_changePlaces 42 = .ok (.iload_n 3, 1) := by decide +kernel
theorem dX5_changePlaces_43 : decode cX5_changePlaces 43 = .ok (.putfield 53, 3) := by decide +kernel
theorem dX5_changePlaces_46 : decode cX5_changePlaces 46 = .ok (.aload_n 1, 1) := by decide +kernel
theorem dX5_changePlaces_47 : decode cX5_changePlaces 47 = .ok (.dup, 1) := by decide +kernel
theorem dX5_changePlaces_48 : decode cX5_changePlaces 48 = .ok (.getfield 56, 3) := by decide +kernel
theorem dX5_changePlaces_51 : decode cX5_changePlaces 51 = .ok (.iconst 1, 1) := by decide +kernel
theorem dX5_changePlaces_52 : decode cX5_changePlaces 52 = .ok (.iadd, 1) := by decide +kernel
theorem dX5_changePlaces_53 : decode cX5_changePlaces 53 = .ok (.putfield 56, 3) := by decide +kernel
theorem dX5_changePlaces_56 : decode cX5_changePlaces 56 = .ok (.aload_n 2, 1) := by decide +kernel
theorem dX5_changePlaces_57 : decode cX5_changePlaces 57 = .ok (.dup, 1) := by decide +kernel
theorem dX5_changePlaces_58 : decode cX5_changePlaces 58 = .ok (.getfield 56, 3) := by decide +kernel
theorem dX5_changePlaces_61 : decode cX5_changePlaces 61 = .ok (.iconst 1, 1) := by decide +kernel
theorem dX5_changePlaces_62 : decode cX5_changePlaces 62 = .ok (.iadd, 1) := by decide +kernel
theorem dX5_changePlaces_63 : decode cX5_changePlaces 63 = .ok (.putfield 56, 3) := by decide +kernel
theorem dX5_changePlaces_66 : decode cX5_changePlaces 66 = .ok (.return_, 1) := by decide +kernel
theorem dX6_init_0 : decode cX6_init 0 = .ok (.aload_n 0, 1) := by decide +kernel
theorem dX6_init_1 : decode cX6_init 1 = .ok (.invokespecial 3, 3) := by decide +kernel
theorem dX6_init_4 : decode cX6_init 4 = .ok (.aload_n 0, 1) := by decide +kernel
theorem dX6_init_5 : decode cX6_init 5 = .ok (.aload_n 1, 1) := by decide +kernel
theorem dX6_init_6 : decode cX6_init 6 = .ok (.putfield 9, 3) := by decide +kernel
theorem dX6_init_9 : decode cX6_init 9 = .ok (.aload_n 0, 1) := by decide +kernel
theorem dX6_init_10 : decode cX6_init 10 = .ok (.iload_n 2, 1) := by decide +kernel
theorem dX6_init_11 : decode cX6_init 11 = .ok (.putfield 15, 3) := by decide +kernel
theorem dX6_init_14 : decode cX6_init 14 = .ok (.aload_n 0, 1) := by decide +kernel
theorem dX6_init_15 : decode cX6_init 15 = .ok (.aload_n 3, 1) := by decide +kernel
theorem dX6_init_16 : decode cX6_init 16 = .ok (.putfield 19, 3) := by decide +kernel
theorem dX6_init_19 : decode cX6_init 19 = .ok (.aload_n 0, 1) := by decide +kernel
theorem dX6_init_20 : decode cX6_init 20 = .ok (.aload 4, 2) := by decide +kernel
theorem dX6_init_22 : decode cX6_init 22 = .ok (.putfield 23, 3) := by decide +kernel
theorem dX6_init_25 : decode cX6_init 25 = .ok (.return_, 1) := by decide +kernel
theorem dX6_arrange_0 : decode cX6_arrange 0 = .ok (.aload_n 0, 1) := by decide +kernel
theorem dX6_arrange_1 : decode cX6_arrange 1 = .ok (.getfield 9, 3) := by decide +kernel
theorem dX6_arrange_4 : decode cX6_arrange 4 = .ok (.getfield 27, 3) := by decide +kernel
theorem dX6_arrange_7 : decode cX6_arrange 7 = .ok (.astore_n 1, 1) := by decide +kernel
theorem dX6_arrange_8 : decode cX6_arrange 8 = .ok (.aload_n 1, 1) := by decide +kernel
theorem dX6_arrange_9 : decode cX6_arrange 9 = .ok (.ifnull 55, 3) := by decide +kernel
theorem dX6_arrange_12 : decode cX6_arrange 12 = .ok (.aload_n 1, 1) := by decide +kernel
theorem dX6_arrange_13 : decode cX6_arrange 13 = .ok (.aload_n 1, 1) := by decide +kernel
theorem dX6_arrange_14 : decode cX6_arrange 14 = .ok (.getfield 33, 3) := by decide +kernel
theorem dX6_arrange_17 : decode cX6_arrange 17 = .ok (.ifnull 25, 3) := by decide +kernel
theorem dX6_arrange_20 : decode cX6_arrange 20 = .ok (.aload_n 1, 1) := by decide +kernel
theorem dX6_arrange_21 : decode cX6_arrange 21 = .ok (.getfield 33, 3) := by decide +kernel
theorem dX6_arrange_24 : decode cX6_arrange 24 = .ok (.aload_n 0, 1) := by decide +kernel
theorem dX6_arrange_25 : decode cX6_arrange 25 = .ok (.getfield 15, 3) := by decide +kernel
theorem dX6_arrange_28 : decode cX6_arrange 28 = .ok (.aload_n 0, 1) := by decide +kernel
theorem dX6_arrange_29 : decode cX6_arrange 29 = .ok (.getfield 19, 3) := by decide +kernel
theorem dX6_arrange_32 : decode cX6_arrange 32 = .ok (.invokevirtual 39, 3) := by decide +kernel
theorem dX6_arrange_35 : decode cX6_arrange 35 = .ok (.ifCond .eq 7, 3) := by decide +kernel
theorem dX6_arrange_38 : decode cX6_arrange 38 = .ok (.iconst 1, 1) := by decide +kernel
theorem dX6_arrange_39 : decode cX6_arrange 39 = .ok (.goto 4, 3) := by decide +kernel
theorem dX6_arrange_42 : decode cX6_arrange 42 = .ok (.iconst 0, 1) := by decide +kernel
theorem dX6_arrange_43 : decode cX6_arrange 43 = .ok (.putfield 45, 3) := by decide +kernel
theorem dX6_arrange_46 : decode cX6_arrange 46 = .ok (.aload_n 1, 1) := by decide +kernel
theorem dX6_arrange_47 : decode cX6_arrange 47 = .ok (.iconst (-1), 1) := by decide +kernel
theorem dX6_arrange_48 : decode cX6_arrange 48 = .ok (.putfield 49, 3) := by decide +kernel
theorem dX6_arrange_51 : decode cX6_arrange 51 = .ok (.aload_n 1, 1) := by decide +kernel
theorem dX6_arrange_52 : decode cX6_arrange 52 = .ok (.iconst 0, 1) := by decide +kernel
theorem dX6_arrange_53 : decode cX6_arrange 53 = .ok (.putfield 52, 3) := by decide +kernel
theorem dX6_arrange_56 : decode cX6_arrange 56 = .ok (.aload_n 1, 1) := by decide +kernel
theorem dX6_arrange_57 : decode cX6_arrange 57 = .ok (.getfield 55, 3) := by decide +kernel
theorem dX6_arrange_60 : decode cX6_arrange 60 = .ok (.astore_n 1, 1) := by decide +kernel
theorem dX6_arrange_61 : decode cX6_arrange 61 = .ok (.goto (-53), 3) := by decide +kernel
theorem dX6_arrange_64 : decode cX6_arrange 64 = .ok (.aload_n 0, 1) := by decide +kernel
theorem dX6_arrange_65 : decode cX6_arrange 65 = .ok (.iconst 1, 1) := by decide +kernel
theorem dX6_arrange_66 : decode cX6_arrange 66 = .ok (.invokevirtual 58, 3) := by decide +kernel
theorem dX6_arrange_69 : decode cX6_arrange 69 = .ok (.aload_n 0, 1) := by decide +kernel
theorem dX6_arrange_70 : decode cX6_arrange 70 = .ok (.iconst 0, 1) := by decide +kernel
theorem dX6_arrange_71 : decode cX6_arrange 71 = .ok (.invokevirtual 58, 3) := by decide +kernel
theorem dX6_arrange_74 : decode cX6_arrange 74 = .ok (.aload_n 0, 1) := by decide +kernel
theorem dX6_arrange_75 : decode cX6_arrange 75 = .ok (.getfield 23, 3) := by decide +kernel
theorem dX6_arrange_78 : decode cX6_arrange 78 = .ok (.astore_n 1, 1) := by decide +kernel
theorem dX6_arrange_79 : decode cX6_arrange 79 = .ok (.aload_n 1, 1) := by decide +kernel
theorem dX6_arrange_80 : decode cX6_arrange 80 = .ok (.ifnull 34, 3) := by decide +kernel
theorem dX6_arrange_83 : decode cX6_arrange 83 = .ok (.aload_n 1, 1) := by decide +kernel
theorem dX6_arrange_84 : decode cX6_arrange 84 = .ok (.aload_n 0, 1) := by decide +kernel
theorem dX6_arrange_85 : decode cX6_arrange 85 = .ok (.getfield 9, 3) := by decide +kernel
theorem dX6_arrange_88 : decode cX6_arrange 88 = .ok (.aload_n 0, 1) := by decide +kernel
theorem dX6_arrange_89 : decode cX6_arrange 89 = .ok (.getfield 15, 3) := by decide +kernel
theorem dX6_arrange_92 : decode cX6_arrange 92 = .ok (.aload_n 0, 1) := by decide +kernel
theorem dX6_arrange_93 : decode cX6_arrange 93 = .ok (.getfield 19, 3) := by decide +kernel
theorem dX6_arrange_96 : decode cX6_arrange 96 = .ok (.invokevirtual 62, 3) := by decide +kernel
theorem dX6_arrange_99 : decode cX6_arrange 99 = .ok (.ifCond .eq 7, 3) := by decide +kernel
theorem dX6_arrange_102 : decode cX6_arrange 102 = .ok (.aload_n 1, 1) := by decide +kernel
theorem dX6_arrange_103 : decode cX6_arrange 103 = .ok (.invokevirtual 68, 3) := by decide +kernel
theorem dX6_arrange_106 : decode cX6_arrange 106 = .ok (.aload_n 1, 1) := by decide +kernel
theorem dX6_arrange_107 : decode cX6_arrange 107 = .ok (.getfield 71, 3) := by decide +kernel
theorem dX6_arrange_110 : decode cX6_arrange 110 = .ok (.astore_n 1, 1) := by decide +kernel
theorem dX6_arrange_111 : decode cX6_arrange 111 = .ok (.goto (-32), 3) := by decide +kernel
theorem dX6_arrange_114 : decode cX6_arrange 114 = .ok (.return_, 1) := by decide +kernel
theorem dX6_rankPlaces_0 : decode cX6_rankPlaces 0 = .ok (.aload_n 0, 1) := by decide +kernel
theorem dX6_rankPlaces_1 : decode cX6_rankPlaces 1 = .ok (.getfield 9, 3) := by decide +kernel
theorem dX6_rankPlaces_4 : decode cX6_rankPlaces 4 = .ok (.getfield 27, 3) := by decide +kernel
theorem dX6_rankPlaces_7 : decode cX6_rankPlaces 7 = .ok (.astore_n 2, 1) := by decide +kernel
theorem dX6_rankPlaces_8 : decode cX6_rankPlaces 8 = .ok (.aload_n 2, 1) := by decide +kernel
theorem dX6_rankPlaces_9 : decode cX6_rankPlaces 9 = .ok (.ifnull 48, 3) := by decide +kernel
theorem dX6_rankPlaces_12 : decode cX6_rankPlaces 12 = .ok (.aload_n 0, 1) := by decide +kernel
theorem dX6_rankPlaces_13 : decode cX6_rankPlaces 13 = .ok (.aload_n 2, 1) := by decide +kernel
theorem dX6_rankPlaces_14 : decode cX6_rankPlaces 14 = .ok (.iload_n 1, 1) := by decide +kernel
theorem dX6_rankPlaces_15 : decode cX6_rankPlaces 15 = .ok (.invokevirtual 73, 3) := by decide +kernel
theorem dX6_rankPlaces_18 : decode cX6_rankPlaces 18 = .ok (.astore_n 3, 1) := by decide +kernel
theorem dX6_rankPlaces_19 : decode cX6_rankPlaces 19 = .ok (.aload_n 3, 1) := by decide +kernel
theorem dX6_rankPlaces_20 : decode cX6_rankPlaces 20 = .ok (.ifnull 29, 3) := by decide +kernel
theorem dX6_rankPlaces_23 : decode cX6_rankPlaces 23 = .ok (.aload_n 3, 1) := by decide +kernel
theorem dX6_rankPlaces_24 : decode cX6_rankPlaces 24 = .ok (.getfield 49, 3) := by decide +kernel
theorem dX6_rankPlaces_27 : decode cX6_rankPlaces 27 = .ok (.iconst (-1), 1) := by decide +kernel
theorem dX6_rankPlaces_28 : decode cX6_rankPlaces 28 = .ok (.if_icmp .ne 21, 3) := by decide +kernel
theorem dX6_rankPlaces_31 : decode cX6_rankPlaces 31 = .ok (.aload_n 3, 1) := by decide +kernel
theorem dX6_rankPlaces_32 : decode cX6_rankPlaces 32 = .ok (.aload_n 0, 1) := by decide +kernel
theorem dX6_rankPlaces_33 : decode cX6_rankPlaces 33 = .ok (.getfield 77, 3) := by decide +kernel
theorem dX6_rankPlaces_36 : decode cX6_rankPlaces 36 = .ok (.putfield 49, 3) := by decide +kernel
theorem dX6_rankPlaces_39 : decode cX6_rankPlaces 39 = .ok (.aload_n 0, 1) := by decide +kernel
theorem dX6_rankPlaces_40 : decode cX6_rankPlaces 40 = .ok (.dup, 1) := by decide +kernel
theorem dX6_rankPlaces_41 : decode cX6_rankPlaces 41 = .ok (.getfield 77, 3) := by decide +kernel
theorem dX6_rankPlaces_44 : decode cX6_rankPlaces 44 = .ok (.iconst 1, 1) := by decide +kernel
theorem dX6_rankPlaces_45 : decode cX6_rankPlaces 45 = .ok (.iadd, 1) := by decide +kernel
theorem dX6_rankPlaces_46 : decode cX6_rankPlaces 46 = .ok (.putfield 77, 3) := by decide +kernel
theorem dX6_rankPlaces_49 : decode cX6_rankPlaces 49 = .ok (.aload_n 2, 1) := by decide +kernel
theorem dX6_rankPlaces_50 : decode cX6_rankPlaces 50 = .ok (.getfield 55, 3) := by decide +kernel
theorem dX6_rankPlaces_53 : decode cX6_rankPlaces 53 = .ok (.astore_n 2, 1) := by decide +kernel
theorem dX6_rankPlaces_54 : decode cX6_rankPlaces 54 = .ok (.goto (-46), 3) := by decide +kernel
theorem dX6_rankPlaces_57 : decode cX6_rankPlaces 57 = .ok (.return_, 1) := by decide +kernel
theorem dX6_placedBy_0 : decode cX6_placedBy 0 = .ok (.aload_n 1, 1) := by decide +kernel
theorem dX6_placedBy_1 : decode cX6_placedBy 1 = .ok (.getfield 45, 3) := by decide +kernel
theorem dX6_placedBy_4 : decode cX6_placedBy 4 = .ok (.ifCond .ne 5, 3) := by decide +kernel
theorem dX6_placedBy_7 : decode cX6_placedBy 7 = .ok (.aconst_null, 1) := by decide +kernel
theorem dX6_placedBy_8 : decode cX6_placedBy 8 = .ok (.areturn, 1) := by decide +kernel
theorem dX6_placedBy_9 : decode cX6_placedBy 9 = .ok (.aload_n 1, 1) := by decide +kernel
theorem dX6_placedBy_10 : decode cX6_placedBy 10 = .ok (.getfield 80, 3) := by decide +kernel
theorem dX6_placedBy_13 : decode cX6_placedBy 13 = .ok (.getfield 84, 3) := by decide +kernel
theorem dX6_placedBy_16 : decode cX6_placedBy 16 = .ok (.bipush 6, 2) := by decide +kernel
theorem dX6_placedBy_18 : decode cX6_placedBy 18 = .ok (.if_icmp .eq 24, 3) := by decide +kernel
theorem dX6_placedBy_21 : decode cX6_placedBy 21 = .ok (.aload_n 1, 1) := by decide +kernel
theorem dX6_placedBy_22 : decode cX6_placedBy 22 = .ok (.getfield 80, 3) := by decide +kernel
theorem dX6_placedBy_25 : decode cX6_placedBy 25 = .ok (.aload_n 0, 1) := by decide +kernel
theorem dX6_placedBy_26 : decode cX6_placedBy 26 = .ok (.getfield 19, 3) := by decide +kernel
theorem dX6_placedBy_29 : decode cX6_placedBy 29 = .ok (.invokevirtual 89, 3) := by decide +kernel
theorem dX6_placedBy_32 : decode cX6_placedBy 32 = .ok (.iload_n 2, 1) := by decide +kernel
theorem dX6_placedBy_33 : decode cX6_placedBy 33 = .ok (.if_icmp .ne 7, 3) := by decide +kernel
theorem dX6_placedBy_36 : decode cX6_placedBy 36 = .ok (.aload_n 1, 1) := by decide +kernel
theorem dX6_placedBy_37 : decode cX6_placedBy 37 = .ok (.goto 4, 3) := by decide +kernel
theorem dX6_placedBy_40 : decode cX6_placedBy 40 = .ok (.aconst_null, 1) := by decide +kernel
theorem dX6_placedBy_41 : decode cX6_placedBy 41 = .ok (.areturn, 1) := by decide +kernel
theorem dX6_placedBy_42 : decode cX6_placedBy 42 = .ok (.iload_n 2, 1) := by decide +kernel
theorem dX6_placedBy_43 : decode cX6_placedBy 43 = .ok (.ifCond .ne 17, 3) := by decide +kernel
theorem dX6_placedBy_46 : decode cX6_placedBy 46 = .ok (.aload_n 1, 1) := by decide +kernel
theorem dX6_placedBy_47 : decode cX6_placedBy 47 = .ok (.getfield 93, 3) := by decide +kernel
theorem dX6_placedBy_50 : decode cX6_placedBy 50 = .ok (.aload_n 0, 1) := by decide +kernel
theorem dX6_placedBy_51 : decode cX6_placedBy 51 = .ok (.getfield 19, 3) := by decide +kernel
theorem dX6_placedBy_54 : decode cX6_placedBy 54 = .ok (.invokestatic 97, 3) := by decide +kernel
theorem dX6_placedBy_57 : decode cX6_placedBy 57 = .ok (.ifCond .ne 5, 3) := by decide +kernel
theorem dX6_placedBy_60 : decode cX6_placedBy 60 = .ok (.aconst_null, 1) := by decide +kernel
theorem dX6_placedBy_61 : decode cX6_placedBy 61 = .ok (.areturn, 1) := by decide +kernel
theorem dX6_placedBy_62 : decode cX6_placedBy 62 = .ok (.aload_n 1, 1) := by decide +kernel
theorem dX6_placedBy_63 : decode cX6_placedBy 63 = .ok (.getfield 103, 3) := by decide +kernel
theorem dX6_placedBy_66 : decode cX6_placedBy 66 = .ok (.astore_n 3, 1) := by decide +kernel
theorem dX6_placedBy_67 : decode cX6_placedBy 67 = .ok (.aload_n 3, 1) := by decide +kernel
theorem dX6_placedBy_68 : decode cX6_placedBy 68 = .ok (.ifnull 14, 3) := by decide +kernel
theorem dX6_placedBy_71 : decode cX6_placedBy 71 = .ok (.aload_n 3, 1) := by decide +kernel
theorem dX6_placedBy_72 : decode cX6_placedBy 72 = .ok (.getfield 45, 3) := by decide +kernel
theorem dX6_placedBy_75 : decode cX6_placedBy 75 = .ok (.ifCond .eq 7, 3) := by decide +kernel
theorem dX6_placedBy_78 : decode cX6_placedBy 78 = .ok (.aload_n 3, 1) := by decide +kernel
theorem dX6_placedBy_79 : decode cX6_placedBy 79 = .ok (.goto 4, 3) := by decide +kernel
theorem dX6_placedBy_82 : decode cX6_placedBy 82 = .ok (.aconst_null, 1) := by decide +kernel
theorem dX6_placedBy_83 : decode cX6_placedBy 83 = .ok (.areturn, 1) := by decide +kernel
theorem dX6_wholeAt_0 : decode cX6_wholeAt 0 = .ok (.aload_n 0, 1) := by decide +kernel
theorem dX6_wholeAt_1 : decode cX6_wholeAt 1 = .ok (.getfield 9, 3) := by decide +kernel
theorem dX6_wholeAt_4 : decode cX6_wholeAt 4 = .ok (.getfield 27, 3) := by decide +kernel
theorem dX6_wholeAt_7 : decode cX6_wholeAt 7 = .ok (.astore_n 2, 1) := by decide +kernel
theorem dX6_wholeAt_8 : decode cX6_wholeAt 8 = .ok (.aload_n 2, 1) := by decide +kernel
theorem dX6_wholeAt_9 : decode cX6_wholeAt 9 = .ok (.ifnull 29, 3) := by decide +kernel
theorem dX6_wholeAt_12 : decode cX6_wholeAt 12 = .ok (.aload_n 2, 1) := by decide +kernel
theorem dX6_wholeAt_13 : decode cX6_wholeAt 13 = .ok (.getfield 49, 3) := by decide +kernel
theorem dX6_wholeAt_16 : decode cX6_wholeAt 16 = .ok (.iconst (-1), 1) := by decide +kernel
theorem dX6_wholeAt_17 : decode cX6_wholeAt 17 = .ok (.if_icmp .eq 13, 3) := by decide +kernel
theorem dX6_wholeAt_20 : decode cX6_wholeAt 20 = .ok (.aload_n 2, 1) := by decide +kernel
theorem dX6_wholeAt_21 : decode cX6_wholeAt 21 = .ok (.getfield 49, 3) := by decide +kernel
theorem dX6_wholeAt_24 : decode cX6_wholeAt 24 = .ok (.iload_n 1, 1) := by decide +kernel
theorem dX6_wholeAt_25 : decode cX6_wholeAt 25 = .ok (.if_icmp .ne 5, 3) := by decide +kernel
theorem dX6_wholeAt_28 : decode cX6_wholeAt 28 = .ok (.aload_n 2, 1) := by decide +kernel
theorem dX6_wholeAt_29 : decode cX6_wholeAt 29 = .ok (.areturn, 1) := by decide +kernel
theorem dX6_wholeAt_30 : decode cX6_wholeAt 30 = .ok (.aload_n 2, 1) := by decide +kernel
theorem dX6_wholeAt_31 : decode cX6_wholeAt 31 = .ok (.getfield 55, 3) := by decide +kernel
theorem dX6_wholeAt_34 : decode cX6_wholeAt 34 = .ok (.astore_n 2, 1) := by decide +kernel
theorem dX6_wholeAt_35 : decode cX6_wholeAt 35 = .ok (.goto (-27), 3) := by decide +kernel
theorem dX6_wholeAt_38 : decode cX6_wholeAt 38 = .ok (.aconst_null, 1) := by decide +kernel
theorem dX6_wholeAt_39 : decode cX6_wholeAt 39 = .ok (.areturn, 1) := by decide +kernel
theorem dX7_init_0 : decode cX7_init 0 = .ok (.aload_n 0, 1) := by decide +kernel
theorem dX7_init_1 : decode cX7_init 1 = .ok (.invokespecial 3, 3) := by decide +kernel
theorem dX7_init_4 : decode cX7_init 4 = .ok (.aload_n 0, 1) := by decide +kernel
theorem dX7_init_5 : decode cX7_init 5 = .ok (.aload_n 1, 1) := by decide +kernel
theorem dX7_init_6 : decode cX7_init 6 = .ok (.putfield 9, 3) := by decide +kernel
theorem dX7_init_9 : decode cX7_init 9 = .ok (.aload_n 0, 1) := by decide +kernel
theorem dX7_init_10 : decode cX7_init 10 = .ok (.lload_n 2, 1) := by decide +kernel
theorem dX7_init_11 : decode cX7_init 11 = .ok (.putfield 15, 3) := by decide +kernel
theorem dX7_init_14 : decode cX7_init 14 = .ok (.return_, 1) := by decide +kernel
theorem dX7_distribute_0 : decode cX7_distribute 0 = .ok (.aload_n 0, 1) := by decide +kernel
theorem dX7_distribute_1 : decode cX7_distribute 1 = .ok (.getfield 9, 3) := by decide +kernel
theorem dX7_distribute_4 : decode cX7_distribute 4 = .ok (.getfield 19, 3) := by decide +kernel
theorem dX7_distribute_7 : decode cX7_distribute 7 = .ok (.getfield 25, 3) := by decide +kernel
theorem dX7_distribute_10 : decode cX7_distribute 10 = .ok (.astore_n 1, 1) := by decide +kernel
theorem dX7_distribute_11 : decode cX7_distribute 11 = .ok (.aload_n 1, 1) := by decide +kernel
theorem dX7_distribute_12 : decode cX7_distribute 12 = .ok (.ifnull 24, 3) := by decide +kernel
theorem dX7_distribute_15 : decode cX7_distribute 15 = .ok (.aload_n 1, 1) := by decide +kernel
theorem dX7_distribute_16 : decode cX7_distribute 16 = .ok (.getfield 31, 3) := by decide +kernel
theorem dX7_distribute_19 : decode cX7_distribute 19 = .ok (.iconst (-1), 1) := by decide +kernel
theorem dX7_distribute_20 : decode cX7_distribute 20 = .ok (.if_icmp .eq 8, 3) := by decide +kernel
theorem dX7_distribute_23 : decode cX7_distribute 23 = .ok (.aload_n 0, 1) := by decide +kernel
theorem dX7_distribute_24 : decode cX7_distribute 24 = .ok (.aload_n 1, 1) := by decide +kernel
theorem dX7_distribute_25 : decode cX7_distribute 25 = .ok (.invokevirtual 37, 3) := by decide +kernel
theorem dX7_distribute_28 : decode cX7_distribute 28 = .ok (.aload_n 1, 1) := by decide +kernel
theorem dX7_distribute_29 : decode cX7_distribute 29 = .ok (.getfield 41, 3) := by decide +kernel
theorem dX7_distribute_32 : decode cX7_distribute 32 = .ok (.astore_n 1, 1) := by decide +kernel
theorem dX7_distribute_33 : decode cX7_distribute 33 = .ok (.goto (-22), 3) := by decide +kernel
theorem dX7_distribute_36 : decode cX7_distribute 36 = .ok (.aload_n 0, 1) := by decide +kernel
theorem dX7_distribute_37 : decode cX7_distribute 37 = .ok (.iconst 1, 1) := by decide +kernel
theorem dX7_distribute_38 : decode cX7_distribute 38 = .ok (.invokevirtual 44, 3) := by decide +kernel
theorem dX7_distribute_41 : decode cX7_distribute 41 = .ok (.aload_n 0, 1) := by decide +kernel
theorem dX7_distribute_42 : decode cX7_distribute 42 = .ok (.iconst 0, 1) := by decide +kernel
theorem dX7_distribute_43 : decode cX7_distribute 43 = .ok (.invokevirtual 44, 3) := by decide +kernel
theorem dX7_distribute_46 : decode cX7_distribute 46 = .ok (.aload_n 0, 1) := by decide +kernel
theorem dX7_distribute_47 : decode cX7_distribute 47 = .ok (.getfield 9, 3) := by decide +kernel
theorem dX7_distribute_50 : decode cX7_distribute 50 = .ok (.getfield 48, 3) := by decide +kernel
theorem dX7_distribute_53 : decode cX7_distribute 53 = .ok (.astore_n 1, 1) := by decide +kernel
theorem dX7_distribute_54 : decode cX7_distribute 54 = .ok (.aload_n 1, 1) := by decide +kernel
theorem dX7_distribute_55 : decode cX7_distribute 55 = .ok (.ifnull 43, 3) := by decide +kernel
theorem dX7_distribute_58 : decode cX7_distribute 58 = .ok (.aload_n 1, 1) := by decide +kernel
theorem dX7_distribute_59 : decode cX7_distribute 59 = .ok (.aload_n 0, 1) := by decide +kernel
theorem dX7_distribute_60 : decode cX7_distribute 60 = .ok (.getfield 9, 3) := by decide +kernel
theorem dX7_distribute_63 : decode cX7_distribute 63 = .ok (.getfield 19, 3) := by decide +kernel
theorem dX7_distribute_66 : decode cX7_distribute 66 = .ok (.aload_n 0, 1) := by decide +kernel
theorem dX7_distribute_67 : decode cX7_distribute 67 = .ok (.getfield 9, 3) := by decide +kernel
theorem dX7_distribute_70 : decode cX7_distribute 70 = .ok (.getfield 52, 3) := by decide +kernel
theorem dX7_distribute_73 : decode cX7_distribute 73 = .ok (.aload_n 0, 1) := by decide +kernel
theorem dX7_distribute_74 : decode cX7_distribute 74 = .ok (.getfield 9, 3) := by decide +kernel
theorem dX7_distribute_77 : decode cX7_distribute 77 = .ok (.getfield 55, 3) := by decide +kernel
theorem dX7_distribute_80 : decode cX7_distribute 80 = .ok (.invokevirtual 59, 3) := by decide +kernel
theorem dX7_distribute_83 : decode cX7_distribute 83 = .ok (.ifCond .eq 7, 3) := by decide +kernel
theorem dX7_distribute_86 : decode cX7_distribute 86 = .ok (.aload_n 1, 1) := by decide +kernel
theorem dX7_distribute_87 : decode cX7_distribute 87 = .ok (.invokestatic 65, 3) := by decide +kernel
theorem dX7_distribute_90 : decode cX7_distribute 90 = .ok (.aload_n 1, 1) := by decide +kernel
theorem dX7_distribute_91 : decode cX7_distribute 91 = .ok (.getfield 69, 3) := by decide +kernel
theorem dX7_distribute_94 : decode cX7_distribute 94 = .ok (.astore_n 1, 1) := by decide +kernel
theorem dX7_distribute_95 : decode cX7_distribute 95 = .ok (.goto (-41), 3) := by decide +kernel
theorem dX7_distribute_98 : decode cX7_distribute 98 = .ok (.aload_n 0, 1) := by decide +kernel
theorem dX7_distribute_99 : decode cX7_distribute 99 = .ok (.getfield 9, 3) := by decide +kernel
theorem dX7_distribute_102 : decode cX7_distribute 102 = .ok (.getfield 19, 3) := by decide +kernel
theorem dX7_distribute_105 : decode cX7_distribute 105 = .ok (.getfield 25, 3) := by decide +kernel
theorem dX7_distribute_108 : decode cX7_distribute 108 = .ok (.astore_n 1, 1) := by decide +kernel
theorem dX7_distribute_109 : decode cX7_distribute 109 = .ok (.aload_n 1, 1) := by decide +kernel
theorem dX7_distribute_110 : decode cX7_distribute 110 = .ok (.ifnull 23, 3) := by decide +kernel
theorem dX7_distribute_113 : decode cX7_distribute 113 = .ok (.aload_n 1, 1) := by decide +kernel
theorem dX7_distribute_114 : decode cX7_distribute 114 = .ok (.getfield 31, 3) := by decide +kernel
theorem dX7_distribute_117 : decode cX7_distribute 117 = .ok (.iconst (-1), 1) := by decide +kernel
theorem dX7_distribute_118 : decode cX7_distribute 118 = .ok (.if_icmp .eq 7, 3) := by decide +kernel
theorem dX7_distribute_121 : decode cX7_distribute 121 = .ok (.aload_n 1, 1) := by decide +kernel
theorem dX7_distribute_122 : decode cX7_distribute 122 = .ok (.invokestatic 71, 3) := by decide +kernel
theorem dX7_distribute_125 : decode cX7_distribute 125 = .ok (.aload_n 1, 1) := by decide +kernel
theorem dX7_distribute_126 : decode cX7_distribute 126 = .ok (.getfield 41, 3) := by decide +kernel
theorem dX7_distribute_129 : decode cX7_distribute 129 = .ok (.astore_n 1, 1) := by decide +kernel
theorem dX7_distribute_130 : decode cX7_distribute 130 = .ok (.goto (-21), 3) := by decide +kernel
theorem dX7_distribute_133 : decode cX7_distribute 133 = .ok (.return_, 1) := by decide +kernel
theorem dX7_makeReady_0 : decode cX7_makeReady 0 = .ok (.aload_n 1, 1) := by decide +kernel
theorem dX7_makeReady_1 : decode cX7_makeReady 1 = .ok (.aload_n 0, 1) := by decide +kernel
theorem dX7_makeReady_2 : decode cX7_makeReady 2 = .ok (.getfield 9, 3) := by decide +kernel
theorem dX7_makeReady_5 : decode cX7_makeReady 5 = .ok (.getfield 55, 3) := by decide +kernel
theorem dX7_makeReady_8 : decode cX7_makeReady 8 = .ok (.getfield 74, 3) := by decide +kernel
theorem dX7_makeReady_11 : decode cX7_makeReady 11 = .ok (.invokevirtual 79, 3) := by decide +kernel
theorem dX7_makeReady_14 : decode cX7_makeReady 14 = .ok (.aload_n 1, 1) := by decide +kernel
theorem dX7_makeReady_15 : decode cX7_makeReady 15 = .ok (.getfield 83, 3) := by decide +kernel
theorem dX7_makeReady_18 : decode cX7_makeReady 18 = .ok (.astore_n 2, 1) := by decide +kernel
theorem dX7_makeReady_19 : decode cX7_makeReady 19 = .ok (.aload_n 2, 1) := by decide +kernel
theorem dX7_makeReady_20 : decode cX7_makeReady 20 = .ok (.ifnull 42, 3) := by decide +kernel
theorem dX7_makeReady_23 : decode cX7_makeReady 23 = .ok (.aload_n 2, 1) := by decide +kernel
theorem dX7_makeReady_24 : decode cX7_makeReady 24 = .ok (.lconst 0, 1) := by decide +kernel
theorem dX7_makeReady_25 : decode cX7_makeReady 25 = .ok (.putfield 87, 3) := by decide +kernel
theorem dX7_makeReady_28 : decode cX7_makeReady 28 = .ok (.aload_n 2, 1) := by decide +kernel
theorem dX7_makeReady_29 : decode cX7_makeReady 29 = .ok (.aload_n 0, 1) := by decide +kernel
theorem dX7_makeReady_30 : decode cX7_makeReady 30 = .ok (.getfield 9, 3) := by decide +kernel
theorem dX7_makeReady_33 : decode cX7_makeReady 33 = .ok (.getfield 52, 3) := by decide +kernel
theorem dX7_makeReady_36 : decode cX7_makeReady 36 = .ok (.aload_n 0, 1) := by decide +kernel
theorem dX7_makeReady_37 : decode cX7_makeReady 37 = .ok (.getfield 9, 3) := by decide +kernel
theorem dX7_makeReady_40 : decode cX7_makeReady 40 = .ok (.getfield 55, 3) := by decide +kernel
theorem dX7_makeReady_43 : decode cX7_makeReady 43 = .ok (.invokevirtual 92, 3) := by decide +kernel
theorem dX7_makeReady_46 : decode cX7_makeReady 46 = .ok (.ifCond .eq 8, 3) := by decide +kernel
theorem dX7_makeReady_49 : decode cX7_makeReady 49 = .ok (.aload_n 2, 1) := by decide +kernel
theorem dX7_makeReady_50 : decode cX7_makeReady 50 = .ok (.lconst 0, 1) := by decide +kernel
theorem dX7_makeReady_51 : decode cX7_makeReady 51 = .ok (.putfield 96, 3) := by decide +kernel
theorem dX7_makeReady_54 : decode cX7_makeReady 54 = .ok (.aload_n 2, 1) := by decide +kernel
theorem dX7_makeReady_55 : decode cX7_makeReady 55 = .ok (.getfield 99, 3) := by decide +kernel
theorem dX7_makeReady_58 : decode cX7_makeReady 58 = .ok (.astore_n 2, 1) := by decide +kernel
theorem dX7_makeReady_59 : decode cX7_makeReady 59 = .ok (.goto (-40), 3) := by decide +kernel
theorem dX7_makeReady_62 : decode cX7_makeReady 62 = .ok (.return_, 1) := by decide +kernel
theorem dX7_payPlaces_0 : decode cX7_payPlaces 0 = .ok (.aload_n 0, 1) := by decide +kernel
theorem dX7_payPlaces_1 : decode cX7_payPlaces 1 = .ok (.getfield 9, 3) := by decide +kernel
theorem dX7_payPlaces_4 : decode cX7_payPlaces 4 = .ok (.getfield 19, 3) := by decide +kernel
theorem dX7_payPlaces_7 : decode cX7_payPlaces 7 = .ok (.getfield 25, 3) := by decide +kernel
theorem dX7_payPlaces_10 : decode cX7_payPlaces 10 = .ok (.astore_n 2, 1) := by decide +kernel
theorem dX7_payPlaces_11 : decode cX7_payPlaces 11 = .ok (.aload_n 2, 1) := by decide +kernel
theorem dX7_payPlaces_12 : decode cX7_payPlaces 12 = .ok (.ifnull 76, 3) := by decide +kernel
theorem dX7_payPlaces_15 : decode cX7_payPlaces 15 = .ok (.aload_n 0, 1) := by decide +kernel
theorem dX7_payPlaces_16 : decode cX7_payPlaces 16 = .ok (.getfield 9, 3) := by decide +kernel
theorem dX7_payPlaces_19 : decode cX7_payPlaces 19 = .ok (.aload_n 2, 1) := by decide +kernel
theorem dX7_payPlaces_20 : decode cX7_payPlaces 20 = .ok (.iload_n 1, 1) := by decide +kernel
theorem dX7_payPlaces_21 : decode cX7_payPlaces 21 = .ok (.invokevirtual 102, 3) := by decide +kernel
theorem dX7_payPlaces_24 : decode cX7_payPlaces 24 = .ok (.astore_n 3, 1) := by decide +kernel
theorem dX7_payPlaces_25 : decode cX7_payPlaces 25 = .ok (.aload_n 3, 1) := by decide +kernel
theorem dX7_payPlaces_26 : decode cX7_payPlaces 26 = .ok (.ifnull 54, 3) := by decide +kernel
theorem dX7_payPlaces_29 : decode cX7_payPlaces 29 = .ok (.aload_n 3, 1) := by decide +kernel
theorem dX7_payPlaces_30 : decode cX7_payPlaces 30 = .ok (.getfield 106, 3) := by decide +kernel
theorem dX7_payPlaces_33 : decode cX7_payPlaces 33 = .ok (.ifnull 47, 3) := by decide +kernel
theorem dX7_payPlaces_36 : decode cX7_payPlaces 36 = .ok (.aload_n 3, 1) := by decide +kernel
theorem dX7_payPlaces_37 : decode cX7_payPlaces 37 = .ok (.aload_n 2, 1) := by decide +kernel
theorem dX7_payPlaces_38 : decode cX7_payPlaces 38 = .ok (.if_acmp .ne 10, 3) := by decide +kernel
theorem dX7_payPlaces_41 : decode cX7_payPlaces 41 = .ok (.aload_n 0, 1) := by decide +kernel
theorem dX7_payPlaces_42 : decode cX7_payPlaces 42 = .ok (.getfield 15, 3) := by decide +kernel
theorem dX7_payPlaces_45 : decode cX7_payPlaces 45 = .ok (.goto 15, 3) := by decide +kernel
theorem dX7_payPlaces_48 : decode cX7_payPlaces 48 = .ok (.aload_n 0, 1) := by decide +kernel
theorem dX7_payPlaces_49 : decode cX7_payPlaces 49 = .ok (.getfield 15, 3) := by decide +kernel
theorem dX7_payPlaces_52 : decode cX7_payPlaces 52 = .ok (.aload_n 2, 1) := by decide +kernel
theorem dX7_payPlaces_53 : decode cX7_payPlaces 53 = .ok (.aconst_null, 1) := by decide +kernel
theorem dX7_payPlaces_54 : decode cX7_payPlaces 54 = .ok (.invokevirtual 109, 3) := by decide +kernel
theorem dX7_payPlaces_57 : decode cX7_payPlaces 57 = .ok (.invokestatic 113, 3) := by decide +kernel
theorem dX7_payPlaces_60 : decode cX7_payPlaces 60 = .ok (.lstore 4, 2) := by decide +kernel
theorem dX7_payPlaces_62 : decode cX7_payPlaces 62 = .ok (.aload_n 0, 1) := by decide +kernel
theorem dX7_payPlaces_63 : decode cX7_payPlaces 63 = .ok (.dup, 1) := by decide +kernel
theorem dX7_payPlaces_64 : decode cX7_payPlaces 64 = .ok (.getfield 15, 3) := by decide +kernel
theorem dX7_payPlaces_67 : decode cX7_payPlaces 67 = .ok (.aload_n 3, 1) := by decide +kernel
theorem dX7_payPlaces_68 : decode cX7_payPlaces 68 = .ok (.getfield 106, 3) := by decide +kernel
theorem dX7_payPlaces_71 : decode cX7_payPlaces 71 = .ok (.lload 4, 2) := by decide +kernel
theorem dX7_payPlaces_73 : decode cX7_payPlaces 73 = .ok (.invokestatic 119, 3) := by decide +kernel
theorem dX7_payPlaces_76 : decode cX7_payPlaces 76 = .ok (.lsub, 1) := by decide +kernel
theorem dX7_payPlaces_77 : decode cX7_payPlaces 77 = .ok (.putfield 15, 3) := by decide +kernel
theorem dX7_payPlaces_80 : decode cX7_payPlaces 80 = .ok (.aload_n 2, 1) := by decide +kernel
theorem dX7_payPlaces_81 : decode cX7_payPlaces 81 = .ok (.getfield 41, 3) := by decide +kernel
theorem dX7_payPlaces_84 : decode cX7_payPlaces 84 = .ok (.astore_n 2, 1) := by decide +kernel
theorem dX7_payPlaces_85 : decode cX7_payPlaces 85 = .ok (.goto (-74), 3) := by decide +kernel
theorem dX7_payPlaces_88 : decode cX7_payPlaces 88 = .ok (.return_, 1) := by decide +kernel
theorem dX7_giveWay_0 : decode cX7_giveWay 0 = .ok (.aload_n 0, 1) := by decide +kernel
theorem dX7_giveWay_1 : decode cX7_giveWay 1 = .ok (.getfield 123, 3) := by decide +kernel
theorem dX7_giveWay_4 : decode cX7_giveWay 4 = .ok (.getfield 126, 3) := by decide +kernel
theorem dX7_giveWay_7 : decode cX7_giveWay 7 = .ok (.aload_n 0, 1) := by decide +kernel
theorem dX7_giveWay_8 : decode cX7_giveWay 8 = .ok (.getfield 123, 3) := by decide +kernel
theorem dX7_giveWay_11 : decode cX7_giveWay 11 = .ok (.invokevirtual 129, 3) := by decide +kernel
theorem dX7_giveWay_14 : decode cX7_giveWay 14 = .ok (.lstore_n 1, 1) := by decide +kernel
theorem dX7_giveWay_15 : decode cX7_giveWay 15 = .ok (.aload_n 0, 1) := by decide +kernel
theorem dX7_giveWay_16 : decode cX7_giveWay 16 = .ok (.getfield 132, 3) := by decide +kernel
theorem dX7_giveWay_19 : decode cX7_giveWay 19 = .ok (.aload_n 0, 1) := by decide +kernel
theorem dX7_giveWay_20 : decode cX7_giveWay 20 = .ok (.getfield 135, 3) := by decide +kernel
theorem dX7_giveWay_23 : decode cX7_giveWay 23 = .ok (.invokestatic 138, 3) := by decide +kernel
theorem dX7_giveWay_26 : decode cX7_giveWay 26 = .ok (.lload_n 1, 1) := by decide +kernel
theorem dX7_giveWay_27 : decode cX7_giveWay 27 = .ok (.invokestatic 113, 3) := by decide +kernel
theorem dX7_giveWay_30 : decode cX7_giveWay 30 = .ok (.invokestatic 113, 3) := by decide +kernel
theorem dX7_giveWay_33 : decode cX7_giveWay 33 = .ok (.lstore_n 3, 1) := by decide +kernel
theorem dX7_giveWay_34 : decode cX7_giveWay 34 = .ok (.lload_n 3, 1) := by decide +kernel
theorem dX7_giveWay_35 : decode cX7_giveWay 35 = .ok (.aload_n 0, 1) := by decide +kernel
theorem dX7_giveWay_36 : decode cX7_giveWay 36 = .ok (.getfield 123, 3) := by decide +kernel
theorem dX7_giveWay_39 : decode cX7_giveWay 39 = .ok (.invokestatic 138, 3) := by decide +kernel
theorem dX7_giveWay_42 : decode cX7_giveWay 42 = .ok (.invokestatic 113, 3) := by decide +kernel
theorem dX7_giveWay_45 : decode cX7_giveWay 45 = .ok (.lstore 5, 2) := by decide +kernel
theorem dX7_giveWay_47 : decode cX7_giveWay 47 = .ok (.aload_n 0, 1) := by decide +kernel
theorem dX7_giveWay_48 : decode cX7_giveWay 48 = .ok (.getfield 135, 3) := by decide +kernel
theorem dX7_giveWay_51 : decode cX7_giveWay 51 = .ok (.lload_n 3, 1) := by decide +kernel
theorem dX7_giveWay_52 : decode cX7_giveWay 52 = .ok (.invokestatic 141, 3) := by decide +kernel
theorem dX7_giveWay_55 : decode cX7_giveWay 55 = .ok (.aload_n 0, 1) := by decide +kernel
theorem dX7_giveWay_56 : decode cX7_giveWay 56 = .ok (.getfield 123, 3) := by decide +kernel
theorem dX7_giveWay_59 : decode cX7_giveWay 59 = .ok (.lload 5, 2) := by decide +kernel
theorem dX7_giveWay_61 : decode cX7_giveWay 61 = .ok (.invokestatic 141, 3) := by decide +kernel
theorem dX7_giveWay_64 : decode cX7_giveWay 64 = .ok (.aload_n 0, 1) := by decide +kernel
theorem dX7_giveWay_65 : decode cX7_giveWay 65 = .ok (.getfield 123, 3) := by decide +kernel
theorem dX7_giveWay_68 : decode cX7_giveWay 68 = .ok (.lload_n 3, 1) := by decide +kernel
theorem dX7_giveWay_69 : decode cX7_giveWay 69 = .ok (.invokestatic 119, 3) := by decide +kernel
theorem dX7_giveWay_72 : decode cX7_giveWay 72 = .ok (.pop2, 1) := by decide +kernel
theorem dX7_giveWay_73 : decode cX7_giveWay 73 = .ok (.aload_n 0, 1) := by decide +kernel
theorem dX7_giveWay_74 : decode cX7_giveWay 74 = .ok (.getfield 135, 3) := by decide +kernel
theorem dX7_giveWay_77 : decode cX7_giveWay 77 = .ok (.lload 5, 2) := by decide +kernel
theorem dX7_giveWay_79 : decode cX7_giveWay 79 = .ok (.invokestatic 119, 3) := by decide +kernel
theorem dX7_giveWay_82 : decode cX7_giveWay 82 = .ok (.pop2, 1) := by decide +kernel
theorem dX7_giveWay_83 : decode cX7_giveWay 83 = .ok (.return_, 1) := by decide +kernel
theorem dX7_hasBelow_0 : decode cX7_hasBelow 0 = .ok (.lconst 0, 1) := by decide +kernel
theorem dX7_hasBelow_1 : decode cX7_hasBelow 1 = .ok (.lstore_n 1, 1) := by decide +kernel
theorem dX7_hasBelow_2 : decode cX7_hasBelow 2 = .ok (.aload_n 0, 1) := by decide +kernel
theorem dX7_hasBelow_3 : decode cX7_hasBelow 3 = .ok (.getfield 126, 3) := by decide +kernel
theorem dX7_hasBelow_6 : decode cX7_hasBelow 6 = .ok (.getfield 83, 3) := by decide +kernel
theorem dX7_hasBelow_9 : decode cX7_hasBelow 9 = .ok (.astore_n 3, 1) := by decide +kernel
theorem dX7_hasBelow_10 : decode cX7_hasBelow 10 = .ok (.aload_n 3, 1) := by decide +kernel
theorem dX7_hasBelow_11 : decode cX7_hasBelow 11 = .ok (.ifnull 26, 3) := by decide +kernel
theorem dX7_hasBelow_14 : decode cX7_hasBelow 14 = .ok (.aload_n 3, 1) := by decide +kernel
theorem dX7_hasBelow_15 : decode cX7_hasBelow 15 = .ok (.aload_n 0, 1) := by decide +kernel
theorem dX7_hasBelow_16 : decode cX7_hasBelow 16 = .ok (.invokevirtual 145, 3) := by decide +kernel
theorem dX7_hasBelow_19 : decode cX7_hasBelow 19 = .ok (.ifCond .eq 10, 3) := by decide +kernel
theorem dX7_hasBelow_22 : decode cX7_hasBelow 22 = .ok (.lload_n 1, 1) := by decide +kernel
theorem dX7_hasBelow_23 : decode cX7_hasBelow 23 = .ok (.aload_n 3, 1) := by decide +kernel
theorem dX7_hasBelow_24 : decode cX7_hasBelow 24 = .ok (.getfield 87, 3) := by decide +kernel
theorem dX7_hasBelow_27 : decode cX7_hasBelow 27 = .ok (.ladd, 1) := by decide +kernel
theorem dX7_hasBelow_28 : decode cX7_hasBelow 28 = .ok (.lstore_n 1, 1) := by decide +kernel
theorem dX7_hasBelow_29 : decode cX7_hasBelow 29 = .ok (.aload_n 3, 1) := by decide +kernel
theorem dX7_hasBelow_30 : decode cX7_hasBelow 30 = .ok (.getfield 99, 3) := by decide +kernel
theorem dX7_hasBelow_33 : decode cX7_hasBelow 33 = .ok (.astore_n 3, 1) := by decide +kernel
theorem dX7_hasBelow_34 : decode cX7_hasBelow 34 = .ok (.goto (-24), 3) := by decide +kernel
theorem dX7_hasBelow_37 : decode cX7_hasBelow 37 = .ok (.lload_n 1, 1) := by decide +kernel
theorem dX7_hasBelow_38 : decode cX7_hasBelow 38 = .ok (.lreturn, 1) := by decide +kernel
theorem dX7_give_0 : decode cX7_give 0 = .ok (.lload_n 1, 1) := by decide +kernel
theorem dX7_give_1 : decode cX7_give 1 = .ok (.lstore_n 3, 1) := by decide +kernel
theorem dX7_give_2 : decode cX7_give 2 = .ok (.aload_n 0, 1) := by decide +kernel
theorem dX7_give_3 : decode cX7_give 3 = .ok (.getfield 126, 3) := by decide +kernel
theorem dX7_give_6 : decode cX7_give 6 = .ok (.getfield 149, 3) := by decide +kernel
theorem dX7_give_9 : decode cX7_give 9 = .ok (.astore 5, 2) := by decide +kernel
theorem dX7_give_11 : decode cX7_give 11 = .ok (.aload 5, 2) := by decide +kernel
theorem dX7_give_13 : decode cX7_give 13 = .ok (.ifnull 50, 3) := by decide +kernel
theorem dX7_give_16 : decode cX7_give 16 = .ok (.aload 5, 2) := by decide +kernel
theorem dX7_give_18 : decode cX7_give 18 = .ok (.aload_n 0, 1) := by decide +kernel
theorem dX7_give_19 : decode cX7_give 19 = .ok (.invokevirtual 145, 3) := by decide +kernel
theorem dX7_give_22 : decode cX7_give 22 = .ok (.ifCond .eq 31, 3) := by decide +kernel
theorem dX7_give_25 : decode cX7_give 25 = .ok (.lload_n 3, 1) := by decide +kernel
theorem dX7_give_26 : decode cX7_give 26 = .ok (.aload 5, 2) := by decide +kernel
theorem dX7_give_28 : decode cX7_give 28 = .ok (.getfield 87, 3) := by decide +kernel
theorem dX7_give_31 : decode cX7_give 31 = .ok (.invokestatic 113, 3) := by decide +kernel
theorem dX7_give_34 : decode cX7_give 34 = .ok (.lstore 6, 2) := by decide +kernel
theorem dX7_give_36 : decode cX7_give 36 = .ok (.aload 5, 2) := by decide +kernel
theorem dX7_give_38 : decode cX7_give 38 = .ok (.dup, 1) := by decide +kernel
theorem dX7_give_39 : decode cX7_give 39 = .ok (.getfield 87, 3) := by decide +kernel
theorem dX7_give_42 : decode cX7_give 42 = .ok (.lload 6, 2) := by decide +kernel
theorem dX7_give_44 : decode cX7_give 44 = .ok (.lsub, 1) := by decide +kernel
theorem dX7_give_45 : decode cX7_give 45 = .ok (.putfield 87, 3) := by decide +kernel
theorem dX7_give_48 : decode cX7_give 48 = .ok (.lload_n 3, 1) := by decide +kernel
theorem dX7_give_49 : decode cX7_give 49 = .ok (.lload 6, 2) := by decide +kernel
theorem dX7_give_51 : decode cX7_give 51 = .ok (.lsub, 1) := by decide +kernel
theorem dX7_give_52 : decode cX7_give 52 = .ok (.lstore_n 3, 1) := by decide +kernel
theorem dX7_give_53 : decode cX7_give 53 = .ok (.aload 5, 2) := by decide +kernel
theorem dX7_give_55 : decode cX7_give 55 = .ok (.getfield 152, 3) := by decide +kernel
theorem dX7_give_58 : decode cX7_give 58 = .ok (.astore 5, 2) := by decide +kernel
theorem dX7_give_60 : decode cX7_give 60 = .ok (.goto (-49), 3) := by decide +kernel
theorem dX7_give_63 : decode cX7_give 63 = .ok (.return_, 1) := by decide +kernel
theorem dX7_get_0 : decode cX7_get 0 = .ok (.lload_n 1, 1) := by decide +kernel
theorem dX7_get_1 : decode cX7_get 1 = .ok (.lstore_n 3, 1) := by decide +kernel
theorem dX7_get_2 : decode cX7_get 2 = .ok (.aload_n 0, 1) := by decide +kernel
theorem dX7_get_3 : decode cX7_get 3 = .ok (.getfield 126, 3) := by decide +kernel
theorem dX7_get_6 : decode cX7_get 6 = .ok (.getfield 83, 3) := by decide +kernel
theorem dX7_get_9 : decode cX7_get 9 = .ok (.astore 5, 2) := by decide +kernel
theorem dX7_get_11 : decode cX7_get 11 = .ok (.aload 5, 2) := by decide +kernel
theorem dX7_get_13 : decode cX7_get 13 = .ok (.ifnull 56, 3) := by decide +kernel
theorem dX7_get_16 : decode cX7_get 16 = .ok (.aload 5, 2) := by decide +kernel
theorem dX7_get_18 : decode cX7_get 18 = .ok (.aload_n 0, 1) := by decide +kernel
theorem dX7_get_19 : decode cX7_get 19 = .ok (.invokevirtual 145, 3) := by decide +kernel
theorem dX7_get_22 : decode cX7_get 22 = .ok (.ifCond .eq 37, 3) := by decide +kernel
theorem dX7_get_25 : decode cX7_get 25 = .ok (.lload_n 3, 1) := by decide +kernel
theorem dX7_get_26 : decode cX7_get 26 = .ok (.aload 5, 2) := by decide +kernel
theorem dX7_get_28 : decode cX7_get 28 = .ok (.getfield 96, 3) := by decide +kernel
theorem dX7_get_31 : decode cX7_get 31 = .ok (.aload 5, 2) := by decide +kernel
theorem dX7_get_33 : decode cX7_get 33 = .ok (.getfield 87, 3) := by decide +kernel
theorem dX7_get_36 : decode cX7_get 36 = .ok (.lsub, 1) := by decide +kernel
theorem dX7_get_37 : decode cX7_get 37 = .ok (.invokestatic 113, 3) := by decide +kernel
theorem dX7_get_40 : decode cX7_get 40 = .ok (.lstore 6, 2) := by decide +kernel
theorem dX7_get_42 : decode cX7_get 42 = .ok (.aload 5, 2) := by decide +kernel
theorem dX7_get_44 : decode cX7_get 44 = .ok (.dup, 1) := by decide +kernel
theorem dX7_get_45 : decode cX7_get 45 = .ok (.getfield 87, 3) := by decide +kernel
theorem dX7_get_48 : decode cX7_get 48 = .ok (.lload 6, 2) := by decide +kernel
theorem dX7_get_50 : decode cX7_get 50 = .ok (.ladd, 1) := by decide +kernel
theorem dX7_get_51 : decode cX7_get 51 = .ok (.putfield 87, 3) := by decide +kernel
theorem dX7_get_54 : decode cX7_get 54 = .ok (.lload_n 3, 1) := by decide +kernel
theorem dX7_get_55 : decode cX7_get 55 = .ok (.lload 6, 2) := by decide +kernel
theorem dX7_get_57 : decode cX7_get 57 = .ok (.lsub, 1) := by decide +kernel
theorem dX7_get_58 : decode cX7_get 58 = .ok (.lstore_n 3, 1) := by decide +kernel
theorem dX7_get_59 : decode cX7_get 59 = .ok (.aload 5, 2) := by decide +kernel
theorem dX7_get_61 : decode cX7_get 61 = .ok (.getfield 99, 3) := by decide +kernel
theorem dX7_get_64 : decode cX7_get 64 = .ok (.astore 5, 2) := by decide +kernel
theorem dX7_get_66 : decode cX7_get 66 = .ok (.goto (-55), 3) := by decide +kernel
theorem dX7_get_69 : decode cX7_get 69 = .ok (.lload_n 1, 1) := by decide +kernel
theorem dX7_get_70 : decode cX7_get 70 = .ok (.lload_n 3, 1) := by decide +kernel
theorem dX7_get_71 : decode cX7_get 71 = .ok (.lsub, 1) := by decide +kernel
theorem dX7_get_72 : decode cX7_get 72 = .ok (.lreturn, 1) := by decide +kernel
theorem dX7_tellShares_0 : decode cX7_tellShares 0 = .ok (.aload_n 0, 1) := by decide +kernel
theorem dX7_tellShares_1 : decode cX7_tellShares 1 = .ok (.getfield 83, 3) := by decide +kernel
theorem dX7_tellShares_4 : decode cX7_tellShares 4 = .ok (.astore_n 1, 1) := by decide +kernel
theorem dX7_tellShares_5 : decode cX7_tellShares 5 = .ok (.aload_n 1, 1) := by decide +kernel
theorem dX7_tellShares_6 : decode cX7_tellShares 6 = .ok (.ifnull 38, 3) := by decide +kernel
theorem dX7_tellShares_9 : decode cX7_tellShares 9 = .ok (.aload_n 1, 1) := by decide +kernel
theorem dX7_tellShares_10 : decode cX7_tellShares 10 = .ok (.astore_n 2, 1) := by decide +kernel
theorem dX7_tellShares_11 : decode cX7_tellShares 11 = .ok (.aload_n 2, 1) := by decide +kernel
theorem dX7_tellShares_12 : decode cX7_tellShares 12 = .ok (.ifnull 24, 3) := by decide +kernel
theorem dX7_tellShares_15 : decode cX7_tellShares 15 = .ok (.aload_n 2, 1) := by decide +kernel
theorem dX7_tellShares_16 : decode cX7_tellShares 16 = .ok (.dup, 1) := by decide +kernel
theorem dX7_tellShares_17 : decode cX7_tellShares 17 = .ok (.getfield 155, 3) := by decide +kernel
theorem dX7_tellShares_20 : decode cX7_tellShares 20 = .ok (.aload_n 1, 1) := by decide +kernel
theorem dX7_tellShares_21 : decode cX7_tellShares 21 = .ok (.getfield 87, 3) := by decide +kernel
theorem dX7_tellShares_24 : decode cX7_tellShares 24 = .ok (.ladd, 1) := by decide +kernel
theorem dX7_tellShares_25 : decode cX7_tellShares 25 = .ok (.putfield 155, 3) := by decide +kernel
theorem dX7_tellShares_28 : decode cX7_tellShares 28 = .ok (.aload_n 2, 1) := by decide +kernel
theorem dX7_tellShares_29 : decode cX7_tellShares 29 = .ok (.getfield 158, 3) := by decide +kernel
theorem dX7_tellShares_32 : decode cX7_tellShares 32 = .ok (.astore_n 2, 1) := by decide +kernel
theorem dX7_tellShares_33 : decode cX7_tellShares 33 = .ok (.goto (-22), 3) := by decide +kernel
theorem dX7_tellShares_36 : decode cX7_tellShares 36 = .ok (.aload_n 1, 1) := by decide +kernel
theorem dX7_tellShares_37 : decode cX7_tellShares 37 = .ok (.getfield 99, 3) := by decide +kernel
theorem dX7_tellShares_40 : decode cX7_tellShares 40 = .ok (.astore_n 1, 1) := by decide +kernel
theorem dX7_tellShares_41 : decode cX7_tellShares 41 = .ok (.goto (-36), 3) := by decide +kernel
theorem dX7_tellShares_44 : decode cX7_tellShares 44 = .ok (.return_, 1) := by decide +kernel
theorem dX7_carryOut_0 : decode cX7_carryOut 0 = .ok (.new 161, 3) := by decide +kernel
theorem dX7_carryOut_3 : decode cX7_carryOut 3 = .ok (.dup, 1) := by decide +kernel
theorem dX7_carryOut_4 : decode cX7_carryOut 4 = .ok (.aload_n 0, 1) := by decide +kernel
theorem dX7_carryOut_5 : decode cX7_carryOut 5 = .ok (.getfield 9, 3) := by decide +kernel
theorem dX7_carryOut_8 : decode cX7_carryOut 8 = .ok (.getfield 55, 3) := by decide +kernel
theorem dX7_carryOut_11 : decode cX7_carryOut 11 = .ok (.getfield 74, 3) := by decide +kernel
theorem dX7_carryOut_14 : decode cX7_carryOut 14 = .ok (.aload_n 0, 1) := by decide +kernel
theorem dX7_carryOut_15 : decode cX7_carryOut 15 = .ok (.getfield 9, 3) := by decide +kernel
theorem dX7_carryOut_18 : decode cX7_carryOut 18 = .ok (.getfield 55, 3) := by decide +kernel
theorem dX7_carryOut_21 : decode cX7_carryOut 21 = .ok (.getfield 74, 3) := by decide +kernel
theorem dX7_carryOut_24 : decode cX7_carryOut 24 = .ok (.invokespecial 163, 3) := by decide +kernel
theorem dX7_carryOut_27 : decode cX7_carryOut 27 = .ok (.astore_n 1, 1) := by decide +kernel
theorem dX7_carryOut_28 : decode cX7_carryOut 28 = .ok (.aload_n 0, 1) := by decide +kernel
theorem dX7_carryOut_29 : decode cX7_carryOut 29 = .ok (.getfield 9, 3) := by decide +kernel
theorem dX7_carryOut_32 : decode cX7_carryOut 32 = .ok (.getfield 19, 3) := by decide +kernel
theorem dX7_carryOut_35 : decode cX7_carryOut 35 = .ok (.getfield 25, 3) := by decide +kernel
theorem dX7_carryOut_38 : decode cX7_carryOut 38 = .ok (.astore_n 2, 1) := by decide +kernel
theorem dX7_carryOut_39 : decode cX7_carryOut 39 = .ok (.aload_n 2, 1) := by decide +kernel
theorem dX7_carryOut_40 : decode cX7_carryOut 40 = .ok (.ifnull 44, 3) := by decide +kernel
theorem dX7_carryOut_43 : decode cX7_carryOut 43 = .ok (.aload_n 2, 1) := by decide +kernel
theorem dX7_carryOut_44 : decode cX7_carryOut 44 = .ok (.getfield 31, 3) := by decide +kernel
theorem dX7_carryOut_47 : decode cX7_carryOut 47 = .ok (.iconst (-1), 1) := by decide +kernel
theorem dX7_carryOut_48 : decode cX7_carryOut 48 = .ok (.if_icmp .eq 28, 3) := by decide +kernel
theorem dX7_carryOut_51 : decode cX7_carryOut 51 = .ok (.aload_n 0, 1) := by decide +kernel
theorem dX7_carryOut_52 : decode cX7_carryOut 52 = .ok (.aload_n 2, 1) := by decide +kernel
theorem dX7_carryOut_53 : decode cX7_carryOut 53 = .ok (.aload_n 1, 1) := by decide +kernel
theorem dX7_carryOut_54 : decode cX7_carryOut 54 = .ok (.invokevirtual 166, 3) := by decide +kernel
theorem dX7_carryOut_57 : decode cX7_carryOut 57 = .ok (.aload_n 2, 1) := by decide +kernel
theorem dX7_carryOut_58 : decode cX7_carryOut 58 = .ok (.getfield 170, 3) := by decide +kernel
theorem dX7_carryOut_61 : decode cX7_carryOut 61 = .ok (.aload_n 1, 1) := by decide +kernel
theorem dX7_carryOut_62 : decode cX7_carryOut 62 = .ok (.getfield 174, 3) := by decide +kernel
theorem dX7_carryOut_65 : decode cX7_carryOut 65 = .ok (.putfield 177, 3) := by decide +kernel
theorem dX7_carryOut_68 : decode cX7_carryOut 68 = .ok (.aload_n 2, 1) := by decide +kernel
theorem dX7_carryOut_69 : decode cX7_carryOut 69 = .ok (.getfield 170, 3) := by decide +kernel
theorem dX7_carryOut_72 : decode cX7_carryOut 72 = .ok (.iconst 1, 1) := by decide +kernel
theorem dX7_carryOut_73 : decode cX7_carryOut 73 = .ok (.putfield 182, 3) := by decide +kernel
theorem dX7_carryOut_76 : decode cX7_carryOut 76 = .ok (.aload_n 2, 1) := by decide +kernel
theorem dX7_carryOut_77 : decode cX7_carryOut 77 = .ok (.getfield 41, 3) := by decide +kernel
theorem dX7_carryOut_80 : decode cX7_carryOut 80 = .ok (.astore_n 2, 1) := by decide +kernel
theorem dX7_carryOut_81 : decode cX7_carryOut 81 = .ok (.goto (-42), 3) := by decide +kernel
theorem dX7_carryOut_84 : decode cX7_carryOut 84 = .ok (.return_, 1) := by decide +kernel
theorem dX7_settleLeaves_0 : decode cX7_settleLeaves 0 = .ok (.aload_n 1, 1) := by decide +kernel
theorem dX7_settleLeaves_1 : decode cX7_settleLeaves 1 = .ok (.getfield 83, 3) := by decide +kernel
theorem dX7_settleLeaves_4 : decode cX7_settleLeaves 4 = .ok (.astore_n 3, 1) := by decide +kernel
theorem dX7_settleLeaves_5 : decode cX7_settleLeaves 5 = .ok (.aload_n 3, 1) := by decide +kernel
theorem dX7_settleLeaves_6 : decode cX7_settleLeaves 6 = .ok (.ifnull 96, 3) := by decide +kernel
theorem dX7_settleLeaves_9 : decode cX7_settleLeaves 9 = .ok (.aload_n 3, 1) := by decide +kernel
theorem dX7_settleLeaves_10 : decode cX7_settleLeaves 10 = .ok (.aload_n 0, 1) := by decide +kernel
theorem dX7_settleLeaves_11 : decode cX7_settleLeaves 11 = .ok (.getfield 9, 3) := by decide +kernel
theorem dX7_settleLeaves_14 : decode cX7_settleLeaves 14 = .ok (.getfield 52, 3) := by decide +kernel
theorem dX7_settleLeaves_17 : decode cX7_settleLeaves 17 = .ok (.aload_n 0, 1) := by decide +kernel
theorem dX7_settleLeaves_18 : decode cX7_settleLeaves 18 = .ok (.getfield 9, 3) := by decide +kernel
theorem dX7_settleLeaves_21 : decode cX7_settleLeaves 21 = .ok (.getfield 55, 3) := by decide +kernel
theorem dX7_settleLeaves_24 : decode cX7_settleLeaves 24 = .ok (.invokevirtual 92, 3) := by decide +kernel
theorem dX7_settleLeaves_27 : decode cX7_settleLeaves 27 = .ok (.ifCond .ne 67, 3) := by decide +kernel
theorem dX7_settleLeaves_30 : decode cX7_settleLeaves 30 = .ok (.aload_n 3, 1) := by decide +kernel
theorem dX7_settleLeaves_31 : decode cX7_settleLeaves 31 = .ok (.getfield 96, 3) := by decide +kernel
theorem dX7_settleLeaves_34 : decode cX7_settleLeaves 34 = .ok (.aload_n 3, 1) := by decide +kernel
theorem dX7_settleLeaves_35 : decode cX7_settleLeaves 35 = .ok (.getfield 87, 3) := by decide +kernel
theorem dX7_settleLeaves_38 : decode cX7_settleLeaves 38 = .ok (.lsub, 1) := by decide +kernel
theorem dX7_settleLeaves_39 : decode cX7_settleLeaves 39 = .ok (.lstore 4, 2) := by decide +kernel
theorem dX7_settleLeaves_41 : decode cX7_settleLeaves 41 = .ok (.aload_n 1, 1) := by decide +kernel
theorem dX7_settleLeaves_42 : decode cX7_settleLeaves 42 = .ok (.getfield 170, 3) := by decide +kernel
theorem dX7_settleLeaves_45 : decode cX7_settleLeaves 45 = .ok (.getfield 186, 3) := by decide +kernel
theorem dX7_settleLeaves_48 : decode cX7_settleLeaves 48 = .ok (.iconst 4, 1) := by decide +kernel
theorem dX7_settleLeaves_49 : decode cX7_settleLeaves 49 = .ok (.if_icmp .ne 7, 3) := by decide +kernel
theorem dX7_settleLeaves_52 : decode cX7_settleLeaves 52 = .ok (.iconst 1, 1) := by decide +kernel
theorem dX7_settleLeaves_53 : decode cX7_settleLeaves 53 = .ok (.goto 4, 3) := by decide +kernel
theorem dX7_settleLeaves_56 : decode cX7_settleLeaves 56 = .ok (.iconst 0, 1) := by decide +kernel
theorem dX7_settleLeaves_57 : decode cX7_settleLeaves 57 = .ok (.istore 6, 2) := by decide +kernel
theorem dX7_settleLeaves_59 : decode cX7_settleLeaves 59 = .ok (.aload_n 3, 1) := by decide +kernel
theorem dX7_settleLeaves_60 : decode cX7_settleLeaves 60 = .ok (.iload 6, 2) := by decide +kernel
theorem dX7_settleLeaves_62 : decode cX7_settleLeaves 62 = .ok (.ifCond .eq 8, 3) := by decide +kernel
theorem dX7_settleLeaves_65 : decode cX7_settleLeaves 65 = .ok (.lload 4, 2) := by decide +kernel
theorem dX7_settleLeaves_67 : decode cX7_settleLeaves 67 = .ok (.goto 12, 3) := by decide +kernel
theorem dX7_settleLeaves_70 : decode cX7_settleLeaves 70 = .ok (.lload 4, 2) := by decide +kernel
theorem dX7_settleLeaves_72 : decode cX7_settleLeaves 72 = .ok (.aload_n 3, 1) := by decide +kernel
theorem dX7_settleLeaves_73 : decode cX7_settleLeaves 73 = .ok (.getfield 189, 3) := by decide +kernel
theorem dX7_settleLeaves_76 : decode cX7_settleLeaves 76 = .ok (.invokestatic 113, 3) := by decide +kernel
theorem dX7_settleLeaves_79 : decode cX7_settleLeaves 79 = .ok (.putfield 189, 3) := by decide +kernel
theorem dX7_settleLeaves_82 : decode cX7_settleLeaves 82 = .ok (.aload_n 3, 1) := by decide +kernel
theorem dX7_settleLeaves_83 : decode cX7_settleLeaves 83 = .ok (.aload_n 0, 1) := by decide +kernel
theorem dX7_settleLeaves_84 : decode cX7_settleLeaves 84 = .ok (.getfield 9, 3) := by decide +kernel
theorem dX7_settleLeaves_87 : decode cX7_settleLeaves 87 = .ok (.getfield 52, 3) := by decide +kernel
theorem dX7_settleLeaves_90 : decode cX7_settleLeaves 90 = .ok (.aload_n 2, 1) := by decide +kernel
theorem dX7_settleLeaves_91 : decode cX7_settleLeaves 91 = .ok (.invokevirtual 192, 3) := by decide +kernel
theorem dX7_settleLeaves_94 : decode cX7_settleLeaves 94 = .ok (.aload_n 3, 1) := by decide +kernel
theorem dX7_settleLeaves_95 : decode cX7_settleLeaves 95 = .ok (.getfield 99, 3) := by decide +kernel
theorem dX7_settleLeaves_98 : decode cX7_settleLeaves 98 = .ok (.astore_n 3, 1) := by decide +kernel
theorem dX7_settleLeaves_99 : decode cX7_settleLeaves 99 = .ok (.goto (-94), 3) := by decide +kernel
theorem dX7_settleLeaves_102 : decode cX7_settleLeaves 102 = .ok (.return_, 1) := by decide +kernel
theorem dX8_init_0 : decode cX8_init 0 = .ok (.aload_n 0, 1) := by decide +kernel
theorem dX8_init_1 : decode cX8_init 1 = .ok (.invokespecial 3, 3) := by decide +kernel
theorem dX8_init_4 : decode cX8_init 4 = .ok (.aload_n 0, 1) := by decide +kernel
theorem dX8_init_5 : decode cX8_init 5 = .ok (.iload_n 1, 1) := by decide +kernel
theorem dX8_init_6 : decode cX8_init 6 = .ok (.putfield 9, 3) := by decide +kernel
theorem dX8_init_9 : decode cX8_init 9 = .ok (.aload_n 0, 1) := by decide +kernel
theorem dX8_init_10 : decode cX8_init 10 = .ok (.iload_n 2, 1) := by decide +kernel
theorem dX8_init_11 : decode cX8_init 11 = .ok (.putfield 15, 3) := by decide +kernel
theorem dX8_init_14 : decode cX8_init 14 = .ok (.aload_n 0, 1) := by decide +kernel
theorem dX8_init_15 : decode cX8_init 15 = .ok (.lload_n 3, 1) := by decide +kernel
theorem dX8_init_16 : decode cX8_init 16 = .ok (.putfield 18, 3) := by decide +kernel
theorem dX8_init_19 : decode cX8_init 19 = .ok (.aload_n 0, 1) := by decide +kernel
theorem dX8_init_20 : decode cX8_init 20 = .ok (.iload 5, 2) := by decide +kernel
theorem dX8_init_22 : decode cX8_init 22 = .ok (.putfield 22, 3) := by decide +kernel
theorem dX8_init_25 : decode cX8_init 25 = .ok (.aload_n 0, 1) := by decide +kernel
theorem dX8_init_26 : decode cX8_init 26 = .ok (.iconst 2, 1) := by decide +kernel
theorem dX8_init_27 : decode cX8_init 27 = .ok (.putfield 25, 3) := by decide +kernel
theorem dX8_init_30 : decode cX8_init 30 = .ok (.return_, 1) := by decide +kernel
theorem dX8_isDivisible_0 : decode cX8_isDivisible 0 = .ok (.aload_n 0, 1) := by decide +kernel
theorem dX8_isDivisible_1 : decode cX8_isDivisible 1 = .ok (.getfield 9, 3) := by decide +kernel
theorem dX8_isDivisible_4 : decode cX8_isDivisible 4 = .ok (.iconst 4, 1) := by decide +kernel
theorem dX8_isDivisible_5 : decode cX8_isDivisible 5 = .ok (.if_icmp .eq 16, 3) := by decide +kernel
theorem dX8_isDivisible_8 : decode cX8_isDivisible 8 = .ok (.aload_n 0, 1) := by decide +kernel
theorem dX8_isDivisible_9 : decode cX8_isDivisible 9 = .ok (.getfield 9, 3) := by decide +kernel
theorem dX8_isDivisible_12 : decode cX8_isDivisible 12 = .ok (.bipush 6, 2) := by decide +kernel
theorem dX8_isDivisible_14 : decode cX8_isDivisible 14 = .ok (.if_icmp .eq 7, 3) := by decide +kernel
theorem dX8_isDivisible_17 : decode cX8_isDivisible 17 = .ok (.iconst 1, 1) := by decide +kernel
theorem dX8_isDivisible_18 : decode cX8_isDivisible 18 = .ok (.goto 4, 3) := by decide +kernel
theorem dX8_isDivisible_21 : decode cX8_isDivisible 21 = .ok (.iconst 0, 1) := by decide +kernel
theorem dX8_isDivisible_22 : decode cX8_isDivisible 22 = .ok (.ireturn, 1) := by decide +kernel
theorem dX8_hasPaper_0 : decode cX8_hasPaper 0 = .ok (.aload_n 0, 1) := by decide +kernel
theorem dX8_hasPaper_1 : decode cX8_hasPaper 1 = .ok (.getfield 9, 3) := by decide +kernel
theorem dX8_hasPaper_4 : decode cX8_hasPaper 4 = .ok (.iconst 2, 1) := by decide +kernel
theorem dX8_hasPaper_5 : decode cX8_hasPaper 5 = .ok (.if_icmp .eq 11, 3) := by decide +kernel
theorem dX8_hasPaper_8 : decode cX8_hasPaper 8 = .ok (.aload_n 0, 1) := by decide +kernel
theorem dX8_hasPaper_9 : decode cX8_hasPaper 9 = .ok (.getfield 9, 3) := by decide +kernel
theorem dX8_hasPaper_12 : decode cX8_hasPaper 12 = .ok (.iconst 3, 1) := by decide +kernel
theorem dX8_hasPaper_13 : decode cX8_hasPaper 13 = .ok (.if_icmp .ne 7, 3) := by decide +kernel
theorem dX8_hasPaper_16 : decode cX8_hasPaper 16 = .ok (.iconst 1, 1) := by decide +kernel
theorem dX8_hasPaper_17 : decode cX8_hasPaper 17 = .ok (.goto 4, 3) := by decide +kernel
theorem dX8_hasPaper_20 : decode cX8_hasPaper 20 = .ok (.iconst 0, 1) := by decide +kernel
theorem dX8_hasPaper_21 : decode cX8_hasPaper 21 = .ok (.ireturn, 1) := by decide +kernel
theorem dX8_claimAhead_0 : decode cX8_claimAhead 0 = .ok (.aload_n 0, 1) := by decide +kernel
theorem dX8_claimAhead_1 : decode cX8_claimAhead 1 = .ok (.iload_n 1, 1) := by decide +kernel
theorem dX8_claimAhead_2 : decode cX8_claimAhead 2 = .ok (.putfield 28, 3) := by decide +kernel
theorem dX8_claimAhead_5 : decode cX8_claimAhead 5 = .ok (.aload_n 0, 1) := by decide +kernel
theorem dX8_claimAhead_6 : decode cX8_claimAhead 6 = .ok (.iload_n 2, 1) := by decide +kernel
theorem dX8_claimAhead_7 : decode cX8_claimAhead 7 = .ok (.putfield 25, 3) := by decide +kernel
theorem dX8_claimAhead_10 : decode cX8_claimAhead 10 = .ok (.aload_n 0, 1) := by decide +kernel
theorem dX8_claimAhead_11 : decode cX8_claimAhead 11 = .ok (.aload_n 3, 1) := by decide +kernel
theorem dX8_claimAhead_12 : decode cX8_claimAhead 12 = .ok (.putfield 31, 3) := by decide +kernel
theorem dX8_claimAhead_15 : decode cX8_claimAhead 15 = .ok (.return_, 1) := by decide +kernel
theorem dX8_goesAhead_0 : decode cX8_goesAhead 0 = .ok (.aload_n 0, 1) := by decide +kernel
theorem dX8_goesAhead_1 : decode cX8_goesAhead 1 = .ok (.getfield 31, 3) := by decide +kernel
theorem dX8_goesAhead_4 : decode cX8_goesAhead 4 = .ok (.aload_n 1, 1) := by decide +kernel
theorem dX8_goesAhead_5 : decode cX8_goesAhead 5 = .ok (.invokestatic 35, 3) := by decide +kernel
theorem dX8_goesAhead_8 : decode cX8_goesAhead 8 = .ok (.ifCond .eq 18, 3) := by decide +kernel
theorem dX8_goesAhead_11 : decode cX8_goesAhead 11 = .ok (.aload_n 0, 1) := by decide +kernel
theorem dX8_goesAhead_12 : decode cX8_goesAhead 12 = .ok (.getfield 28, 3) := by decide +kernel
theorem dX8_goesAhead_15 : decode cX8_goesAhead 15 = .ok (.aload_n 1, 1) := by decide +kernel
theorem dX8_goesAhead_16 : decode cX8_goesAhead 16 = .ok (.getfield 41, 3) := by decide +kernel
theorem dX8_goesAhead_19 : decode cX8_goesAhead 19 = .ok (.if_icmp .gt 7, 3) := by decide +kernel
theorem dX8_goesAhead_22 : decode cX8_goesAhead 22 = .ok (.iconst 1, 1) := by decide +kernel
theorem dX8_goesAhead_23 : decode cX8_goesAhead 23 = .ok (.goto 4, 3) := by decide +kernel
theorem dX8_goesAhead_26 : decode cX8_goesAhead 26 = .ok (.iconst 0, 1) := by decide +kernel
theorem dX8_goesAhead_27 : decode cX8_goesAhead 27 = .ok (.ireturn, 1) := by decide +kernel
theorem dX8_dueOf_0 : decode cX8_dueOf 0 = .ok (.aload_n 0, 1) := by decide +kernel
theorem dX8_dueOf_1 : decode cX8_dueOf 1 = .ok (.getfield 9, 3) := by decide +kernel
theorem dX8_dueOf_4 : decode cX8_dueOf 4 = .ok (.tableswitch 68 3 6 #[54, 34, 68, 32], 32) := by decide +kernel
theorem dX8_dueOf_36 : decode cX8_dueOf 36 = .ok (.lconst 0, 1) := by decide +kernel
theorem dX8_dueOf_37 : decode cX8_dueOf 37 = .ok (.lreturn, 1) := by decide +kernel
theorem dX8_dueOf_38 : decode cX8_dueOf 38 = .ok (.aload_n 0, 1) := by decide +kernel
theorem dX8_dueOf_39 : decode cX8_dueOf 39 = .ok (.getfield 46, 3) := by decide +kernel
theorem dX8_dueOf_42 : decode cX8_dueOf 42 = .ok (.ifCond .eq 7, 3) := by decide +kernel
theorem dX8_dueOf_45 : decode cX8_dueOf 45 = .ok (.lload_n 1, 1) := by decide +kernel
theorem dX8_dueOf_46 : decode cX8_dueOf 46 = .ok (.goto 11, 3) := by decide +kernel
theorem dX8_dueOf_49 : decode cX8_dueOf 49 = .ok (.lload_n 1, 1) := by decide +kernel
theorem dX8_dueOf_50 : decode cX8_dueOf 50 = .ok (.aload_n 0, 1) := by decide +kernel
theorem dX8_dueOf_51 : decode cX8_dueOf 51 = .ok (.iload_n 3, 1) := by decide +kernel
theorem dX8_dueOf_52 : decode cX8_dueOf 52 = .ok (.invokevirtual 50, 3) := by decide +kernel
theorem dX8_dueOf_55 : decode cX8_dueOf 55 = .ok (.i2l, 1) := by decide +kernel
theorem dX8_dueOf_56 : decode cX8_dueOf 56 = .ok (.lmul, 1) := by decide +kernel
theorem dX8_dueOf_57 : decode cX8_dueOf 57 = .ok (.lreturn, 1) := by decide +kernel
theorem dX8_dueOf_58 : decode cX8_dueOf 58 = .ok (.aload_n 0, 1) := by decide +kernel
theorem dX8_dueOf_59 : decode cX8_dueOf 59 = .ok (.getfield 18, 3) := by decide +kernel
theorem dX8_dueOf_62 : decode cX8_dueOf 62 = .ok (.aload_n 0, 1) := by decide +kernel
theorem dX8_dueOf_63 : decode cX8_dueOf 63 = .ok (.lload_n 1, 1) := by decide +kernel
theorem dX8_dueOf_64 : decode cX8_dueOf 64 = .ok (.iload_n 3, 1) := by decide +kernel
theorem dX8_dueOf_65 : decode cX8_dueOf 65 = .ok (.invokevirtual 54, 3) := by decide +kernel
theorem dX8_dueOf_68 : decode cX8_dueOf 68 = .ok (.invokestatic 58, 3) := by decide +kernel
theorem dX8_dueOf_71 : decode cX8_dueOf 71 = .ok (.lreturn, 1) := by decide +kernel
theorem dX8_dueOf_72 : decode cX8_dueOf 72 = .ok (.aload_n 0, 1) := by decide +kernel
theorem dX8_dueOf_73 : decode cX8_dueOf 73 = .ok (.lload_n 1, 1) := by decide +kernel
theorem dX8_dueOf_74 : decode cX8_dueOf 74 = .ok (.iload_n 3, 1) := by decide +kernel
theorem dX8_dueOf_75 : decode cX8_dueOf 75 = .ok (.invokevirtual 54, 3) := by decide +kernel
theorem dX8_dueOf_78 : decode cX8_dueOf 78 = .ok (.lreturn, 1) := by decide +kernel
theorem dX8_withInterest_0 : decode cX8_withInterest 0 = .ok (.iload_n 3, 1) := by decide +kernel
theorem dX8_withInterest_1 : decode cX8_withInterest 1 = .ok (.aload_n 0, 1) := by decide +kernel
theorem dX8_withInterest_2 : decode cX8_withInterest 2 = .ok (.getfield 22, 3) := by decide +kernel
theorem dX8_withInterest_5 : decode cX8_withInterest 5 = .ok (.isub, 1) := by decide +kernel
theorem dX8_withInterest_6 : decode cX8_withInterest 6 = .ok (.sipush 365, 3) := by decide +kernel
theorem dX8_withInterest_9 : decode cX8_withInterest 9 = .ok (.aload_n 0, 1) := by decide +kernel
theorem dX8_withInterest_10 : decode cX8_withInterest 10 = .ok (.getfield 25, 3) := by decide +kernel
theorem dX8_withInterest_13 : decode cX8_withInterest 13 = .ok (.imul, 1) := by decide +kernel
theorem dX8_withInterest_14 : decode cX8_withInterest 14 = .ok (.invokestatic 64, 3) := by decide +kernel
theorem dX8_withInterest_17 : decode cX8_withInterest 17 = .ok (.istore 4, 2) := by decide +kernel
theorem dX8_withInterest_19 : decode cX8_withInterest 19 = .ok (.lload_n 1, 1) := by decide +kernel
theorem dX8_withInterest_20 : decode cX8_withInterest 20 = .ok (.lload_n 1, 1) := by decide +kernel
theorem dX8_withInterest_21 : decode cX8_withInterest 21 = .ok (.aload_n 0, 1) := by decide +kernel
theorem dX8_withInterest_22 : decode cX8_withInterest 22 = .ok (.getfield 15, 3) := by decide +kernel
theorem dX8_withInterest_25 : decode cX8_withInterest 25 = .ok (.i2l, 1) := by decide +kernel
theorem dX8_withInterest_26 : decode cX8_withInterest 26 = .ok (.lmul, 1) := by decide +kernel
theorem dX8_withInterest_27 : decode cX8_withInterest 27 = .ok (.iload 4, 2) := by decide +kernel
theorem dX8_withInterest_29 : decode cX8_withInterest 29 = .ok (.i2l, 1) := by decide +kernel
theorem dX8_withInterest_30 : decode cX8_withInterest 30 = .ok (.lmul, 1) := by decide +kernel
theorem dX8_withInterest_31 : decode cX8_withInterest 31 = .ok (.ldc2_w 67, 3) := by decide +kernel
theorem dX8_withInterest_34 : decode cX8_withInterest 34 = .ok (.ldiv, 1) := by decide +kernel
theorem dX8_withInterest_35 : decode cX8_withInterest 35 = .ok (.ladd, 1) := by decide +kernel
theorem dX8_withInterest_36 : decode cX8_withInterest 36 = .ok (.lreturn, 1) := by decide +kernel
theorem dX8_rentYears_0 : decode cX8_rentYears 0 = .ok (.aload_n 0, 1) := by decide +kernel
theorem dX8_rentYears_1 : decode cX8_rentYears 1 = .ok (.getfield 15, 3) := by decide +kernel
theorem dX8_rentYears_4 : decode cX8_rentYears 4 = .ok (.ifCond .ne 6, 3) := by decide +kernel
theorem dX8_rentYears_7 : decode cX8_rentYears 7 = .ok (.bipush 20, 2) := by decide +kernel
theorem dX8_rentYears_9 : decode cX8_rentYears 9 = .ok (.ireturn, 1) := by decide +kernel
theorem dX8_rentYears_10 : decode cX8_rentYears 10 = .ok (.bipush 20, 2) := by decide +kernel
theorem dX8_rentYears_12 : decode cX8_rentYears 12 = .ok (.iconst 0, 1) := by decide +kernel
theorem dX8_rentYears_13 : decode cX8_rentYears 13 = .ok (.aload_n 0, 1) := by decide +kernel
theorem dX8_rentYears_14 : decode cX8_rentYears 14 = .ok (.getfield 15, 3) := by decide +kernel
theorem dX8_rentYears_17 : decode cX8_rentYears 17 = .ok (.iload_n 1, 1) := by decide +kernel
theorem dX8_rentYears_18 : decode cX8_rentYears 18 = .ok (.isub, 1) := by decide +kernel
theorem dX8_rentYears_19 : decode cX8_rentYears 19 = .ok (.invokestatic 69, 3) := by decide +kernel
theorem dX8_rentYears_22 : decode cX8_rentYears 22 = .ok (.sipush 365, 3) := by decide +kernel
theorem dX8_rentYears_25 : decode cX8_rentYears 25 = .ok (.idiv, 1) := by decide +kernel
theorem dX8_rentYears_26 : decode cX8_rentYears 26 = .ok (.invokestatic 64, 3) := by decide +kernel
theorem dX8_rentYears_29 : decode cX8_rentYears 29 = .ok (.ireturn, 1) := by decide +kernel
theorem dX9_init_0 : decode cX9_init 0 = .ok (.aload_n 0, 1) := by decide +kernel
theorem dX9_init_1 : decode cX9_init 1 = .ok (.invokespecial 3, 3) := by decide +kernel
theorem dX9_init_4 : decode cX9_init 4 = .ok (.aload_n 0, 1) := by decide +kernel
theorem dX9_init_5 : decode cX9_init 5 = .ok (.aload_n 1, 1) := by decide +kernel
theorem dX9_init_6 : decode cX9_init 6 = .ok (.putfield 9, 3) := by decide +kernel
theorem dX9_init_9 : decode cX9_init 9 = .ok (.aload_n 0, 1) := by decide +kernel
theorem dX9_init_10 : decode cX9_init 10 = .ok (.lload_n 2, 1) := by decide +kernel
theorem dX9_init_11 : decode cX9_init 11 = .ok (.putfield 15, 3) := by decide +kernel
theorem dX9_init_14 : decode cX9_init 14 = .ok (.aload_n 0, 1) := by decide +kernel
theorem dX9_init_15 : decode cX9_init 15 = .ok (.aload 4, 2) := by decide +kernel
theorem dX9_init_17 : decode cX9_init 17 = .ok (.putfield 19, 3) := by decide +kernel
theorem dX9_init_20 : decode cX9_init 20 = .ok (.aload_n 0, 1) := by decide +kernel
theorem dX9_init_21 : decode cX9_init 21 = .ok (.aload 5, 2) := by decide +kernel
theorem dX9_init_23 : decode cX9_init 23 = .ok (.putfield 23, 3) := by decide +kernel
theorem dX9_init_26 : decode cX9_init 26 = .ok (.aload_n 0, 1) := by decide +kernel
theorem dX9_init_27 : decode cX9_init 27 = .ok (.iconst 1, 1) := by decide +kernel
theorem dX9_init_28 : decode cX9_init 28 = .ok (.putfield 27, 3) := by decide +kernel
theorem dX9_init_31 : decode cX9_init 31 = .ok (.return_, 1) := by decide +kernel
theorem dX9_begin_0 : decode cX9_begin 0 = .ok (.aload_n 0, 1) := by decide +kernel
theorem dX9_begin_1 : decode cX9_begin 1 = .ok (.aload_n 1, 1) := by decide +kernel
theorem dX9_begin_2 : decode cX9_begin 2 = .ok (.putfield 31, 3) := by decide +kernel
theorem dX9_begin_5 : decode cX9_begin 5 = .ok (.aload_n 0, 1) := by decide +kernel
theorem dX9_begin_6 : decode cX9_begin 6 = .ok (.aload_n 1, 1) := by decide +kernel
theorem dX9_begin_7 : decode cX9_begin 7 = .ok (.putfield 35, 3) := by decide +kernel
theorem dX9_begin_10 : decode cX9_begin 10 = .ok (.aload_n 0, 1) := by decide +kernel
theorem dX9_begin_11 : decode cX9_begin 11 = .ok (.aload_n 1, 1) := by decide +kernel
theorem dX9_begin_12 : decode cX9_begin 12 = .ok (.putfield 38, 3) := by decide +kernel
theorem dX9_begin_15 : decode cX9_begin 15 = .ok (.return_, 1) := by decide +kernel
theorem dX9_number_0 : decode cX9_number 0 = .ok (.aload_n 0, 1) := by decide +kernel
theorem dX9_number_1 : decode cX9_number 1 = .ok (.getfield 31, 3) := by decide +kernel
theorem dX9_number_4 : decode cX9_number 4 = .ok (.ifnonnull 7, 3) := by decide +kernel
theorem dX9_number_7 : decode cX9_number 7 = .ok (.iconst (-1), 1) := by decide +kernel
theorem dX9_number_8 : decode cX9_number 8 = .ok (.goto 10, 3) := by decide +kernel
theorem dX9_number_11 : decode cX9_number 11 = .ok (.aload_n 0, 1) := by decide +kernel
theorem dX9_number_12 : decode cX9_number 12 = .ok (.getfield 31, 3) := by decide +kernel
theorem dX9_number_15 : decode cX9_number 15 = .ok (.getfield 41, 3) := by decide +kernel
theorem dX9_number_18 : decode cX9_number 18 = .ok (.ireturn, 1) := by decide +kernel
theorem dX9_livesAt_0 : decode cX9_livesAt 0 = .ok (.aload_n 0, 1) := by decide +kernel
theorem dX9_livesAt_1 : decode cX9_livesAt 1 = .ok (.getfield 19, 3) := by decide +kernel
theorem dX9_livesAt_4 : decode cX9_livesAt 4 = .ok (.aload_n 1, 1) := by decide +kernel
theorem dX9_livesAt_5 : decode cX9_livesAt 5 = .ok (.invokestatic 47, 3) := by decide +kernel
theorem dX9_livesAt_8 : decode cX9_livesAt 8 = .ok (.ifCond .eq 18, 3) := by decide +kernel
theorem dX9_livesAt_11 : decode cX9_livesAt 11 = .ok (.aload_n 0, 1) := by decide +kernel
theorem dX9_livesAt_12 : decode cX9_livesAt 12 = .ok (.getfield 53, 3) := by decide +kernel
theorem dX9_livesAt_15 : decode cX9_livesAt 15 = .ok (.aload_n 1, 1) := by decide +kernel
theorem dX9_livesAt_16 : decode cX9_livesAt 16 = .ok (.invokestatic 47, 3) := by decide +kernel
theorem dX9_livesAt_19 : decode cX9_livesAt 19 = .ok (.ifCond .ne 7, 3) := by decide +kernel
theorem dX9_livesAt_22 : decode cX9_livesAt 22 = .ok (.iconst 1, 1) := by decide +kernel
theorem dX9_livesAt_23 : decode cX9_livesAt 23 = .ok (.goto 4, 3) := by decide +kernel
theorem dX9_livesAt_26 : decode cX9_livesAt 26 = .ok (.iconst 0, 1) := by decide +kernel
theorem dX9_livesAt_27 : decode cX9_livesAt 27 = .ok (.ireturn, 1) := by decide +kernel
theorem dX9_replaceLeaf_0 : decode cX9_replaceLeaf 0 = .ok (.aload_n 1, 1) := by decide +kernel
theorem dX9_replaceLeaf_1 : decode cX9_replaceLeaf 1 = .ok (.iconst 1, 1) := by decide +kernel
theorem dX9_replaceLeaf_2 : decode cX9_replaceLeaf 2 = .ok (.putfield 56, 3) := by decide +kernel
theorem dX9_replaceLeaf_5 : decode cX9_replaceLeaf 5 = .ok (.aload_n 2, 1) := by decide +kernel
theorem dX9_replaceLeaf_6 : decode cX9_replaceLeaf 6 = .ok (.aload_n 1, 1) := by decide +kernel
theorem dX9_replaceLeaf_7 : decode cX9_replaceLeaf 7 = .ok (.getfield 59, 3) := by decide +kernel
theorem dX9_replaceLeaf_10 : decode cX9_replaceLeaf 10 = .ok (.putfield 59, 3) := by decide +kernel
theorem dX9_replaceLeaf_13 : decode cX9_replaceLeaf 13 = .ok (.aload_n 2, 1) := by decide +kernel
theorem dX9_replaceLeaf_14 : decode cX9_replaceLeaf 14 = .ok (.aload_n 3, 1) := by decide +kernel
theorem dX9_replaceLeaf_15 : decode cX9_replaceLeaf 15 = .ok (.putfield 62, 3) := by decide +kernel
theorem dX9_replaceLeaf_18 : decode cX9_replaceLeaf 18 = .ok (.aload_n 3, 1) := by decide +kernel
theorem dX9_replaceLeaf_19 : decode cX9_replaceLeaf 19 = .ok (.aload_n 2, 1) := by decide +kernel
theorem dX9_replaceLeaf_20 : decode cX9_replaceLeaf 20 = .ok (.putfield 59, 3) := by decide +kernel
theorem dX9_replaceLeaf_23 : decode cX9_replaceLeaf 23 = .ok (.aload_n 3, 1) := by decide +kernel
theorem dX9_replaceLeaf_24 : decode cX9_replaceLeaf 24 = .ok (.aload_n 1, 1) := by decide +kernel
theorem dX9_replaceLeaf_25 : decode cX9_replaceLeaf 25 = .ok (.getfield 62, 3) := by decide +kernel
theorem dX9_replaceLeaf_28 : decode cX9_replaceLeaf 28 = .ok (.putfield 62, 3) := by decide +kernel
theorem dX9_replaceLeaf_31 : decode cX9_replaceLeaf 31 = .ok (.aload_n 1, 1) := by decide +kernel
theorem dX9_replaceLeaf_32 : decode cX9_replaceLeaf 32 = .ok (.getfield 59, 3) := by decide +kernel
theorem dX9_replaceLeaf_35 : decode cX9_replaceLeaf 35 = .ok (.ifnonnull 11, 3) := by decide +kernel
theorem dX9_replaceLeaf_38 : decode cX9_replaceLeaf 38 = .ok (.aload_n 0, 1) := by decide +kernel
theorem dX9_replaceLeaf_39 : decode cX9_replaceLeaf 39 = .ok (.aload_n 2, 1) := by decide +kernel
theorem dX9_replaceLeaf_40 : decode cX9_replaceLeaf 40 = .ok (.putfield 35, 3) := by decide +kernel
theorem dX9_replaceLeaf_43 : decode cX9_replaceLeaf 43 = .ok (.goto 11, 3) := by decide +kernel
theorem dX9_replaceLeaf_46 : decode cX9_replaceLeaf 46 = .ok (.aload_n 1, 1) := by decide +kernel
theorem dX9_replaceLeaf_47 : decode cX9_replaceLeaf 47 = .ok (.getfield 59, 3) := by decide +kernel
theorem dX9_replaceLeaf_50 : decode cX9_replaceLeaf 50 = .ok (.aload_n 2, 1) := by decide +kernel
theorem dX9_replaceLeaf_51 : decode cX9_replaceLeaf 51 = .ok (.putfield 62, 3) := by decide +kernel
theorem dX9_replaceLeaf_54 : decode cX9_replaceLeaf 54 = .ok (.aload_n 1, 1) := by decide +kernel
theorem dX9_replaceLeaf_55 : decode cX9_replaceLeaf 55 = .ok (.getfield 62, 3) := by decide +kernel
theorem dX9_replaceLeaf_58 : decode cX9_replaceLeaf 58 = .ok (.ifnonnull 11, 3) := by decide +kernel
theorem dX9_replaceLeaf_61 : decode cX9_replaceLeaf 61 = .ok (.aload_n 0, 1) := by decide +kernel
theorem dX9_replaceLeaf_62 : decode cX9_replaceLeaf 62 = .ok (.aload_n 3, 1) := by decide +kernel
theorem dX9_replaceLeaf_63 : decode cX9_replaceLeaf 63 = .ok (.putfield 38, 3) := by decide +kernel
theorem dX9_replaceLeaf_66 : decode cX9_replaceLeaf 66 = .ok (.goto 11, 3) := by decide +kernel
theorem dX9_replaceLeaf_69 : decode cX9_replaceLeaf 69 = .ok (.aload_n 1, 1) := by decide +kernel
theorem dX9_replaceLeaf_70 : decode cX9_replaceLeaf 70 = .ok (.getfield 62, 3) := by decide +kernel
theorem dX9_replaceLeaf_73 : decode cX9_replaceLeaf 73 = .ok (.aload_n 3, 1) := by decide +kernel
theorem dX9_replaceLeaf_74 : decode cX9_replaceLeaf 74 = .ok (.putfield 59, 3) := by decide +kernel
theorem dX9_replaceLeaf_77 : decode cX9_replaceLeaf 77 = .ok (.return_, 1) := by decide +kernel
theorem dX9_owedBelow_0 : decode cX9_owedBelow 0 = .ok (.lconst 0, 1) := by decide +kernel
theorem dX9_owedBelow_1 : decode cX9_owedBelow 1 = .ok (.lstore_n 2, 1) := by decide +kernel
theorem dX9_owedBelow_2 : decode cX9_owedBelow 2 = .ok (.aload_n 0, 1) := by decide +kernel
theorem dX9_owedBelow_3 : decode cX9_owedBelow 3 = .ok (.getfield 35, 3) := by decide +kernel
theorem dX9_owedBelow_6 : decode cX9_owedBelow 6 = .ok (.astore 4, 2) := by decide +kernel
theorem dX9_owedBelow_8 : decode cX9_owedBelow 8 = .ok (.aload 4, 2) := by decide +kernel
theorem dX9_owedBelow_10 : decode cX9_owedBelow 10 = .ok (.ifnull 34, 3) := by decide +kernel
theorem dX9_owedBelow_13 : decode cX9_owedBelow 13 = .ok (.aload_n 1, 1) := by decide +kernel
theorem dX9_owedBelow_14 : decode cX9_owedBelow 14 = .ok (.ifnull 12, 3) := by decide +kernel
theorem dX9_owedBelow_17 : decode cX9_owedBelow 17 = .ok (.aload 4, 2) := by decide +kernel
theorem dX9_owedBelow_19 : decode cX9_owedBelow 19 = .ok (.aload_n 1, 1) := by decide +kernel
theorem dX9_owedBelow_20 : decode cX9_owedBelow 20 = .ok (.invokevirtual 65, 3) := by decide +kernel
theorem dX9_owedBelow_23 : decode cX9_owedBelow 23 = .ok (.ifCond .eq 11, 3) := by decide +kernel
theorem dX9_owedBelow_26 : decode cX9_owedBelow 26 = .ok (.lload_n 2, 1) := by decide +kernel
theorem dX9_owedBelow_27 : decode cX9_owedBelow 27 = .ok (.aload 4, 2) := by decide +kernel
theorem dX9_owedBelow_29 : decode cX9_owedBelow 29 = .ok (.getfield 69, 3) := by decide +kernel
theorem dX9_owedBelow_32 : decode cX9_owedBelow 32 = .ok (.ladd, 1) := by decide +kernel
theorem dX9_owedBelow_33 : decode cX9_owedBelow 33 = .ok (.lstore_n 2, 1) := by decide +kernel
theorem dX9_owedBelow_34 : decode cX9_owedBelow 34 = .ok (.aload 4, 2) := by decide +kernel
theorem dX9_owedBelow_36 : decode cX9_owedBelow 36 = .ok (.getfield 62, 3) := by decide +kernel
theorem dX9_owedBelow_39 : decode cX9_owedBelow 39 = .ok (.astore 4, 2) := by decide +kernel
theorem dX9_owedBelow_41 : decode cX9_owedBelow 41 = .ok (.goto (-33), 3) := by decide +kernel
theorem dX9_owedBelow_44 : decode cX9_owedBelow 44 = .ok (.lload_n 2, 1) := by decide +kernel
theorem dX9_owedBelow_45 : decode cX9_owedBelow 45 = .ok (.lreturn, 1) := by decide +kernel
theorem dX9_spreadDue_0 : decode cX9_spreadDue 0 = .ok (.lconst 0, 1) := by decide +kernel
theorem dX9_spreadDue_1 : decode cX9_spreadDue 1 = .ok (.lstore_n 2, 1) := by decide +kernel
theorem dX9_spreadDue_2 : decode cX9_spreadDue 2 = .ok (.lconst 0, 1) := by decide +kernel
theorem dX9_spreadDue_3 : decode cX9_spreadDue 3 = .ok (.lstore 4, 2) := by decide +kernel
theorem dX9_spreadDue_5 : decode cX9_spreadDue 5 = .ok (.aload_n 0, 1) := by decide +kernel
theorem dX9_spreadDue_6 : decode cX9_spreadDue 6 = .ok (.getfield 35, 3) := by decide +kernel
theorem dX9_spreadDue_9 : decode cX9_spreadDue 9 = .ok (.astore 6, 2) := by decide +kernel
theorem dX9_spreadDue_11 : decode cX9_spreadDue 11 = .ok (.aload 6, 2) := by decide +kernel
theorem dX9_spreadDue_13 : decode cX9_spreadDue 13 = .ok (.ifnull 46, 3) := by decide +kernel
theorem dX9_spreadDue_16 : decode cX9_spreadDue 16 = .ok (.lload_n 2, 1) := by decide +kernel
theorem dX9_spreadDue_17 : decode cX9_spreadDue 17 = .ok (.aload 6, 2) := by decide +kernel
theorem dX9_spreadDue_19 : decode cX9_spreadDue 19 = .ok (.getfield 69, 3) := by decide +kernel
theorem dX9_spreadDue_22 : decode cX9_spreadDue 22 = .ok (.ladd, 1) := by decide +kernel
theorem dX9_spreadDue_23 : decode cX9_spreadDue 23 = .ok (.lstore_n 2, 1) := by decide +kernel
theorem dX9_spreadDue_24 : decode cX9_spreadDue 24 = .ok (.aload_n 0, 1) := by decide +kernel
theorem dX9_spreadDue_25 : decode cX9_spreadDue 25 = .ok (.getfield 23, 3) := by decide +kernel
theorem dX9_spreadDue_28 : decode cX9_spreadDue 28 = .ok (.lload_n 2, 1) := by decide +kernel
theorem dX9_spreadDue_29 : decode cX9_spreadDue 29 = .ok (.iload_n 1, 1) := by decide +kernel
theorem dX9_spreadDue_30 : decode cX9_spreadDue 30 = .ok (.invokevirtual 72, 3) := by decide +kernel
theorem dX9_spreadDue_33 : decode cX9_spreadDue 33 = .ok (.lstore 7, 2) := by decide +kernel
theorem dX9_spreadDue_35 : decode cX9_spreadDue 35 = .ok (.aload 6, 2) := by decide +kernel
theorem dX9_spreadDue_37 : decode cX9_spreadDue 37 = .ok (.lload 7, 2) := by decide +kernel
theorem dX9_spreadDue_39 : decode cX9_spreadDue 39 = .ok (.lload 4, 2) := by decide +kernel
theorem dX9_spreadDue_41 : decode cX9_spreadDue 41 = .ok (.lsub, 1) := by decide +kernel
theorem dX9_spreadDue_42 : decode cX9_spreadDue 42 = .ok (.putfield 78, 3) := by decide +kernel
theorem dX9_spreadDue_45 : decode cX9_spreadDue 45 = .ok (.lload 7, 2) := by decide +kernel
theorem dX9_spreadDue_47 : decode cX9_spreadDue 47 = .ok (.lstore 4, 2) := by decide +kernel
theorem dX9_spreadDue_49 : decode cX9_spreadDue 49 = .ok (.aload 6, 2) := by decide +kernel
theorem dX9_spreadDue_51 : decode cX9_spreadDue 51 = .ok (.getfield 62, 3) := by decide +kernel
theorem dX9_spreadDue_54 : decode cX9_spreadDue 54 = .ok (.astore 6, 2) := by decide +kernel
theorem dX9_spreadDue_56 : decode cX9_spreadDue 56 = .ok (.goto (-45), 3) := by decide +kernel
theorem dX9_spreadDue_59 : decode cX9_spreadDue 59 = .ok (.return_, 1) := by decide +kernel
theorem dX9_leafDueBelow_0 : decode cX9_leafDueBelow 0 = .ok (.lconst 0, 1) := by decide +kernel
theorem dX9_leafDueBelow_1 : decode cX9_leafDueBelow 1 = .ok (.lstore_n 2, 1) := by decide +kernel
theorem dX9_leafDueBelow_2 : decode cX9_leafDueBelow 2 = .ok (.aload_n 0, 1) := by decide +kernel
theorem dX9_leafDueBelow_3 : decode cX9_leafDueBelow 3 = .ok (.getfield 35, 3) := by decide +kernel
theorem dX9_leafDueBelow_6 : decode cX9_leafDueBelow 6 = .ok (.astore 4, 2) := by decide +kernel
theorem dX9_leafDueBelow_8 : decode cX9_leafDueBelow 8 = .ok (.aload 4, 2) := by decide +kernel
theorem dX9_leafDueBelow_10 : decode cX9_leafDueBelow 10 = .ok (.ifnull 30, 3) := by decide +kernel
theorem dX9_leafDueBelow_13 : decode cX9_leafDueBelow 13 = .ok (.aload 4, 2) := by decide +kernel
theorem dX9_leafDueBelow_15 : decode cX9_leafDueBelow 15 = .ok (.aload_n 1, 1) := by decide +kernel
theorem dX9_leafDueBelow_16 : decode cX9_leafDueBelow 16 = .ok (.invokevirtual 65, 3) := by decide +kernel
theorem dX9_leafDueBelow_19 : decode cX9_leafDueBelow 19 = .ok (.ifCond .eq 11, 3) := by decide +kernel
theorem dX9_leafDueBelow_22 : decode cX9_leafDueBelow 22 = .ok (.lload_n 2, 1) := by decide +kernel
theorem dX9_leafDueBelow_23 : decode cX9_leafDueBelow 23 = .ok (.aload 4, 2) := by decide +kernel
theorem dX9_leafDueBelow_25 : decode cX9_leafDueBelow 25 = .ok (.getfield 78, 3) := by decide +kernel
theorem dX9_leafDueBelow_28 : decode cX9_leafDueBelow 28 = .ok (.ladd, 1) := by decide +kernel
theorem dX9_leafDueBelow_29 : decode cX9_leafDueBelow 29 = .ok (.lstore_n 2, 1) := by decide +kernel
theorem dX9_leafDueBelow_30 : decode cX9_leafDueBelow 30 = .ok (.aload 4, 2) := by decide +kernel
theorem dX9_leafDueBelow_32 : decode cX9_leafDueBelow 32 = .ok (.getfield 62, 3) := by decide +kernel
theorem dX9_leafDueBelow_35 : decode cX9_leafDueBelow 35 = .ok (.astore 4, 2) := by decide +kernel
theorem dX9_leafDueBelow_37 : decode cX9_leafDueBelow 37 = .ok (.goto (-29), 3) := by decide +kernel
theorem dX9_leafDueBelow_40 : decode cX9_leafDueBelow 40 = .ok (.lload_n 2, 1) := by decide +kernel
theorem dX9_leafDueBelow_41 : decode cX9_leafDueBelow 41 = .ok (.lreturn, 1) := by decide +kernel
end
section
theorem dX10_init_0 : decode cX10_init 0 = .ok (.aload_n 0, 1) := by decide +kernel
theorem dX10_init_1 : decode cX10_init 1 = .ok (.invokespecial 1, 3) := by decide +kernel
theorem dX10_init_4 : decode cX10_init 4 = .ok (.aload_n 0, 1) := by decide +kernel
theorem dX10_init_5 : decode cX10_init 5 = .ok (.bipush 40, 2) := by decide +kernel
theorem dX10_init_7 : decode cX10_init 7 = .ok (.anewarray 9, 3) := by decide +kernel
theorem dX10_init_10 : decode cX10_init 10 = .ok (.putfield 11, 3) := by decide +kernel
theorem dX10_init_13 : decode cX10_init 13 = .ok (.aload_n 0, 1) := by decide +kernel
theorem dX10_init_14 : decode cX10_init 14 = .ok (.sipush 300, 3) := by decide +kernel
theorem dX10_init_17 : decode cX10_init 17 = .ok (.anewarray 15, 3) := by decide +kernel
theorem dX10_init_20 : decode cX10_init 20 = .ok (.putfield 17, 3) := by decide +kernel
theorem dX10_init_23 : decode cX10_init 23 = .ok (.aload_n 0, 1) := by decide +kernel
theorem dX10_init_24 : decode cX10_init 24 = .ok (.new 21, 3) := by decide +kernel
theorem dX10_init_27 : decode cX10_init 27 = .ok (.dup, 1) := by decide +kernel
theorem dX10_init_28 : decode cX10_init 28 = .ok (.invokespecial 23, 3) := by decide +kernel
theorem dX10_init_31 : decode cX10_init 31 = .ok (.putfield 24, 3) := by decide +kernel
theorem dX10_init_34 : decode cX10_init 34 = .ok (.aload_n 0, 1) := by decide +kernel
theorem dX10_init_35 : decode cX10_init 35 = .ok (.new 28, 3) := by decide +kernel
theorem dX10_init_38 : decode cX10_init 38 = .ok (.dup, 1) := by decide +kernel
theorem dX10_init_39 : decode cX10_init 39 = .ok (.iconst 0, 1) := by decide +kernel
theorem dX10_init_40 : decode cX10_init 40 = .ok (.iconst 0, 1) := by decide +kernel
theorem dX10_init_41 : decode cX10_init 41 = .ok (.invokespecial 30, 3) := by decide +kernel
theorem dX10_init_44 : decode cX10_init 44 = .ok (.putfield 33, 3) := by decide +kernel
theorem dX10_init_47 : decode cX10_init 47 = .ok (.return_, 1) := by decide +kernel
theorem dX10_folio_0 : decode cX10_folio 0 = .ok (.aload_n 0, 1) := by decide +kernel
theorem dX10_folio_1 : decode cX10_folio 1 = .ok (.aload_n 0, 1) := by decide +kernel
theorem dX10_folio_2 : decode cX10_folio 2 = .ok (.iload_n 1, 1) := by decide +kernel
theorem dX10_folio_3 : decode cX10_folio 3 = .ok (.invokevirtual 37, 3) := by decide +kernel
theorem dX10_folio_6 : decode cX10_folio 6 = .ok (.invokevirtual 41, 3) := by decide +kernel
theorem dX10_folio_9 : decode cX10_folio 9 = .ok (.ifCond .ne 5, 3) := by decide +kernel
theorem dX10_folio_12 : decode cX10_folio 12 = .ok (.iconst (-1), 1) := by decide +kernel
theorem dX10_folio_13 : decode cX10_folio 13 = .ok (.ireturn, 1) := by decide +kernel
theorem dX10_folio_14 : decode cX10_folio 14 = .ok (.aload_n 0, 1) := by decide +kernel
theorem dX10_folio_15 : decode cX10_folio 15 = .ok (.getfield 45, 3) := by decide +kernel
theorem dX10_folio_18 : decode cX10_folio 18 = .ok (.istore_n 2, 1) := by decide +kernel
theorem dX10_folio_19 : decode cX10_folio 19 = .ok (.aload_n 0, 1) := by decide +kernel
theorem dX10_folio_20 : decode cX10_folio 20 = .ok (.getfield 11, 3) := by decide +kernel
theorem dX10_folio_23 : decode cX10_folio 23 = .ok (.iload_n 2, 1) := by decide +kernel
theorem dX10_folio_24 : decode cX10_folio 24 = .ok (.new 9, 3) := by decide +kernel
theorem dX10_folio_27 : decode cX10_folio 27 = .ok (.dup, 1) := by decide +kernel
theorem dX10_folio_28 : decode cX10_folio 28 = .ok (.iload_n 2, 1) := by decide +kernel
theorem dX10_folio_29 : decode cX10_folio 29 = .ok (.iload_n 1, 1) := by decide +kernel
theorem dX10_folio_30 : decode cX10_folio 30 = .ok (.invokespecial 49, 3) := by decide +kernel
theorem dX10_folio_33 : decode cX10_folio 33 = .ok (.aastore, 1) := by decide +kernel
theorem dX10_folio_34 : decode cX10_folio 34 = .ok (.aload_n 0, 1) := by decide +kernel
theorem dX10_folio_35 : decode cX10_folio 35 = .ok (.dup, 1) := by decide +kernel
theorem dX10_folio_36 : decode cX10_folio 36 = .ok (.getfield 45, 3) := by decide +kernel
theorem dX10_folio_39 : decode cX10_folio 39 = .ok (.iconst 1, 1) := by decide +kernel
theorem dX10_folio_40 : decode cX10_folio 40 = .ok (.iadd, 1) := by decide +kernel
theorem dX10_folio_41 : decode cX10_folio 41 = .ok (.putfield 45, 3) := by decide +kernel
theorem dX10_folio_44 : decode cX10_folio 44 = .ok (.iload_n 2, 1) := by decide +kernel
theorem dX10_folio_45 : decode cX10_folio 45 = .ok (.ireturn, 1) := by decide +kernel
theorem dX10_folioFault_0 : decode cX10_folioFault 0 = .ok (.iload_n 1, 1) := by decide +kernel
theorem dX10_folioFault_1 : decode cX10_folioFault 1 = .ok (.iconst 1, 1) := by decide +kernel
theorem dX10_folioFault_2 : decode cX10_folioFault 2 = .ok (.if_icmp .lt 9, 3) := by decide +kernel
theorem dX10_folioFault_5 : decode cX10_folioFault 5 = .ok (.iload_n 1, 1) := by decide +kernel
theorem dX10_folioFault_6 : decode cX10_folioFault 6 = .ok (.bipush 60, 2) := by decide +kernel
theorem dX10_folioFault_8 : decode cX10_folioFault 8 = .ok (.if_icmp .le 5, 3) := by decide +kernel
theorem dX10_folioFault_11 : decode cX10_folioFault 11 = .ok (.iconst 5, 1) := by decide +kernel
theorem dX10_folioFault_12 : decode cX10_folioFault 12 = .ok (.ireturn, 1) := by decide +kernel
theorem dX10_folioFault_13 : decode cX10_folioFault 13 = .ok (.aload_n 0, 1) := by decide +kernel
theorem dX10_folioFault_14 : decode cX10_folioFault 14 = .ok (.getfield 45, 3) := by decide +kernel
theorem dX10_folioFault_17 : decode cX10_folioFault 17 = .ok (.bipush 40, 2) := by decide +kernel
theorem dX10_folioFault_19 : decode cX10_folioFault 19 = .ok (.if_icmp .lt 8, 3) := by decide +kernel
theorem dX10_folioFault_22 : decode cX10_folioFault 22 = .ok (.bipush 10, 2) := by decide +kernel
theorem dX10_folioFault_24 : decode cX10_folioFault 24 = .ok (.goto 4, 3) := by decide +kernel
theorem dX10_folioFault_27 : decode cX10_folioFault 27 = .ok (.iconst 0, 1) := by decide +kernel
theorem dX10_folioFault_28 : decode cX10_folioFault 28 = .ok (.ireturn, 1) := by decide +kernel
theorem dX10_tear_0 : decode cX10_tear 0 = .ok (.aload_n 0, 1) := by decide +kernel
theorem dX10_tear_1 : decode cX10_tear 1 = .ok (.iload_n 1, 1) := by decide +kernel
theorem dX10_tear_2 : decode cX10_tear 2 = .ok (.invokevirtual 50, 3) := by decide +kernel
theorem dX10_tear_5 : decode cX10_tear 5 = .ok (.astore_n 3, 1) := by decide +kernel
theorem dX10_tear_6 : decode cX10_tear 6 = .ok (.aload_n 0, 1) := by decide +kernel
theorem dX10_tear_7 : decode cX10_tear 7 = .ok (.aload_n 3, 1) := by decide +kernel
theorem dX10_tear_8 : decode cX10_tear 8 = .ok (.iload_n 2, 1) := by decide +kernel
theorem dX10_tear_9 : decode cX10_tear 9 = .ok (.invokestatic 54, 3) := by decide +kernel
theorem dX10_tear_12 : decode cX10_tear 12 = .ok (.invokevirtual 41, 3) := by decide +kernel
theorem dX10_tear_15 : decode cX10_tear 15 = .ok (.ifCond .eq 7, 3) := by decide +kernel
theorem dX10_tear_18 : decode cX10_tear 18 = .ok (.aload_n 3, 1) := by decide +kernel
theorem dX10_tear_19 : decode cX10_tear 19 = .ok (.ifnonnull 5, 3) := by decide +kernel
theorem dX10_tear_22 : decode cX10_tear 22 = .ok (.iconst 0, 1) := by decide +kernel
theorem dX10_tear_23 : decode cX10_tear 23 = .ok (.ireturn, 1) := by decide +kernel
theorem dX10_tear_24 : decode cX10_tear 24 = .ok (.aload_n 3, 1) := by decide +kernel
theorem dX10_tear_25 : decode cX10_tear 25 = .ok (.iload_n 2, 1) := by decide +kernel
theorem dX10_tear_26 : decode cX10_tear 26 = .ok (.invokevirtual 58, 3) := by decide +kernel
theorem dX10_tear_29 : decode cX10_tear 29 = .ok (.iconst 1, 1) := by decide +kernel
theorem dX10_tear_30 : decode cX10_tear 30 = .ok (.ireturn, 1) := by decide +kernel
theorem dX10_day_0 : decode cX10_day 0 = .ok (.aload_n 0, 1) := by decide +kernel
theorem dX10_day_1 : decode cX10_day 1 = .ok (.aload_n 0, 1) := by decide +kernel
theorem dX10_day_2 : decode cX10_day 2 = .ok (.iload_n 1, 1) := by decide +kernel
theorem dX10_day_3 : decode cX10_day 3 = .ok (.invokevirtual 62, 3) := by decide +kernel
theorem dX10_day_6 : decode cX10_day 6 = .ok (.invokevirtual 41, 3) := by decide +kernel
theorem dX10_day_9 : decode cX10_day 9 = .ok (.ifCond .ne 5, 3) := by decide +kernel
theorem dX10_day_12 : decode cX10_day 12 = .ok (.iconst 0, 1) := by decide +kernel
theorem dX10_day_13 : decode cX10_day 13 = .ok (.ireturn, 1) := by decide +kernel
theorem dX10_day_14 : decode cX10_day 14 = .ok (.aload_n 0, 1) := by decide +kernel
theorem dX10_day_15 : decode cX10_day 15 = .ok (.new 28, 3) := by decide +kernel
theorem dX10_day_18 : decode cX10_day 18 = .ok (.dup, 1) := by decide +kernel
theorem dX10_day_19 : decode cX10_day 19 = .ok (.iload_n 1, 1) := by decide +kernel
theorem dX10_day_20 : decode cX10_day 20 = .ok (.iload_n 1, 1) := by decide +kernel
theorem dX10_day_21 : decode cX10_day 21 = .ok (.invokespecial 30, 3) := by decide +kernel
theorem dX10_day_24 : decode cX10_day 24 = .ok (.putfield 33, 3) := by decide +kernel
theorem dX10_day_27 : decode cX10_day 27 = .ok (.aload_n 0, 1) := by decide +kernel
theorem dX10_day_28 : decode cX10_day 28 = .ok (.iload_n 1, 1) := by decide +kernel
theorem dX10_day_29 : decode cX10_day 29 = .ok (.putfield 65, 3) := by decide +kernel
theorem dX10_day_32 : decode cX10_day 32 = .ok (.iconst 1, 1) := by decide +kernel
theorem dX10_day_33 : decode cX10_day 33 = .ok (.ireturn, 1) := by decide +kernel
theorem dX10_dayFault_0 : decode cX10_dayFault 0 = .ok (.iload_n 1, 1) := by decide +kernel
theorem dX10_dayFault_1 : decode cX10_dayFault 1 = .ok (.ldc 68, 2) := by decide +kernel
theorem dX10_dayFault_3 : decode cX10_dayFault 3 = .ok (.if_icmp .le 5, 3) := by decide +kernel
theorem dX10_dayFault_6 : decode cX10_dayFault 6 = .ok (.iconst 5, 1) := by decide +kernel
theorem dX10_dayFault_7 : decode cX10_dayFault 7 = .ok (.ireturn, 1) := by decide +kernel
theorem dX10_dayFault_8 : decode cX10_dayFault 8 = .ok (.iload_n 1, 1) := by decide +kernel
theorem dX10_dayFault_9 : decode cX10_dayFault 9 = .ok (.aload_n 0, 1) := by decide +kernel
theorem dX10_dayFault_10 : decode cX10_dayFault 10 = .ok (.getfield 33, 3) := by decide +kernel
theorem dX10_dayFault_13 : decode cX10_dayFault 13 = .ok (.getfield 69, 3) := by decide +kernel
theorem dX10_dayFault_16 : decode cX10_dayFault 16 = .ok (.if_icmp .ge 8, 3) := by decide +kernel
theorem dX10_dayFault_19 : decode cX10_dayFault 19 = .ok (.bipush 8, 2) := by decide +kernel
theorem dX10_dayFault_21 : decode cX10_dayFault 21 = .ok (.goto 4, 3) := by decide +kernel
theorem dX10_dayFault_24 : decode cX10_dayFault 24 = .ok (.iconst 0, 1) := by decide +kernel
theorem dX10_dayFault_25 : decode cX10_dayFault 25 = .ok (.ireturn, 1) := by decide +kernel
theorem dX10_since_0 : decode cX10_since 0 = .ok (.aload_n 0, 1) := by decide +kernel
theorem dX10_since_1 : decode cX10_since 1 = .ok (.aload_n 0, 1) := by decide +kernel
theorem dX10_since_2 : decode cX10_since 2 = .ok (.iload_n 1, 1) := by decide +kernel
theorem dX10_since_3 : decode cX10_since 3 = .ok (.invokevirtual 72, 3) := by decide +kernel
theorem dX10_since_6 : decode cX10_since 6 = .ok (.ifCond .eq 7, 3) := by decide +kernel
theorem dX10_since_9 : decode cX10_since 9 = .ok (.iconst 0, 1) := by decide +kernel
theorem dX10_since_10 : decode cX10_since 10 = .ok (.goto 4, 3) := by decide +kernel
theorem dX10_since_13 : decode cX10_since 13 = .ok (.iconst 5, 1) := by decide +kernel
theorem dX10_since_14 : decode cX10_since 14 = .ok (.invokevirtual 41, 3) := by decide +kernel
theorem dX10_since_17 : decode cX10_since 17 = .ok (.ifCond .ne 5, 3) := by decide +kernel
theorem dX10_since_20 : decode cX10_since 20 = .ok (.iconst 0, 1) := by decide +kernel
theorem dX10_since_21 : decode cX10_since 21 = .ok (.ireturn, 1) := by decide +kernel
theorem dX10_since_22 : decode cX10_since 22 = .ok (.aload_n 0, 1) := by decide +kernel
theorem dX10_since_23 : decode cX10_since 23 = .ok (.iload_n 1, 1) := by decide +kernel
theorem dX10_since_24 : decode cX10_since 24 = .ok (.putfield 65, 3) := by decide +kernel
theorem dX10_since_27 : decode cX10_since 27 = .ok (.iconst 1, 1) := by decide +kernel
theorem dX10_since_28 : decode cX10_since 28 = .ok (.ireturn, 1) := by decide +kernel
theorem dX10_enter_0 : decode cX10_enter 0 = .ok (.aload_n 0, 1) := by decide +kernel
theorem dX10_enter_1 : decode cX10_enter 1 = .ok (.iload_n 1, 1) := by decide +kernel
theorem dX10_enter_2 : decode cX10_enter 2 = .ok (.invokevirtual 50, 3) := by decide +kernel
theorem dX10_enter_5 : decode cX10_enter 5 = .ok (.astore 8, 2) := by decide +kernel
theorem dX10_enter_7 : decode cX10_enter 7 = .ok (.aload_n 0, 1) := by decide +kernel
theorem dX10_enter_8 : decode cX10_enter 8 = .ok (.aload_n 0, 1) := by decide +kernel
theorem dX10_enter_9 : decode cX10_enter 9 = .ok (.aload 8, 2) := by decide +kernel
theorem dX10_enter_11 : decode cX10_enter 11 = .ok (.iload_n 2, 1) := by decide +kernel
theorem dX10_enter_12 : decode cX10_enter 12 = .ok (.lload_n 3, 1) := by decide +kernel
theorem dX10_enter_13 : decode cX10_enter 13 = .ok (.iload 5, 2) := by decide +kernel
theorem dX10_enter_15 : decode cX10_enter 15 = .ok (.lload 6, 2) := by decide +kernel
theorem dX10_enter_17 : decode cX10_enter 17 = .ok (.invokevirtual 75, 3) := by decide +kernel
theorem dX10_enter_20 : decode cX10_enter 20 = .ok (.invokevirtual 41, 3) := by decide +kernel
theorem dX10_enter_23 : decode cX10_enter 23 = .ok (.ifCond .eq 8, 3) := by decide +kernel
theorem dX10_enter_26 : decode cX10_enter 26 = .ok (.aload 8, 2) := by decide +kernel
theorem dX10_enter_28 : decode cX10_enter 28 = .ok (.ifnonnull 5, 3) := by decide +kernel
theorem dX10_enter_31 : decode cX10_enter 31 = .ok (.iconst (-1), 1) := by decide +kernel
theorem dX10_enter_32 : decode cX10_enter 32 = .ok (.ireturn, 1) := by decide +kernel
theorem dX10_enter_33 : decode cX10_enter 33 = .ok (.aload_n 0, 1) := by decide +kernel
theorem dX10_enter_34 : decode cX10_enter 34 = .ok (.invokevirtual 79, 3) := by decide +kernel
theorem dX10_enter_37 : decode cX10_enter 37 = .ok (.astore 9, 2) := by decide +kernel
theorem dX10_enter_39 : decode cX10_enter 39 = .ok (.new 83, 3) := by decide +kernel
theorem dX10_enter_42 : decode cX10_enter 42 = .ok (.dup, 1) := by decide +kernel
theorem dX10_enter_43 : decode cX10_enter 43 = .ok (.iload_n 2, 1) := by decide +kernel
theorem dX10_enter_44 : decode cX10_enter 44 = .ok (.iload 5, 2) := by decide +kernel
theorem dX10_enter_46 : decode cX10_enter 46 = .ok (.lload_n 3, 1) := by decide +kernel
theorem dX10_enter_47 : decode cX10_enter 47 = .ok (.aload 9, 2) := by decide +kernel
theorem dX10_enter_49 : decode cX10_enter 49 = .ok (.getfield 85, 3) := by decide +kernel
theorem dX10_enter_52 : decode cX10_enter 52 = .ok (.invokespecial 90, 3) := by decide +kernel
theorem dX10_enter_55 : decode cX10_enter 55 = .ok (.astore 10, 2) := by decide +kernel
theorem dX10_enter_57 : decode cX10_enter 57 = .ok (.new 93, 3) := by decide +kernel
theorem dX10_enter_60 : decode cX10_enter 60 = .ok (.dup, 1) := by decide +kernel
theorem dX10_enter_61 : decode cX10_enter 61 = .ok (.aload 8, 2) := by decide +kernel
theorem dX10_enter_63 : decode cX10_enter 63 = .ok (.lload 6, 2) := by decide +kernel
theorem dX10_enter_65 : decode cX10_enter 65 = .ok (.aload 9, 2) := by decide +kernel
theorem dX10_enter_67 : decode cX10_enter 67 = .ok (.aload 10, 2) := by decide +kernel
theorem dX10_enter_69 : decode cX10_enter 69 = .ok (.invokespecial 95, 3) := by decide +kernel
theorem dX10_enter_72 : decode cX10_enter 72 = .ok (.astore 11, 2) := by decide +kernel
theorem dX10_enter_74 : decode cX10_enter 74 = .ok (.new 15, 3) := by decide +kernel
theorem dX10_enter_77 : decode cX10_enter 77 = .ok (.dup, 1) := by decide +kernel
theorem dX10_enter_78 : decode cX10_enter 78 = .ok (.aload_n 0, 1) := by decide +kernel
theorem dX10_enter_79 : decode cX10_enter 79 = .ok (.getfield 98, 3) := by decide +kernel
theorem dX10_enter_82 : decode cX10_enter 82 = .ok (.iconst 1, 1) := by decide +kernel
theorem dX10_enter_83 : decode cX10_enter 83 = .ok (.iadd, 1) := by decide +kernel
theorem dX10_enter_84 : decode cX10_enter 84 = .ok (.aload 11, 2) := by decide +kernel
theorem dX10_enter_86 : decode cX10_enter 86 = .ok (.aconst_null, 1) := by decide +kernel
theorem dX10_enter_87 : decode cX10_enter 87 = .ok (.iload_n 2, 1) := by decide +kernel
theorem dX10_enter_88 : decode cX10_enter 88 = .ok (.iconst 3, 1) := by decide +kernel
theorem dX10_enter_89 : decode cX10_enter 89 = .ok (.if_icmp .ne 7, 3) := by decide +kernel
theorem dX10_enter_92 : decode cX10_enter 92 = .ok (.lconst 0, 1) := by decide +kernel
theorem dX10_enter_93 : decode cX10_enter 93 = .ok (.goto 4, 3) := by decide +kernel
theorem dX10_enter_96 : decode cX10_enter 96 = .ok (.lload_n 3, 1) := by decide +kernel
theorem dX10_enter_97 : decode cX10_enter 97 = .ok (.iconst 0, 1) := by decide +kernel
theorem dX10_enter_98 : decode cX10_enter 98 = .ok (.invokespecial 101, 3) := by decide +kernel
theorem dX10_enter_101 : decode cX10_enter 101 = .ok (.astore 12, 2) := by decide +kernel
theorem dX10_enter_103 : decode cX10_enter 103 = .ok (.aload 11, 2) := by decide +kernel
theorem dX10_enter_105 : decode cX10_enter 105 = .ok (.aload 12, 2) := by decide +kernel
theorem dX10_enter_107 : decode cX10_enter 107 = .ok (.invokevirtual 104, 3) := by decide +kernel
theorem dX10_enter_110 : decode cX10_enter 110 = .ok (.aload 8, 2) := by decide +kernel
theorem dX10_enter_112 : decode cX10_enter 112 = .ok (.aload 11, 2) := by decide +kernel
theorem dX10_enter_114 : decode cX10_enter 114 = .ok (.invokevirtual 108, 3) := by decide +kernel
theorem dX10_enter_117 : decode cX10_enter 117 = .ok (.aload_n 0, 1) := by decide +kernel
theorem dX10_enter_118 : decode cX10_enter 118 = .ok (.aload 12, 2) := by decide +kernel
theorem dX10_enter_120 : decode cX10_enter 120 = .ok (.invokevirtual 112, 3) := by decide +kernel
theorem dX10_enter_123 : decode cX10_enter 123 = .ok (.ireturn, 1) := by decide +kernel
theorem dX10_enterFault_0 : decode cX10_enterFault 0 = .ok (.aload_n 1, 1) := by decide +kernel
theorem dX10_enterFault_1 : decode cX10_enterFault 1 = .ok (.ifnonnull 5, 3) := by decide +kernel
theorem dX10_enterFault_4 : decode cX10_enterFault 4 = .ok (.iconst 1, 1) := by decide +kernel
theorem dX10_enterFault_5 : decode cX10_enterFault 5 = .ok (.ireturn, 1) := by decide +kernel
theorem dX10_enterFault_6 : decode cX10_enterFault 6 = .ok (.lload 6, 2) := by decide +kernel
theorem dX10_enterFault_8 : decode cX10_enterFault 8 = .ok (.lconst 0, 1) := by decide +kernel
theorem dX10_enterFault_9 : decode cX10_enterFault 9 = .ok (.lcmp, 1) := by decide +kernel
theorem dX10_enterFault_10 : decode cX10_enterFault 10 = .ok (.ifCond .eq 19, 3) := by decide +kernel
theorem dX10_enterFault_13 : decode cX10_enterFault 13 = .ok (.lload 6, 2) := by decide +kernel
theorem dX10_enterFault_15 : decode cX10_enterFault 15 = .ok (.aload_n 1, 1) := by decide +kernel
theorem dX10_enterFault_16 : decode cX10_enterFault 16 = .ok (.invokevirtual 116, 3) := by decide +kernel
theorem dX10_enterFault_19 : decode cX10_enterFault 19 = .ok (.ldc2_w 120, 3) := by decide +kernel
theorem dX10_enterFault_22 : decode cX10_enterFault 22 = .ok (.lxor, 1) := by decide +kernel
theorem dX10_enterFault_23 : decode cX10_enterFault 23 = .ok (.land, 1) := by decide +kernel
theorem dX10_enterFault_24 : decode cX10_enterFault 24 = .ok (.lconst 0, 1) := by decide +kernel
theorem dX10_enterFault_25 : decode cX10_enterFault 25 = .ok (.lcmp, 1) := by decide +kernel
theorem dX10_enterFault_26 : decode cX10_enterFault 26 = .ok (.ifCond .eq 5, 3) := by decide +kernel
theorem dX10_enterFault_29 : decode cX10_enterFault 29 = .ok (.iconst 2, 1) := by decide +kernel
theorem dX10_enterFault_30 : decode cX10_enterFault 30 = .ok (.ireturn, 1) := by decide +kernel
theorem dX10_enterFault_31 : decode cX10_enterFault 31 = .ok (.lload 6, 2) := by decide +kernel
theorem dX10_enterFault_33 : decode cX10_enterFault 33 = .ok (.aload_n 1, 1) := by decide +kernel
theorem dX10_enterFault_34 : decode cX10_enterFault 34 = .ok (.getfield 122, 3) := by decide +kernel
theorem dX10_enterFault_37 : decode cX10_enterFault 37 = .ok (.land, 1) := by decide +kernel
theorem dX10_enterFault_38 : decode cX10_enterFault 38 = .ok (.lconst 0, 1) := by decide +kernel
theorem dX10_enterFault_39 : decode cX10_enterFault 39 = .ok (.lcmp, 1) := by decide +kernel
theorem dX10_enterFault_40 : decode cX10_enterFault 40 = .ok (.ifCond .eq 5, 3) := by decide +kernel
theorem dX10_enterFault_43 : decode cX10_enterFault 43 = .ok (.iconst 3, 1) := by decide +kernel
theorem dX10_enterFault_44 : decode cX10_enterFault 44 = .ok (.ireturn, 1) := by decide +kernel
theorem dX10_enterFault_45 : decode cX10_enterFault 45 = .ok (.iload_n 2, 1) := by decide +kernel
theorem dX10_enterFault_46 : decode cX10_enterFault 46 = .ok (.iconst 1, 1) := by decide +kernel
theorem dX10_enterFault_47 : decode cX10_enterFault 47 = .ok (.if_icmp .lt 30, 3) := by decide +kernel
theorem dX10_enterFault_50 : decode cX10_enterFault 50 = .ok (.iload_n 2, 1) := by decide +kernel
theorem dX10_enterFault_51 : decode cX10_enterFault 51 = .ok (.bipush 6, 2) := by decide +kernel
theorem dX10_enterFault_53 : decode cX10_enterFault 53 = .ok (.if_icmp .gt 24, 3) := by decide +kernel
theorem dX10_enterFault_56 : decode cX10_enterFault 56 = .ok (.lload_n 3, 1) := by decide +kernel
theorem dX10_enterFault_57 : decode cX10_enterFault 57 = .ok (.invokestatic 126, 3) := by decide +kernel
theorem dX10_enterFault_60 : decode cX10_enterFault 60 = .ok (.ifCond .eq 17, 3) := by decide +kernel
theorem dX10_enterFault_63 : decode cX10_enterFault 63 = .ok (.iload 5, 2) := by decide +kernel
theorem dX10_enterFault_65 : decode cX10_enterFault 65 = .ok (.ifCond .lt 12, 3) := by decide +kernel
theorem dX10_enterFault_68 : decode cX10_enterFault 68 = .ok (.iload 5, 2) := by decide +kernel
theorem dX10_enterFault_70 : decode cX10_enterFault 70 = .ok (.iload_n 2, 1) := by decide +kernel
theorem dX10_enterFault_71 : decode cX10_enterFault 71 = .ok (.invokestatic 130, 3) := by decide +kernel
theorem dX10_enterFault_74 : decode cX10_enterFault 74 = .ok (.if_icmp .le 5, 3) := by decide +kernel
theorem dX10_enterFault_77 : decode cX10_enterFault 77 = .ok (.iconst 5, 1) := by decide +kernel
theorem dX10_enterFault_78 : decode cX10_enterFault 78 = .ok (.ireturn, 1) := by decide +kernel
theorem dX10_enterFault_79 : decode cX10_enterFault 79 = .ok (.aload_n 0, 1) := by decide +kernel
theorem dX10_enterFault_80 : decode cX10_enterFault 80 = .ok (.getfield 98, 3) := by decide +kernel
theorem dX10_enterFault_83 : decode cX10_enterFault 83 = .ok (.sipush 300, 3) := by decide +kernel
theorem dX10_enterFault_86 : decode cX10_enterFault 86 = .ok (.if_icmp .lt 8, 3) := by decide +kernel
theorem dX10_enterFault_89 : decode cX10_enterFault 89 = .ok (.bipush 10, 2) := by decide +kernel
theorem dX10_enterFault_91 : decode cX10_enterFault 91 = .ok (.goto 4, 3) := by decide +kernel
theorem dX10_enterFault_94 : decode cX10_enterFault 94 = .ok (.iconst 0, 1) := by decide +kernel
theorem dX10_enterFault_95 : decode cX10_enterFault 95 = .ok (.ireturn, 1) := by decide +kernel
theorem dX10_maxRate_0 : decode cX10_maxRate 0 = .ok (.iload_n 0, 1) := by decide +kernel
theorem dX10_maxRate_1 : decode cX10_maxRate 1 = .ok (.iconst 4, 1) := by decide +kernel
theorem dX10_maxRate_2 : decode cX10_maxRate 2 = .ok (.if_icmp .eq 9, 3) := by decide +kernel
theorem dX10_maxRate_5 : decode cX10_maxRate 5 = .ok (.iload_n 0, 1) := by decide +kernel
theorem dX10_maxRate_6 : decode cX10_maxRate 6 = .ok (.bipush 6, 2) := by decide +kernel
theorem dX10_maxRate_8 : decode cX10_maxRate 8 = .ok (.if_icmp .ne 8, 3) := by decide +kernel
theorem dX10_maxRate_11 : decode cX10_maxRate 11 = .ok (.ldc 68, 2) := by decide +kernel
theorem dX10_maxRate_13 : decode cX10_maxRate 13 = .ok (.goto 6, 3) := by decide +kernel
theorem dX10_maxRate_16 : decode cX10_maxRate 16 = .ok (.sipush 200, 3) := by decide +kernel
theorem dX10_maxRate_19 : decode cX10_maxRate 19 = .ok (.ireturn, 1) := by decide +kernel
theorem dX10_claim_0 : decode cX10_claim 0 = .ok (.aload_n 0, 1) := by decide +kernel
theorem dX10_claim_1 : decode cX10_claim 1 = .ok (.iload_n 1, 1) := by decide +kernel
theorem dX10_claim_2 : decode cX10_claim 2 = .ok (.invokevirtual 133, 3) := by decide +kernel
theorem dX10_claim_5 : decode cX10_claim 5 = .ok (.astore 4, 2) := by decide +kernel
theorem dX10_claim_7 : decode cX10_claim 7 = .ok (.aload_n 0, 1) := by decide +kernel
theorem dX10_claim_8 : decode cX10_claim 8 = .ok (.aload 4, 2) := by decide +kernel
theorem dX10_claim_10 : decode cX10_claim 10 = .ok (.iload_n 2, 1) := by decide +kernel
theorem dX10_claim_11 : decode cX10_claim 11 = .ok (.iload_n 3, 1) := by decide +kernel
theorem dX10_claim_12 : decode cX10_claim 12 = .ok (.invokestatic 137, 3) := by decide +kernel
theorem dX10_claim_15 : decode cX10_claim 15 = .ok (.invokevirtual 41, 3) := by decide +kernel
theorem dX10_claim_18 : decode cX10_claim 18 = .ok (.ifCond .eq 8, 3) := by decide +kernel
theorem dX10_claim_21 : decode cX10_claim 21 = .ok (.aload 4, 2) := by decide +kernel
theorem dX10_claim_23 : decode cX10_claim 23 = .ok (.ifnonnull 5, 3) := by decide +kernel
theorem dX10_claim_26 : decode cX10_claim 26 = .ok (.iconst 0, 1) := by decide +kernel
theorem dX10_claim_27 : decode cX10_claim 27 = .ok (.ireturn, 1) := by decide +kernel
theorem dX10_claim_28 : decode cX10_claim 28 = .ok (.aload 4, 2) := by decide +kernel
theorem dX10_claim_30 : decode cX10_claim 30 = .ok (.getfield 141, 3) := by decide +kernel
theorem dX10_claim_33 : decode cX10_claim 33 = .ok (.getfield 145, 3) := by decide +kernel
theorem dX10_claim_36 : decode cX10_claim 36 = .ok (.iload_n 2, 1) := by decide +kernel
theorem dX10_claim_37 : decode cX10_claim 37 = .ok (.iload_n 3, 1) := by decide +kernel
theorem dX10_claim_38 : decode cX10_claim 38 = .ok (.aload_n 0, 1) := by decide +kernel
theorem dX10_claim_39 : decode cX10_claim 39 = .ok (.invokevirtual 79, 3) := by decide +kernel
theorem dX10_claim_42 : decode cX10_claim 42 = .ok (.invokevirtual 149, 3) := by decide +kernel
theorem dX10_claim_45 : decode cX10_claim 45 = .ok (.iconst 1, 1) := by decide +kernel
theorem dX10_claim_46 : decode cX10_claim 46 = .ok (.ireturn, 1) := by decide +kernel
theorem dX10_claimFault_0 : decode cX10_claimFault 0 = .ok (.aload_n 0, 1) := by decide +kernel
theorem dX10_claimFault_1 : decode cX10_claimFault 1 = .ok (.ifnonnull 5, 3) := by decide +kernel
theorem dX10_claimFault_4 : decode cX10_claimFault 4 = .ok (.iconst 1, 1) := by decide +kernel
theorem dX10_claimFault_5 : decode cX10_claimFault 5 = .ok (.ireturn, 1) := by decide +kernel
theorem dX10_claimFault_6 : decode cX10_claimFault 6 = .ok (.aload_n 0, 1) := by decide +kernel
theorem dX10_claimFault_7 : decode cX10_claimFault 7 = .ok (.getfield 153, 3) := by decide +kernel
theorem dX10_claimFault_10 : decode cX10_claimFault 10 = .ok (.ifnonnull 17, 3) := by decide +kernel
theorem dX10_claimFault_13 : decode cX10_claimFault 13 = .ok (.aload_n 0, 1) := by decide +kernel
theorem dX10_claimFault_14 : decode cX10_claimFault 14 = .ok (.getfield 141, 3) := by decide +kernel
theorem dX10_claimFault_17 : decode cX10_claimFault 17 = .ok (.getfield 145, 3) := by decide +kernel
theorem dX10_claimFault_20 : decode cX10_claimFault 20 = .ok (.getfield 157, 3) := by decide +kernel
theorem dX10_claimFault_23 : decode cX10_claimFault 23 = .ok (.iconst 5, 1) := by decide +kernel
theorem dX10_claimFault_24 : decode cX10_claimFault 24 = .ok (.if_icmp .eq 5, 3) := by decide +kernel
theorem dX10_claimFault_27 : decode cX10_claimFault 27 = .ok (.iconst 4, 1) := by decide +kernel
theorem dX10_claimFault_28 : decode cX10_claimFault 28 = .ok (.ireturn, 1) := by decide +kernel
theorem dX10_claimFault_29 : decode cX10_claimFault 29 = .ok (.iload_n 1, 1) := by decide +kernel
theorem dX10_claimFault_30 : decode cX10_claimFault 30 = .ok (.ifCond .lt 20, 3) := by decide +kernel
theorem dX10_claimFault_33 : decode cX10_claimFault 33 = .ok (.iload_n 1, 1) := by decide +kernel
theorem dX10_claimFault_34 : decode cX10_claimFault 34 = .ok (.ldc 68, 2) := by decide +kernel
theorem dX10_claimFault_36 : decode cX10_claimFault 36 = .ok (.if_icmp .gt 14, 3) := by decide +kernel
theorem dX10_claimFault_39 : decode cX10_claimFault 39 = .ok (.iload_n 2, 1) := by decide +kernel
theorem dX10_claimFault_40 : decode cX10_claimFault 40 = .ok (.iconst 1, 1) := by decide +kernel
theorem dX10_claimFault_41 : decode cX10_claimFault 41 = .ok (.if_icmp .lt 9, 3) := by decide +kernel
theorem dX10_claimFault_44 : decode cX10_claimFault 44 = .ok (.iload_n 2, 1) := by decide +kernel
theorem dX10_claimFault_45 : decode cX10_claimFault 45 = .ok (.bipush 30, 2) := by decide +kernel
theorem dX10_claimFault_47 : decode cX10_claimFault 47 = .ok (.if_icmp .le 5, 3) := by decide +kernel
theorem dX10_claimFault_50 : decode cX10_claimFault 50 = .ok (.iconst 5, 1) := by decide +kernel
theorem dX10_claimFault_51 : decode cX10_claimFault 51 = .ok (.ireturn, 1) := by decide +kernel
theorem dX10_claimFault_52 : decode cX10_claimFault 52 = .ok (.aload_n 0, 1) := by decide +kernel
theorem dX10_claimFault_53 : decode cX10_claimFault 53 = .ok (.getfield 141, 3) := by decide +kernel
theorem dX10_claimFault_56 : decode cX10_claimFault 56 = .ok (.getfield 145, 3) := by decide +kernel
theorem dX10_claimFault_59 : decode cX10_claimFault 59 = .ok (.getfield 160, 3) := by decide +kernel
theorem dX10_claimFault_62 : decode cX10_claimFault 62 = .ok (.ifnull 8, 3) := by decide +kernel
theorem dX10_claimFault_65 : decode cX10_claimFault 65 = .ok (.bipush 8, 2) := by decide +kernel
theorem dX10_claimFault_67 : decode cX10_claimFault 67 = .ok (.goto 4, 3) := by decide +kernel
theorem dX10_claimFault_70 : decode cX10_claimFault 70 = .ok (.iconst 0, 1) := by decide +kernel
theorem dX10_claimFault_71 : decode cX10_claimFault 71 = .ok (.ireturn, 1) := by decide +kernel
theorem dX10_owe_0 : decode cX10_owe 0 = .ok (.aload_n 0, 1) := by decide +kernel
theorem dX10_owe_1 : decode cX10_owe 1 = .ok (.iload_n 1, 1) := by decide +kernel
theorem dX10_owe_2 : decode cX10_owe 2 = .ok (.invokevirtual 133, 3) := by decide +kernel
theorem dX10_owe_5 : decode cX10_owe 5 = .ok (.astore 4, 2) := by decide +kernel
theorem dX10_owe_7 : decode cX10_owe 7 = .ok (.aload_n 0, 1) := by decide +kernel
theorem dX10_owe_8 : decode cX10_owe 8 = .ok (.aload_n 0, 1) := by decide +kernel
theorem dX10_owe_9 : decode cX10_owe 9 = .ok (.aload 4, 2) := by decide +kernel
theorem dX10_owe_11 : decode cX10_owe 11 = .ok (.lload_n 2, 1) := by decide +kernel
theorem dX10_owe_12 : decode cX10_owe 12 = .ok (.invokevirtual 164, 3) := by decide +kernel
theorem dX10_owe_15 : decode cX10_owe 15 = .ok (.invokevirtual 41, 3) := by decide +kernel
theorem dX10_owe_18 : decode cX10_owe 18 = .ok (.ifCond .eq 8, 3) := by decide +kernel
theorem dX10_owe_21 : decode cX10_owe 21 = .ok (.aload 4, 2) := by decide +kernel
theorem dX10_owe_23 : decode cX10_owe 23 = .ok (.ifnonnull 5, 3) := by decide +kernel
theorem dX10_owe_26 : decode cX10_owe 26 = .ok (.iconst 0, 1) := by decide +kernel
theorem dX10_owe_27 : decode cX10_owe 27 = .ok (.ireturn, 1) := by decide +kernel
theorem dX10_owe_28 : decode cX10_owe 28 = .ok (.aload 4, 2) := by decide +kernel
theorem dX10_owe_30 : decode cX10_owe 30 = .ok (.lload_n 2, 1) := by decide +kernel
theorem dX10_owe_31 : decode cX10_owe 31 = .ok (.putfield 168, 3) := by decide +kernel
theorem dX10_owe_34 : decode cX10_owe 34 = .ok (.iconst 1, 1) := by decide +kernel
theorem dX10_owe_35 : decode cX10_owe 35 = .ok (.ireturn, 1) := by decide +kernel
theorem dX10_oweFault_0 : decode cX10_oweFault 0 = .ok (.aload_n 1, 1) := by decide +kernel
theorem dX10_oweFault_1 : decode cX10_oweFault 1 = .ok (.ifnonnull 5, 3) := by decide +kernel
theorem dX10_oweFault_4 : decode cX10_oweFault 4 = .ok (.iconst 1, 1) := by decide +kernel
theorem dX10_oweFault_5 : decode cX10_oweFault 5 = .ok (.ireturn, 1) := by decide +kernel
theorem dX10_oweFault_6 : decode cX10_oweFault 6 = .ok (.aload_n 1, 1) := by decide +kernel
theorem dX10_oweFault_7 : decode cX10_oweFault 7 = .ok (.getfield 141, 3) := by decide +kernel
theorem dX10_oweFault_10 : decode cX10_oweFault 10 = .ok (.getfield 145, 3) := by decide +kernel
theorem dX10_oweFault_13 : decode cX10_oweFault 13 = .ok (.astore 4, 2) := by decide +kernel
theorem dX10_oweFault_15 : decode cX10_oweFault 15 = .ok (.aload 4, 2) := by decide +kernel
theorem dX10_oweFault_17 : decode cX10_oweFault 17 = .ok (.getfield 157, 3) := by decide +kernel
theorem dX10_oweFault_20 : decode cX10_oweFault 20 = .ok (.iconst 3, 1) := by decide +kernel
theorem dX10_oweFault_21 : decode cX10_oweFault 21 = .ok (.if_icmp .eq 5, 3) := by decide +kernel
theorem dX10_oweFault_24 : decode cX10_oweFault 24 = .ok (.iconst 4, 1) := by decide +kernel
theorem dX10_oweFault_25 : decode cX10_oweFault 25 = .ok (.ireturn, 1) := by decide +kernel
theorem dX10_oweFault_26 : decode cX10_oweFault 26 = .ok (.lload_n 2, 1) := by decide +kernel
theorem dX10_oweFault_27 : decode cX10_oweFault 27 = .ok (.lconst 0, 1) := by decide +kernel
theorem dX10_oweFault_28 : decode cX10_oweFault 28 = .ok (.lcmp, 1) := by decide +kernel
theorem dX10_oweFault_29 : decode cX10_oweFault 29 = .ok (.ifCond .lt 13, 3) := by decide +kernel
theorem dX10_oweFault_32 : decode cX10_oweFault 32 = .ok (.lload_n 2, 1) := by decide +kernel
theorem dX10_oweFault_33 : decode cX10_oweFault 33 = .ok (.aload 4, 2) := by decide +kernel
theorem dX10_oweFault_35 : decode cX10_oweFault 35 = .ok (.getfield 171, 3) := by decide +kernel
theorem dX10_oweFault_38 : decode cX10_oweFault 38 = .ok (.lcmp, 1) := by decide +kernel
theorem dX10_oweFault_39 : decode cX10_oweFault 39 = .ok (.ifCond .le 5, 3) := by decide +kernel
theorem dX10_oweFault_42 : decode cX10_oweFault 42 = .ok (.iconst 5, 1) := by decide +kernel
theorem dX10_oweFault_43 : decode cX10_oweFault 43 = .ok (.ireturn, 1) := by decide +kernel
theorem dX10_oweFault_44 : decode cX10_oweFault 44 = .ok (.aload_n 1, 1) := by decide +kernel
theorem dX10_oweFault_45 : decode cX10_oweFault 45 = .ok (.getfield 141, 3) := by decide +kernel
theorem dX10_oweFault_48 : decode cX10_oweFault 48 = .ok (.aload_n 0, 1) := by decide +kernel
theorem dX10_oweFault_49 : decode cX10_oweFault 49 = .ok (.getfield 33, 3) := by decide +kernel
theorem dX10_oweFault_52 : decode cX10_oweFault 52 = .ok (.invokevirtual 174, 3) := by decide +kernel
theorem dX10_oweFault_55 : decode cX10_oweFault 55 = .ok (.ifCond .ne 6, 3) := by decide +kernel
theorem dX10_oweFault_58 : decode cX10_oweFault 58 = .ok (.bipush 6, 2) := by decide +kernel
theorem dX10_oweFault_60 : decode cX10_oweFault 60 = .ok (.ireturn, 1) := by decide +kernel
theorem dX10_oweFault_61 : decode cX10_oweFault 61 = .ok (.aload_n 1, 1) := by decide +kernel
theorem dX10_oweFault_62 : decode cX10_oweFault 62 = .ok (.getfield 141, 3) := by decide +kernel
theorem dX10_oweFault_65 : decode cX10_oweFault 65 = .ok (.aconst_null, 1) := by decide +kernel
theorem dX10_oweFault_66 : decode cX10_oweFault 66 = .ok (.invokevirtual 178, 3) := by decide +kernel
theorem dX10_oweFault_69 : decode cX10_oweFault 69 = .ok (.aload_n 1, 1) := by decide +kernel
theorem dX10_oweFault_70 : decode cX10_oweFault 70 = .ok (.getfield 168, 3) := by decide +kernel
theorem dX10_oweFault_73 : decode cX10_oweFault 73 = .ok (.lsub, 1) := by decide +kernel
theorem dX10_oweFault_74 : decode cX10_oweFault 74 = .ok (.lload_n 2, 1) := by decide +kernel
theorem dX10_oweFault_75 : decode cX10_oweFault 75 = .ok (.ladd, 1) := by decide +kernel
theorem dX10_oweFault_76 : decode cX10_oweFault 76 = .ok (.aload 4, 2) := by decide +kernel
theorem dX10_oweFault_78 : decode cX10_oweFault 78 = .ok (.getfield 171, 3) := by decide +kernel
theorem dX10_oweFault_81 : decode cX10_oweFault 81 = .ok (.lcmp, 1) := by decide +kernel
theorem dX10_oweFault_82 : decode cX10_oweFault 82 = .ok (.ifCond .gt 7, 3) := by decide +kernel
theorem dX10_oweFault_85 : decode cX10_oweFault 85 = .ok (.iconst 1, 1) := by decide +kernel
theorem dX10_oweFault_86 : decode cX10_oweFault 86 = .ok (.goto 4, 3) := by decide +kernel
theorem dX10_oweFault_89 : decode cX10_oweFault 89 = .ok (.iconst 0, 1) := by decide +kernel
theorem dX10_oweFault_90 : decode cX10_oweFault 90 = .ok (.istore 5, 2) := by decide +kernel
theorem dX10_oweFault_92 : decode cX10_oweFault 92 = .ok (.aload_n 1, 1) := by decide +kernel
theorem dX10_oweFault_93 : decode cX10_oweFault 93 = .ok (.getfield 182, 3) := by decide +kernel
theorem dX10_oweFault_96 : decode cX10_oweFault 96 = .ok (.ifCond .ne 8, 3) := by decide +kernel
theorem dX10_oweFault_99 : decode cX10_oweFault 99 = .ok (.iload 5, 2) := by decide +kernel
theorem dX10_oweFault_101 : decode cX10_oweFault 101 = .ok (.ifCond .ne 8, 3) := by decide +kernel
theorem dX10_oweFault_104 : decode cX10_oweFault 104 = .ok (.bipush 8, 2) := by decide +kernel
theorem dX10_oweFault_106 : decode cX10_oweFault 106 = .ok (.goto 4, 3) := by decide +kernel
theorem dX10_oweFault_109 : decode cX10_oweFault 109 = .ok (.iconst 0, 1) := by decide +kernel
theorem dX10_oweFault_110 : decode cX10_oweFault 110 = .ok (.ireturn, 1) := by decide +kernel
theorem dX10_pay_0 : decode cX10_pay 0 = .ok (.aload_n 0, 1) := by decide +kernel
theorem dX10_pay_1 : decode cX10_pay 1 = .ok (.iload_n 1, 1) := by decide +kernel
theorem dX10_pay_2 : decode cX10_pay 2 = .ok (.invokevirtual 133, 3) := by decide +kernel
theorem dX10_pay_5 : decode cX10_pay 5 = .ok (.astore 4, 2) := by decide +kernel
theorem dX10_pay_7 : decode cX10_pay 7 = .ok (.aload_n 0, 1) := by decide +kernel
theorem dX10_pay_8 : decode cX10_pay 8 = .ok (.aload_n 0, 1) := by decide +kernel
theorem dX10_pay_9 : decode cX10_pay 9 = .ok (.aload 4, 2) := by decide +kernel
theorem dX10_pay_11 : decode cX10_pay 11 = .ok (.lload_n 2, 1) := by decide +kernel
theorem dX10_pay_12 : decode cX10_pay 12 = .ok (.invokevirtual 186, 3) := by decide +kernel
theorem dX10_pay_15 : decode cX10_pay 15 = .ok (.invokevirtual 41, 3) := by decide +kernel
theorem dX10_pay_18 : decode cX10_pay 18 = .ok (.ifCond .eq 8, 3) := by decide +kernel
theorem dX10_pay_21 : decode cX10_pay 21 = .ok (.aload 4, 2) := by decide +kernel
theorem dX10_pay_23 : decode cX10_pay 23 = .ok (.ifnonnull 7, 3) := by decide +kernel
theorem dX10_pay_26 : decode cX10_pay 26 = .ok (.ldc2_w 120, 3) := by decide +kernel
theorem dX10_pay_29 : decode cX10_pay 29 = .ok (.lreturn, 1) := by decide +kernel
theorem dX10_pay_30 : decode cX10_pay 30 = .ok (.aload 4, 2) := by decide +kernel
theorem dX10_pay_32 : decode cX10_pay 32 = .ok (.dup, 1) := by decide +kernel
theorem dX10_pay_33 : decode cX10_pay 33 = .ok (.getfield 168, 3) := by decide +kernel
theorem dX10_pay_36 : decode cX10_pay 36 = .ok (.lload_n 2, 1) := by decide +kernel
theorem dX10_pay_37 : decode cX10_pay 37 = .ok (.lsub, 1) := by decide +kernel
theorem dX10_pay_38 : decode cX10_pay 38 = .ok (.putfield 168, 3) := by decide +kernel
theorem dX10_pay_41 : decode cX10_pay 41 = .ok (.aload 4, 2) := by decide +kernel
theorem dX10_pay_43 : decode cX10_pay 43 = .ok (.getfield 168, 3) := by decide +kernel
theorem dX10_pay_46 : decode cX10_pay 46 = .ok (.lreturn, 1) := by decide +kernel
theorem dX10_payFault_0 : decode cX10_payFault 0 = .ok (.aload_n 1, 1) := by decide +kernel
theorem dX10_payFault_1 : decode cX10_payFault 1 = .ok (.ifnonnull 5, 3) := by decide +kernel
theorem dX10_payFault_4 : decode cX10_payFault 4 = .ok (.iconst 1, 1) := by decide +kernel
theorem dX10_payFault_5 : decode cX10_payFault 5 = .ok (.ireturn, 1) := by decide +kernel
theorem dX10_payFault_6 : decode cX10_payFault 6 = .ok (.aload_n 1, 1) := by decide +kernel
theorem dX10_payFault_7 : decode cX10_payFault 7 = .ok (.getfield 141, 3) := by decide +kernel
theorem dX10_payFault_10 : decode cX10_payFault 10 = .ok (.getfield 145, 3) := by decide +kernel
theorem dX10_payFault_13 : decode cX10_payFault 13 = .ok (.invokevirtual 189, 3) := by decide +kernel
theorem dX10_payFault_16 : decode cX10_payFault 16 = .ok (.ifCond .ne 5, 3) := by decide +kernel
theorem dX10_payFault_19 : decode cX10_payFault 19 = .ok (.iconst 4, 1) := by decide +kernel
theorem dX10_payFault_20 : decode cX10_payFault 20 = .ok (.ireturn, 1) := by decide +kernel
theorem dX10_payFault_21 : decode cX10_payFault 21 = .ok (.lload_n 2, 1) := by decide +kernel
theorem dX10_payFault_22 : decode cX10_payFault 22 = .ok (.lconst 0, 1) := by decide +kernel
theorem dX10_payFault_23 : decode cX10_payFault 23 = .ok (.lcmp, 1) := by decide +kernel
theorem dX10_payFault_24 : decode cX10_payFault 24 = .ok (.ifCond .lt 16, 3) := by decide +kernel
theorem dX10_payFault_27 : decode cX10_payFault 27 = .ok (.lload_n 2, 1) := by decide +kernel
theorem dX10_payFault_28 : decode cX10_payFault 28 = .ok (.aload_n 1, 1) := by decide +kernel
theorem dX10_payFault_29 : decode cX10_payFault 29 = .ok (.getfield 141, 3) := by decide +kernel
theorem dX10_payFault_32 : decode cX10_payFault 32 = .ok (.aload_n 1, 1) := by decide +kernel
theorem dX10_payFault_33 : decode cX10_payFault 33 = .ok (.invokevirtual 178, 3) := by decide +kernel
theorem dX10_payFault_36 : decode cX10_payFault 36 = .ok (.lcmp, 1) := by decide +kernel
theorem dX10_payFault_37 : decode cX10_payFault 37 = .ok (.ifCond .le 5, 3) := by decide +kernel
theorem dX10_payFault_40 : decode cX10_payFault 40 = .ok (.iconst 5, 1) := by decide +kernel
theorem dX10_payFault_41 : decode cX10_payFault 41 = .ok (.ireturn, 1) := by decide +kernel
theorem dX10_payFault_42 : decode cX10_payFault 42 = .ok (.aload_n 1, 1) := by decide +kernel
theorem dX10_payFault_43 : decode cX10_payFault 43 = .ok (.getfield 141, 3) := by decide +kernel
theorem dX10_payFault_46 : decode cX10_payFault 46 = .ok (.aload_n 0, 1) := by decide +kernel
theorem dX10_payFault_47 : decode cX10_payFault 47 = .ok (.getfield 33, 3) := by decide +kernel
theorem dX10_payFault_50 : decode cX10_payFault 50 = .ok (.invokevirtual 174, 3) := by decide +kernel
theorem dX10_payFault_53 : decode cX10_payFault 53 = .ok (.ifCond .ne 6, 3) := by decide +kernel
theorem dX10_payFault_56 : decode cX10_payFault 56 = .ok (.bipush 6, 2) := by decide +kernel
theorem dX10_payFault_58 : decode cX10_payFault 58 = .ok (.ireturn, 1) := by decide +kernel
theorem dX10_payFault_59 : decode cX10_payFault 59 = .ok (.aload_n 1, 1) := by decide +kernel
theorem dX10_payFault_60 : decode cX10_payFault 60 = .ok (.getfield 182, 3) := by decide +kernel
theorem dX10_payFault_63 : decode cX10_payFault 63 = .ok (.ifCond .eq 8, 3) := by decide +kernel
theorem dX10_payFault_66 : decode cX10_payFault 66 = .ok (.bipush 8, 2) := by decide +kernel
theorem dX10_payFault_68 : decode cX10_payFault 68 = .ok (.goto 4, 3) := by decide +kernel
theorem dX10_payFault_71 : decode cX10_payFault 71 = .ok (.iconst 0, 1) := by decide +kernel
theorem dX10_payFault_72 : decode cX10_payFault 72 = .ok (.ireturn, 1) := by decide +kernel
theorem dX10_paper_0 : decode cX10_paper 0 = .ok (.aload_n 0, 1) := by decide +kernel
theorem dX10_paper_1 : decode cX10_paper 1 = .ok (.iload_n 1, 1) := by decide +kernel
theorem dX10_paper_2 : decode cX10_paper 2 = .ok (.invokevirtual 133, 3) := by decide +kernel
theorem dX10_paper_5 : decode cX10_paper 5 = .ok (.astore_n 3, 1) := by decide +kernel
theorem dX10_paper_6 : decode cX10_paper 6 = .ok (.aload_n 0, 1) := by decide +kernel
theorem dX10_paper_7 : decode cX10_paper 7 = .ok (.aload_n 3, 1) := by decide +kernel
theorem dX10_paper_8 : decode cX10_paper 8 = .ok (.invokestatic 193, 3) := by decide +kernel
theorem dX10_paper_11 : decode cX10_paper 11 = .ok (.invokevirtual 41, 3) := by decide +kernel
theorem dX10_paper_14 : decode cX10_paper 14 = .ok (.ifCond .eq 7, 3) := by decide +kernel
theorem dX10_paper_17 : decode cX10_paper 17 = .ok (.aload_n 3, 1) := by decide +kernel
theorem dX10_paper_18 : decode cX10_paper 18 = .ok (.ifnonnull 5, 3) := by decide +kernel
theorem dX10_paper_21 : decode cX10_paper 21 = .ok (.iconst 0, 1) := by decide +kernel
theorem dX10_paper_22 : decode cX10_paper 22 = .ok (.ireturn, 1) := by decide +kernel
theorem dX10_paper_23 : decode cX10_paper 23 = .ok (.aload_n 3, 1) := by decide +kernel
theorem dX10_paper_24 : decode cX10_paper 24 = .ok (.getfield 141, 3) := by decide +kernel
theorem dX10_paper_27 : decode cX10_paper 27 = .ok (.iload_n 2, 1) := by decide +kernel
theorem dX10_paper_28 : decode cX10_paper 28 = .ok (.putfield 196, 3) := by decide +kernel
theorem dX10_paper_31 : decode cX10_paper 31 = .ok (.iconst 1, 1) := by decide +kernel
theorem dX10_paper_32 : decode cX10_paper 32 = .ok (.ireturn, 1) := by decide +kernel
theorem dX10_paperFault_0 : decode cX10_paperFault 0 = .ok (.aload_n 0, 1) := by decide +kernel
theorem dX10_paperFault_1 : decode cX10_paperFault 1 = .ok (.ifnonnull 5, 3) := by decide +kernel
theorem dX10_paperFault_4 : decode cX10_paperFault 4 = .ok (.iconst 1, 1) := by decide +kernel
theorem dX10_paperFault_5 : decode cX10_paperFault 5 = .ok (.ireturn, 1) := by decide +kernel
theorem dX10_paperFault_6 : decode cX10_paperFault 6 = .ok (.aload_n 0, 1) := by decide +kernel
theorem dX10_paperFault_7 : decode cX10_paperFault 7 = .ok (.getfield 141, 3) := by decide +kernel
theorem dX10_paperFault_10 : decode cX10_paperFault 10 = .ok (.getfield 145, 3) := by decide +kernel
theorem dX10_paperFault_13 : decode cX10_paperFault 13 = .ok (.invokevirtual 199, 3) := by decide +kernel
theorem dX10_paperFault_16 : decode cX10_paperFault 16 = .ok (.ifCond .eq 7, 3) := by decide +kernel
theorem dX10_paperFault_19 : decode cX10_paperFault 19 = .ok (.iconst 0, 1) := by decide +kernel
theorem dX10_paperFault_20 : decode cX10_paperFault 20 = .ok (.goto 4, 3) := by decide +kernel
theorem dX10_paperFault_23 : decode cX10_paperFault 23 = .ok (.iconst 4, 1) := by decide +kernel
theorem dX10_paperFault_24 : decode cX10_paperFault 24 = .ok (.ireturn, 1) := by decide +kernel
theorem dX10_split_0 : decode cX10_split 0 = .ok (.aload_n 0, 1) := by decide +kernel
theorem dX10_split_1 : decode cX10_split 1 = .ok (.iload_n 1, 1) := by decide +kernel
theorem dX10_split_2 : decode cX10_split 2 = .ok (.invokevirtual 133, 3) := by decide +kernel
theorem dX10_split_5 : decode cX10_split 5 = .ok (.astore 4, 2) := by decide +kernel
theorem dX10_split_7 : decode cX10_split 7 = .ok (.aload_n 0, 1) := by decide +kernel
theorem dX10_split_8 : decode cX10_split 8 = .ok (.aload_n 0, 1) := by decide +kernel
theorem dX10_split_9 : decode cX10_split 9 = .ok (.aload 4, 2) := by decide +kernel
theorem dX10_split_11 : decode cX10_split 11 = .ok (.lload_n 2, 1) := by decide +kernel
theorem dX10_split_12 : decode cX10_split 12 = .ok (.iconst 1, 1) := by decide +kernel
theorem dX10_split_13 : decode cX10_split 13 = .ok (.iconst 0, 1) := by decide +kernel
theorem dX10_split_14 : decode cX10_split 14 = .ok (.invokevirtual 202, 3) := by decide +kernel
theorem dX10_split_17 : decode cX10_split 17 = .ok (.invokevirtual 41, 3) := by decide +kernel
theorem dX10_split_20 : decode cX10_split 20 = .ok (.ifCond .eq 8, 3) := by decide +kernel
theorem dX10_split_23 : decode cX10_split 23 = .ok (.aload 4, 2) := by decide +kernel
theorem dX10_split_25 : decode cX10_split 25 = .ok (.ifnonnull 5, 3) := by decide +kernel
theorem dX10_split_28 : decode cX10_split 28 = .ok (.iconst (-1), 1) := by decide +kernel
theorem dX10_split_29 : decode cX10_split 29 = .ok (.ireturn, 1) := by decide +kernel
theorem dX10_split_30 : decode cX10_split 30 = .ok (.aload_n 0, 1) := by decide +kernel
theorem dX10_split_31 : decode cX10_split 31 = .ok (.aload 4, 2) := by decide +kernel
theorem dX10_split_33 : decode cX10_split 33 = .ok (.lload_n 2, 1) := by decide +kernel
theorem dX10_split_34 : decode cX10_split 34 = .ok (.aload 4, 2) := by decide +kernel
theorem dX10_split_36 : decode cX10_split 36 = .ok (.getfield 206, 3) := by decide +kernel
theorem dX10_split_39 : decode cX10_split 39 = .ok (.invokevirtual 209, 3) := by decide +kernel
theorem dX10_split_42 : decode cX10_split 42 = .ok (.ireturn, 1) := by decide +kernel
theorem dX10_hand_0 : decode cX10_hand 0 = .ok (.aload_n 0, 1) := by decide +kernel
theorem dX10_hand_1 : decode cX10_hand 1 = .ok (.iload_n 1, 1) := by decide +kernel
theorem dX10_hand_2 : decode cX10_hand 2 = .ok (.invokevirtual 133, 3) := by decide +kernel
theorem dX10_hand_5 : decode cX10_hand 5 = .ok (.astore 5, 2) := by decide +kernel
theorem dX10_hand_7 : decode cX10_hand 7 = .ok (.iload 4, 2) := by decide +kernel
theorem dX10_hand_9 : decode cX10_hand 9 = .ok (.iconst 1, 1) := by decide +kernel
theorem dX10_hand_10 : decode cX10_hand 10 = .ok (.if_icmp .lt 15, 3) := by decide +kernel
theorem dX10_hand_13 : decode cX10_hand 13 = .ok (.iload 4, 2) := by decide +kernel
theorem dX10_hand_15 : decode cX10_hand 15 = .ok (.sipush 1000, 3) := by decide +kernel
theorem dX10_hand_18 : decode cX10_hand 18 = .ok (.if_icmp .gt 7, 3) := by decide +kernel
theorem dX10_hand_21 : decode cX10_hand 21 = .ok (.iconst 1, 1) := by decide +kernel
theorem dX10_hand_22 : decode cX10_hand 22 = .ok (.goto 4, 3) := by decide +kernel
theorem dX10_hand_25 : decode cX10_hand 25 = .ok (.iconst 0, 1) := by decide +kernel
theorem dX10_hand_26 : decode cX10_hand 26 = .ok (.istore 6, 2) := by decide +kernel
theorem dX10_hand_28 : decode cX10_hand 28 = .ok (.aload_n 0, 1) := by decide +kernel
theorem dX10_hand_29 : decode cX10_hand 29 = .ok (.aload_n 0, 1) := by decide +kernel
theorem dX10_hand_30 : decode cX10_hand 30 = .ok (.aload 5, 2) := by decide +kernel
theorem dX10_hand_32 : decode cX10_hand 32 = .ok (.lload_n 2, 1) := by decide +kernel
theorem dX10_hand_33 : decode cX10_hand 33 = .ok (.iload 6, 2) := by decide +kernel
theorem dX10_hand_35 : decode cX10_hand 35 = .ok (.iconst 1, 1) := by decide +kernel
theorem dX10_hand_36 : decode cX10_hand 36 = .ok (.invokevirtual 202, 3) := by decide +kernel
theorem dX10_hand_39 : decode cX10_hand 39 = .ok (.invokevirtual 41, 3) := by decide +kernel
theorem dX10_hand_42 : decode cX10_hand 42 = .ok (.ifCond .eq 8, 3) := by decide +kernel
theorem dX10_hand_45 : decode cX10_hand 45 = .ok (.aload 5, 2) := by decide +kernel
theorem dX10_hand_47 : decode cX10_hand 47 = .ok (.ifnonnull 5, 3) := by decide +kernel
theorem dX10_hand_50 : decode cX10_hand 50 = .ok (.iconst (-1), 1) := by decide +kernel
theorem dX10_hand_51 : decode cX10_hand 51 = .ok (.ireturn, 1) := by decide +kernel
theorem dX10_hand_52 : decode cX10_hand 52 = .ok (.aload_n 0, 1) := by decide +kernel
theorem dX10_hand_53 : decode cX10_hand 53 = .ok (.aload 5, 2) := by decide +kernel
theorem dX10_hand_55 : decode cX10_hand 55 = .ok (.aload 5, 2) := by decide +kernel
theorem dX10_hand_57 : decode cX10_hand 57 = .ok (.getfield 168, 3) := by decide +kernel
theorem dX10_hand_60 : decode cX10_hand 60 = .ok (.lload_n 2, 1) := by decide +kernel
theorem dX10_hand_61 : decode cX10_hand 61 = .ok (.lsub, 1) := by decide +kernel
theorem dX10_hand_62 : decode cX10_hand 62 = .ok (.iload 4, 2) := by decide +kernel
theorem dX10_hand_64 : decode cX10_hand 64 = .ok (.invokevirtual 209, 3) := by decide +kernel
theorem dX10_hand_67 : decode cX10_hand 67 = .ok (.iconst 1, 1) := by decide +kernel
theorem dX10_hand_68 : decode cX10_hand 68 = .ok (.iadd, 1) := by decide +kernel
theorem dX10_hand_69 : decode cX10_hand 69 = .ok (.ireturn, 1) := by decide +kernel
theorem dX10_divideFault_0 : decode cX10_divideFault 0 = .ok (.aload_n 1, 1) := by decide +kernel
theorem dX10_divideFault_1 : decode cX10_divideFault 1 = .ok (.ifnonnull 5, 3) := by decide +kernel
theorem dX10_divideFault_4 : decode cX10_divideFault 4 = .ok (.iconst 1, 1) := by decide +kernel
theorem dX10_divideFault_5 : decode cX10_divideFault 5 = .ok (.ireturn, 1) := by decide +kernel
theorem dX10_divideFault_6 : decode cX10_divideFault 6 = .ok (.aload_n 1, 1) := by decide +kernel
theorem dX10_divideFault_7 : decode cX10_divideFault 7 = .ok (.getfield 141, 3) := by decide +kernel
theorem dX10_divideFault_10 : decode cX10_divideFault 10 = .ok (.astore 6, 2) := by decide +kernel
theorem dX10_divideFault_12 : decode cX10_divideFault 12 = .ok (.aload 6, 2) := by decide +kernel
theorem dX10_divideFault_14 : decode cX10_divideFault 14 = .ok (.getfield 145, 3) := by decide +kernel
theorem dX10_divideFault_17 : decode cX10_divideFault 17 = .ok (.invokevirtual 189, 3) := by decide +kernel
theorem dX10_divideFault_20 : decode cX10_divideFault 20 = .ok (.ifCond .ne 5, 3) := by decide +kernel
theorem dX10_divideFault_23 : decode cX10_divideFault 23 = .ok (.iconst 4, 1) := by decide +kernel
theorem dX10_divideFault_24 : decode cX10_divideFault 24 = .ok (.ireturn, 1) := by decide +kernel
theorem dX10_divideFault_25 : decode cX10_divideFault 25 = .ok (.iload 4, 2) := by decide +kernel
theorem dX10_divideFault_27 : decode cX10_divideFault 27 = .ok (.ifCond .eq 20, 3) := by decide +kernel
theorem dX10_divideFault_30 : decode cX10_divideFault 30 = .ok (.lload_n 2, 1) := by decide +kernel
theorem dX10_divideFault_31 : decode cX10_divideFault 31 = .ok (.lconst 0, 1) := by decide +kernel
theorem dX10_divideFault_32 : decode cX10_divideFault 32 = .ok (.lcmp, 1) := by decide +kernel
theorem dX10_divideFault_33 : decode cX10_divideFault 33 = .ok (.ifCond .lt 14, 3) := by decide +kernel
theorem dX10_divideFault_36 : decode cX10_divideFault 36 = .ok (.lload_n 2, 1) := by decide +kernel
theorem dX10_divideFault_37 : decode cX10_divideFault 37 = .ok (.aload 6, 2) := by decide +kernel
theorem dX10_divideFault_39 : decode cX10_divideFault 39 = .ok (.aload_n 1, 1) := by decide +kernel
theorem dX10_divideFault_40 : decode cX10_divideFault 40 = .ok (.invokevirtual 178, 3) := by decide +kernel
theorem dX10_divideFault_43 : decode cX10_divideFault 43 = .ok (.lcmp, 1) := by decide +kernel
theorem dX10_divideFault_44 : decode cX10_divideFault 44 = .ok (.ifCond .le 5, 3) := by decide +kernel
theorem dX10_divideFault_47 : decode cX10_divideFault 47 = .ok (.iconst 5, 1) := by decide +kernel
theorem dX10_divideFault_48 : decode cX10_divideFault 48 = .ok (.ireturn, 1) := by decide +kernel
theorem dX10_divideFault_49 : decode cX10_divideFault 49 = .ok (.aload 6, 2) := by decide +kernel
theorem dX10_divideFault_51 : decode cX10_divideFault 51 = .ok (.aload_n 0, 1) := by decide +kernel
theorem dX10_divideFault_52 : decode cX10_divideFault 52 = .ok (.getfield 33, 3) := by decide +kernel
theorem dX10_divideFault_55 : decode cX10_divideFault 55 = .ok (.invokevirtual 174, 3) := by decide +kernel
theorem dX10_divideFault_58 : decode cX10_divideFault 58 = .ok (.ifCond .ne 6, 3) := by decide +kernel
theorem dX10_divideFault_61 : decode cX10_divideFault 61 = .ok (.bipush 6, 2) := by decide +kernel
theorem dX10_divideFault_63 : decode cX10_divideFault 63 = .ok (.ireturn, 1) := by decide +kernel
theorem dX10_divideFault_64 : decode cX10_divideFault 64 = .ok (.iload 5, 2) := by decide +kernel
theorem dX10_divideFault_66 : decode cX10_divideFault 66 = .ok (.ifCond .eq 25, 3) := by decide +kernel
theorem dX10_divideFault_69 : decode cX10_divideFault 69 = .ok (.aload 6, 2) := by decide +kernel
theorem dX10_divideFault_71 : decode cX10_divideFault 71 = .ok (.getfield 145, 3) := by decide +kernel
theorem dX10_divideFault_74 : decode cX10_divideFault 74 = .ok (.invokevirtual 199, 3) := by decide +kernel
theorem dX10_divideFault_77 : decode cX10_divideFault 77 = .ok (.ifCond .eq 14, 3) := by decide +kernel
theorem dX10_divideFault_80 : decode cX10_divideFault 80 = .ok (.aload 6, 2) := by decide +kernel
theorem dX10_divideFault_82 : decode cX10_divideFault 82 = .ok (.getfield 196, 3) := by decide +kernel
theorem dX10_divideFault_85 : decode cX10_divideFault 85 = .ok (.ifCond .ne 6, 3) := by decide +kernel
theorem dX10_divideFault_88 : decode cX10_divideFault 88 = .ok (.bipush 7, 2) := by decide +kernel
theorem dX10_divideFault_90 : decode cX10_divideFault 90 = .ok (.ireturn, 1) := by decide +kernel
theorem dX10_divideFault_91 : decode cX10_divideFault 91 = .ok (.aload_n 1, 1) := by decide +kernel
theorem dX10_divideFault_92 : decode cX10_divideFault 92 = .ok (.getfield 182, 3) := by decide +kernel
theorem dX10_divideFault_95 : decode cX10_divideFault 95 = .ok (.ifCond .eq 6, 3) := by decide +kernel
theorem dX10_divideFault_98 : decode cX10_divideFault 98 = .ok (.bipush 8, 2) := by decide +kernel
theorem dX10_divideFault_100 : decode cX10_divideFault 100 = .ok (.ireturn, 1) := by decide +kernel
theorem dX10_divideFault_101 : decode cX10_divideFault 101 = .ok (.aload_n 0, 1) := by decide +kernel
theorem dX10_divideFault_102 : decode cX10_divideFault 102 = .ok (.getfield 98, 3) := by decide +kernel
theorem dX10_divideFault_105 : decode cX10_divideFault 105 = .ok (.iconst 2, 1) := by decide +kernel
theorem dX10_divideFault_106 : decode cX10_divideFault 106 = .ok (.iadd, 1) := by decide +kernel
theorem dX10_divideFault_107 : decode cX10_divideFault 107 = .ok (.sipush 300, 3) := by decide +kernel
theorem dX10_divideFault_110 : decode cX10_divideFault 110 = .ok (.if_icmp .le 8, 3) := by decide +kernel
theorem dX10_divideFault_113 : decode cX10_divideFault 113 = .ok (.bipush 10, 2) := by decide +kernel
theorem dX10_divideFault_115 : decode cX10_divideFault 115 = .ok (.goto 4, 3) := by decide +kernel
theorem dX10_divideFault_118 : decode cX10_divideFault 118 = .ok (.iconst 0, 1) := by decide +kernel
theorem dX10_divideFault_119 : decode cX10_divideFault 119 = .ok (.ireturn, 1) := by decide +kernel
theorem dX10_divide_0 : decode cX10_divide 0 = .ok (.aload_n 1, 1) := by decide +kernel
theorem dX10_divide_1 : decode cX10_divide 1 = .ok (.getfield 141, 3) := by decide +kernel
theorem dX10_divide_4 : decode cX10_divide 4 = .ok (.astore 5, 2) := by decide +kernel
theorem dX10_divide_6 : decode cX10_divide 6 = .ok (.aload_n 0, 1) := by decide +kernel
theorem dX10_divide_7 : decode cX10_divide 7 = .ok (.getfield 98, 3) := by decide +kernel
theorem dX10_divide_10 : decode cX10_divide 10 = .ok (.iconst 1, 1) := by decide +kernel
theorem dX10_divide_11 : decode cX10_divide 11 = .ok (.iadd, 1) := by decide +kernel
theorem dX10_divide_12 : decode cX10_divide 12 = .ok (.istore 6, 2) := by decide +kernel
theorem dX10_divide_14 : decode cX10_divide 14 = .ok (.new 15, 3) := by decide +kernel
theorem dX10_divide_17 : decode cX10_divide 17 = .ok (.dup, 1) := by decide +kernel
theorem dX10_divide_18 : decode cX10_divide 18 = .ok (.iload 6, 2) := by decide +kernel
theorem dX10_divide_20 : decode cX10_divide 20 = .ok (.aload 5, 2) := by decide +kernel
theorem dX10_divide_22 : decode cX10_divide 22 = .ok (.aload_n 1, 1) := by decide +kernel
theorem dX10_divide_23 : decode cX10_divide 23 = .ok (.lload_n 2, 1) := by decide +kernel
theorem dX10_divide_24 : decode cX10_divide 24 = .ok (.aload_n 1, 1) := by decide +kernel
theorem dX10_divide_25 : decode cX10_divide 25 = .ok (.getfield 206, 3) := by decide +kernel
theorem dX10_divide_28 : decode cX10_divide 28 = .ok (.invokespecial 101, 3) := by decide +kernel
theorem dX10_divide_31 : decode cX10_divide 31 = .ok (.astore 7, 2) := by decide +kernel
theorem dX10_divide_33 : decode cX10_divide 33 = .ok (.new 15, 3) := by decide +kernel
theorem dX10_divide_36 : decode cX10_divide 36 = .ok (.dup, 1) := by decide +kernel
theorem dX10_divide_37 : decode cX10_divide 37 = .ok (.iload 6, 2) := by decide +kernel
theorem dX10_divide_39 : decode cX10_divide 39 = .ok (.iconst 1, 1) := by decide +kernel
theorem dX10_divide_40 : decode cX10_divide 40 = .ok (.iadd, 1) := by decide +kernel
theorem dX10_divide_41 : decode cX10_divide 41 = .ok (.aload 5, 2) := by decide +kernel
theorem dX10_divide_43 : decode cX10_divide 43 = .ok (.aload_n 1, 1) := by decide +kernel
theorem dX10_divide_44 : decode cX10_divide 44 = .ok (.aload_n 1, 1) := by decide +kernel
theorem dX10_divide_45 : decode cX10_divide 45 = .ok (.getfield 168, 3) := by decide +kernel
theorem dX10_divide_48 : decode cX10_divide 48 = .ok (.lload_n 2, 1) := by decide +kernel
theorem dX10_divide_49 : decode cX10_divide 49 = .ok (.lsub, 1) := by decide +kernel
theorem dX10_divide_50 : decode cX10_divide 50 = .ok (.iload 4, 2) := by decide +kernel
theorem dX10_divide_52 : decode cX10_divide 52 = .ok (.invokespecial 101, 3) := by decide +kernel
theorem dX10_divide_55 : decode cX10_divide 55 = .ok (.astore 8, 2) := by decide +kernel
theorem dX10_divide_57 : decode cX10_divide 57 = .ok (.aload 5, 2) := by decide +kernel
theorem dX10_divide_59 : decode cX10_divide 59 = .ok (.aload_n 1, 1) := by decide +kernel
theorem dX10_divide_60 : decode cX10_divide 60 = .ok (.aload 7, 2) := by decide +kernel
theorem dX10_divide_62 : decode cX10_divide 62 = .ok (.aload 8, 2) := by decide +kernel
theorem dX10_divide_64 : decode cX10_divide 64 = .ok (.invokevirtual 213, 3) := by decide +kernel
theorem dX10_divide_67 : decode cX10_divide 67 = .ok (.aload_n 0, 1) := by decide +kernel
theorem dX10_divide_68 : decode cX10_divide 68 = .ok (.aload 7, 2) := by decide +kernel
theorem dX10_divide_70 : decode cX10_divide 70 = .ok (.invokevirtual 112, 3) := by decide +kernel
theorem dX10_divide_73 : decode cX10_divide 73 = .ok (.pop, 1) := by decide +kernel
theorem dX10_divide_74 : decode cX10_divide 74 = .ok (.aload_n 0, 1) := by decide +kernel
theorem dX10_divide_75 : decode cX10_divide 75 = .ok (.aload 8, 2) := by decide +kernel
theorem dX10_divide_77 : decode cX10_divide 77 = .ok (.invokevirtual 112, 3) := by decide +kernel
theorem dX10_divide_80 : decode cX10_divide 80 = .ok (.pop, 1) := by decide +kernel
theorem dX10_divide_81 : decode cX10_divide 81 = .ok (.iload 6, 2) := by decide +kernel
theorem dX10_divide_83 : decode cX10_divide 83 = .ok (.ireturn, 1) := by decide +kernel
theorem dX10_post_0 : decode cX10_post 0 = .ok (.aload_n 0, 1) := by decide +kernel
theorem dX10_post_1 : decode cX10_post 1 = .ok (.iload_n 1, 1) := by decide +kernel
theorem dX10_post_2 : decode cX10_post 2 = .ok (.invokevirtual 133, 3) := by decide +kernel
theorem dX10_post_5 : decode cX10_post 5 = .ok (.astore 5, 2) := by decide +kernel
theorem dX10_post_7 : decode cX10_post 7 = .ok (.aload_n 0, 1) := by decide +kernel
theorem dX10_post_8 : decode cX10_post 8 = .ok (.iload_n 2, 1) := by decide +kernel
theorem dX10_post_9 : decode cX10_post 9 = .ok (.invokevirtual 133, 3) := by decide +kernel
theorem dX10_post_12 : decode cX10_post 12 = .ok (.astore 6, 2) := by decide +kernel
theorem dX10_post_14 : decode cX10_post 14 = .ok (.aload_n 0, 1) := by decide +kernel
theorem dX10_post_15 : decode cX10_post 15 = .ok (.aload_n 0, 1) := by decide +kernel
theorem dX10_post_16 : decode cX10_post 16 = .ok (.aload 5, 2) := by decide +kernel
theorem dX10_post_18 : decode cX10_post 18 = .ok (.aload 6, 2) := by decide +kernel
theorem dX10_post_20 : decode cX10_post 20 = .ok (.lload_n 3, 1) := by decide +kernel
theorem dX10_post_21 : decode cX10_post 21 = .ok (.invokevirtual 217, 3) := by decide +kernel
theorem dX10_post_24 : decode cX10_post 24 = .ok (.invokevirtual 41, 3) := by decide +kernel
theorem dX10_post_27 : decode cX10_post 27 = .ok (.ifCond .eq 13, 3) := by decide +kernel
theorem dX10_post_30 : decode cX10_post 30 = .ok (.aload 5, 2) := by decide +kernel
theorem dX10_post_32 : decode cX10_post 32 = .ok (.ifnull 8, 3) := by decide +kernel
theorem dX10_post_35 : decode cX10_post 35 = .ok (.aload 6, 2) := by decide +kernel
theorem dX10_post_37 : decode cX10_post 37 = .ok (.ifnonnull 5, 3) := by decide +kernel
theorem dX10_post_40 : decode cX10_post 40 = .ok (.iconst (-1), 1) := by decide +kernel
theorem dX10_post_41 : decode cX10_post 41 = .ok (.ireturn, 1) := by decide +kernel
theorem dX10_post_42 : decode cX10_post 42 = .ok (.new 221, 3) := by decide +kernel
theorem dX10_post_45 : decode cX10_post 45 = .ok (.dup, 1) := by decide +kernel
theorem dX10_post_46 : decode cX10_post 46 = .ok (.aload_n 0, 1) := by decide +kernel
theorem dX10_post_47 : decode cX10_post 47 = .ok (.getfield 223, 3) := by decide +kernel
theorem dX10_post_50 : decode cX10_post 50 = .ok (.iconst 1, 1) := by decide +kernel
theorem dX10_post_51 : decode cX10_post 51 = .ok (.iadd, 1) := by decide +kernel
theorem dX10_post_52 : decode cX10_post 52 = .ok (.aload 5, 2) := by decide +kernel
theorem dX10_post_54 : decode cX10_post 54 = .ok (.aload 6, 2) := by decide +kernel
theorem dX10_post_56 : decode cX10_post 56 = .ok (.lload_n 3, 1) := by decide +kernel
theorem dX10_post_57 : decode cX10_post 57 = .ok (.aload_n 0, 1) := by decide +kernel
theorem dX10_post_58 : decode cX10_post 58 = .ok (.invokevirtual 79, 3) := by decide +kernel
theorem dX10_post_61 : decode cX10_post 61 = .ok (.invokespecial 226, 3) := by decide +kernel
theorem dX10_post_64 : decode cX10_post 64 = .ok (.astore 7, 2) := by decide +kernel
theorem dX10_post_66 : decode cX10_post 66 = .ok (.aload_n 0, 1) := by decide +kernel
theorem dX10_post_67 : decode cX10_post 67 = .ok (.getfield 229, 3) := by decide +kernel
theorem dX10_post_70 : decode cX10_post 70 = .ok (.ifnonnull 12, 3) := by decide +kernel
theorem dX10_post_73 : decode cX10_post 73 = .ok (.aload_n 0, 1) := by decide +kernel
theorem dX10_post_74 : decode cX10_post 74 = .ok (.aload 7, 2) := by decide +kernel
theorem dX10_post_76 : decode cX10_post 76 = .ok (.putfield 233, 3) := by decide +kernel
theorem dX10_post_79 : decode cX10_post 79 = .ok (.goto 12, 3) := by decide +kernel
theorem dX10_post_82 : decode cX10_post 82 = .ok (.aload_n 0, 1) := by decide +kernel
theorem dX10_post_83 : decode cX10_post 83 = .ok (.getfield 229, 3) := by decide +kernel
theorem dX10_post_86 : decode cX10_post 86 = .ok (.aload 7, 2) := by decide +kernel
theorem dX10_post_88 : decode cX10_post 88 = .ok (.putfield 236, 3) := by decide +kernel
theorem dX10_post_91 : decode cX10_post 91 = .ok (.aload_n 0, 1) := by decide +kernel
theorem dX10_post_92 : decode cX10_post 92 = .ok (.aload 7, 2) := by decide +kernel
theorem dX10_post_94 : decode cX10_post 94 = .ok (.putfield 229, 3) := by decide +kernel
theorem dX10_post_97 : decode cX10_post 97 = .ok (.aload_n 0, 1) := by decide +kernel
theorem dX10_post_98 : decode cX10_post 98 = .ok (.dup, 1) := by decide +kernel
theorem dX10_post_99 : decode cX10_post 99 = .ok (.getfield 223, 3) := by decide +kernel
theorem dX10_post_102 : decode cX10_post 102 = .ok (.iconst 1, 1) := by decide +kernel
theorem dX10_post_103 : decode cX10_post 103 = .ok (.iadd, 1) := by decide +kernel
theorem dX10_post_104 : decode cX10_post 104 = .ok (.putfield 223, 3) := by decide +kernel
theorem dX10_post_107 : decode cX10_post 107 = .ok (.aload 7, 2) := by decide +kernel
theorem dX10_post_109 : decode cX10_post 109 = .ok (.getfield 239, 3) := by decide +kernel
theorem dX10_post_112 : decode cX10_post 112 = .ok (.ireturn, 1) := by decide +kernel
theorem dX10_postFault_0 : decode cX10_postFault 0 = .ok (.aload_n 1, 1) := by decide +kernel
theorem dX10_postFault_1 : decode cX10_postFault 1 = .ok (.ifnull 7, 3) := by decide +kernel
theorem dX10_postFault_4 : decode cX10_postFault 4 = .ok (.aload_n 2, 1) := by decide +kernel
theorem dX10_postFault_5 : decode cX10_postFault 5 = .ok (.ifnonnull 5, 3) := by decide +kernel
theorem dX10_postFault_8 : decode cX10_postFault 8 = .ok (.iconst 1, 1) := by decide +kernel
theorem dX10_postFault_9 : decode cX10_postFault 9 = .ok (.ireturn, 1) := by decide +kernel
theorem dX10_postFault_10 : decode cX10_postFault 10 = .ok (.aload_n 1, 1) := by decide +kernel
theorem dX10_postFault_11 : decode cX10_postFault 11 = .ok (.getfield 141, 3) := by decide +kernel
theorem dX10_postFault_14 : decode cX10_postFault 14 = .ok (.astore 5, 2) := by decide +kernel
theorem dX10_postFault_16 : decode cX10_postFault 16 = .ok (.aload_n 2, 1) := by decide +kernel
theorem dX10_postFault_17 : decode cX10_postFault 17 = .ok (.getfield 141, 3) := by decide +kernel
theorem dX10_postFault_20 : decode cX10_postFault 20 = .ok (.astore 6, 2) := by decide +kernel
theorem dX10_postFault_22 : decode cX10_postFault 22 = .ok (.aload 5, 2) := by decide +kernel
theorem dX10_postFault_24 : decode cX10_postFault 24 = .ok (.getfield 145, 3) := by decide +kernel
theorem dX10_postFault_27 : decode cX10_postFault 27 = .ok (.getfield 157, 3) := by decide +kernel
theorem dX10_postFault_30 : decode cX10_postFault 30 = .ok (.bipush 6, 2) := by decide +kernel
theorem dX10_postFault_32 : decode cX10_postFault 32 = .ok (.if_icmp .eq 16, 3) := by decide +kernel
theorem dX10_postFault_35 : decode cX10_postFault 35 = .ok (.aload 6, 2) := by decide +kernel
theorem dX10_postFault_37 : decode cX10_postFault 37 = .ok (.getfield 145, 3) := by decide +kernel
theorem dX10_postFault_40 : decode cX10_postFault 40 = .ok (.getfield 157, 3) := by decide +kernel
theorem dX10_postFault_43 : decode cX10_postFault 43 = .ok (.bipush 6, 2) := by decide +kernel
theorem dX10_postFault_45 : decode cX10_postFault 45 = .ok (.if_icmp .ne 5, 3) := by decide +kernel
theorem dX10_postFault_48 : decode cX10_postFault 48 = .ok (.iconst 4, 1) := by decide +kernel
theorem dX10_postFault_49 : decode cX10_postFault 49 = .ok (.ireturn, 1) := by decide +kernel
theorem dX10_postFault_50 : decode cX10_postFault 50 = .ok (.lload_n 3, 1) := by decide +kernel
theorem dX10_postFault_51 : decode cX10_postFault 51 = .ok (.invokestatic 126, 3) := by decide +kernel
theorem dX10_postFault_54 : decode cX10_postFault 54 = .ok (.ifCond .eq 10, 3) := by decide +kernel
theorem dX10_postFault_57 : decode cX10_postFault 57 = .ok (.aload 5, 2) := by decide +kernel
theorem dX10_postFault_59 : decode cX10_postFault 59 = .ok (.aload 6, 2) := by decide +kernel
theorem dX10_postFault_61 : decode cX10_postFault 61 = .ok (.if_acmp .ne 5, 3) := by decide +kernel
theorem dX10_postFault_64 : decode cX10_postFault 64 = .ok (.iconst 5, 1) := by decide +kernel
theorem dX10_postFault_65 : decode cX10_postFault 65 = .ok (.ireturn, 1) := by decide +kernel
theorem dX10_postFault_66 : decode cX10_postFault 66 = .ok (.aload_n 0, 1) := by decide +kernel
theorem dX10_postFault_67 : decode cX10_postFault 67 = .ok (.aload 5, 2) := by decide +kernel
theorem dX10_postFault_69 : decode cX10_postFault 69 = .ok (.aload 6, 2) := by decide +kernel
theorem dX10_postFault_71 : decode cX10_postFault 71 = .ok (.invokevirtual 242, 3) := by decide +kernel
theorem dX10_postFault_74 : decode cX10_postFault 74 = .ok (.ifCond .ne 6, 3) := by decide +kernel
theorem dX10_postFault_77 : decode cX10_postFault 77 = .ok (.bipush 6, 2) := by decide +kernel
theorem dX10_postFault_79 : decode cX10_postFault 79 = .ok (.ireturn, 1) := by decide +kernel
theorem dX10_postFault_80 : decode cX10_postFault 80 = .ok (.aload_n 0, 1) := by decide +kernel
theorem dX10_postFault_81 : decode cX10_postFault 81 = .ok (.getfield 24, 3) := by decide +kernel
theorem dX10_postFault_84 : decode cX10_postFault 84 = .ok (.aload 5, 2) := by decide +kernel
theorem dX10_postFault_86 : decode cX10_postFault 86 = .ok (.aload 6, 2) := by decide +kernel
theorem dX10_postFault_88 : decode cX10_postFault 88 = .ok (.aload_n 0, 1) := by decide +kernel
theorem dX10_postFault_89 : decode cX10_postFault 89 = .ok (.getfield 233, 3) := by decide +kernel
theorem dX10_postFault_92 : decode cX10_postFault 92 = .ok (.invokevirtual 246, 3) := by decide +kernel
theorem dX10_postFault_95 : decode cX10_postFault 95 = .ok (.ifCond .eq 6, 3) := by decide +kernel
theorem dX10_postFault_98 : decode cX10_postFault 98 = .ok (.bipush 9, 2) := by decide +kernel
theorem dX10_postFault_100 : decode cX10_postFault 100 = .ok (.ireturn, 1) := by decide +kernel
theorem dX10_postFault_101 : decode cX10_postFault 101 = .ok (.aload_n 0, 1) := by decide +kernel
theorem dX10_postFault_102 : decode cX10_postFault 102 = .ok (.getfield 223, 3) := by decide +kernel
theorem dX10_postFault_105 : decode cX10_postFault 105 = .ok (.bipush 100, 2) := by decide +kernel
theorem dX10_postFault_107 : decode cX10_postFault 107 = .ok (.if_icmp .lt 8, 3) := by decide +kernel
theorem dX10_postFault_110 : decode cX10_postFault 110 = .ok (.bipush 10, 2) := by decide +kernel
theorem dX10_postFault_112 : decode cX10_postFault 112 = .ok (.goto 4, 3) := by decide +kernel
theorem dX10_postFault_115 : decode cX10_postFault 115 = .ok (.iconst 0, 1) := by decide +kernel
theorem dX10_postFault_116 : decode cX10_postFault 116 = .ok (.ireturn, 1) := by decide +kernel
theorem dX10_undo_0 : decode cX10_undo 0 = .ok (.aload_n 0, 1) := by decide +kernel
theorem dX10_undo_1 : decode cX10_undo 1 = .ok (.iload_n 1, 1) := by decide +kernel
theorem dX10_undo_2 : decode cX10_undo 2 = .ok (.invokevirtual 250, 3) := by decide +kernel
theorem dX10_undo_5 : decode cX10_undo 5 = .ok (.astore_n 2, 1) := by decide +kernel
theorem dX10_undo_6 : decode cX10_undo 6 = .ok (.aload_n 0, 1) := by decide +kernel
theorem dX10_undo_7 : decode cX10_undo 7 = .ok (.aload_n 2, 1) := by decide +kernel
theorem dX10_undo_8 : decode cX10_undo 8 = .ok (.invokestatic 254, 3) := by decide +kernel
theorem dX10_undo_11 : decode cX10_undo 11 = .ok (.invokevirtual 41, 3) := by decide +kernel
theorem dX10_undo_14 : decode cX10_undo 14 = .ok (.ifCond .eq 7, 3) := by decide +kernel
theorem dX10_undo_17 : decode cX10_undo 17 = .ok (.aload_n 2, 1) := by decide +kernel
theorem dX10_undo_18 : decode cX10_undo 18 = .ok (.ifnonnull 5, 3) := by decide +kernel
theorem dX10_undo_21 : decode cX10_undo 21 = .ok (.iconst 0, 1) := by decide +kernel
theorem dX10_undo_22 : decode cX10_undo 22 = .ok (.ireturn, 1) := by decide +kernel
theorem dX10_undo_23 : decode cX10_undo 23 = .ok (.aload_n 2, 1) := by decide +kernel
theorem dX10_undo_24 : decode cX10_undo 24 = .ok (.aload_n 0, 1) := by decide +kernel
theorem dX10_undo_25 : decode cX10_undo 25 = .ok (.invokevirtual 79, 3) := by decide +kernel
theorem dX10_undo_28 : decode cX10_undo 28 = .ok (.putfield 258, 3) := by decide +kernel
theorem dX10_undo_31 : decode cX10_undo 31 = .ok (.iconst 1, 1) := by decide +kernel
theorem dX10_undo_32 : decode cX10_undo 32 = .ok (.ireturn, 1) := by decide +kernel
theorem dX10_undoFault_0 : decode cX10_undoFault 0 = .ok (.aload_n 0, 1) := by decide +kernel
theorem dX10_undoFault_1 : decode cX10_undoFault 1 = .ok (.ifnonnull 5, 3) := by decide +kernel
theorem dX10_undoFault_4 : decode cX10_undoFault 4 = .ok (.iconst 1, 1) := by decide +kernel
theorem dX10_undoFault_5 : decode cX10_undoFault 5 = .ok (.ireturn, 1) := by decide +kernel
theorem dX10_undoFault_6 : decode cX10_undoFault 6 = .ok (.aload_n 0, 1) := by decide +kernel
theorem dX10_undoFault_7 : decode cX10_undoFault 7 = .ok (.getfield 258, 3) := by decide +kernel
theorem dX10_undoFault_10 : decode cX10_undoFault 10 = .ok (.ifnull 8, 3) := by decide +kernel
theorem dX10_undoFault_13 : decode cX10_undoFault 13 = .ok (.bipush 8, 2) := by decide +kernel
theorem dX10_undoFault_15 : decode cX10_undoFault 15 = .ok (.goto 4, 3) := by decide +kernel
theorem dX10_undoFault_18 : decode cX10_undoFault 18 = .ok (.iconst 0, 1) := by decide +kernel
theorem dX10_undoFault_19 : decode cX10_undoFault 19 = .ok (.ireturn, 1) := by decide +kernel
theorem dX10_release_0 : decode cX10_release 0 = .ok (.aload_n 0, 1) := by decide +kernel
theorem dX10_release_1 : decode cX10_release 1 = .ok (.iload_n 1, 1) := by decide +kernel
theorem dX10_release_2 : decode cX10_release 2 = .ok (.invokevirtual 133, 3) := by decide +kernel
theorem dX10_release_5 : decode cX10_release 5 = .ok (.astore_n 3, 1) := by decide +kernel
theorem dX10_release_6 : decode cX10_release 6 = .ok (.aload_n 0, 1) := by decide +kernel
theorem dX10_release_7 : decode cX10_release 7 = .ok (.aload_n 0, 1) := by decide +kernel
theorem dX10_release_8 : decode cX10_release 8 = .ok (.aload_n 3, 1) := by decide +kernel
theorem dX10_release_9 : decode cX10_release 9 = .ok (.iload_n 2, 1) := by decide +kernel
theorem dX10_release_10 : decode cX10_release 10 = .ok (.invokevirtual 261, 3) := by decide +kernel
theorem dX10_release_13 : decode cX10_release 13 = .ok (.invokevirtual 41, 3) := by decide +kernel
theorem dX10_release_16 : decode cX10_release 16 = .ok (.ifCond .eq 7, 3) := by decide +kernel
theorem dX10_release_19 : decode cX10_release 19 = .ok (.aload_n 3, 1) := by decide +kernel
theorem dX10_release_20 : decode cX10_release 20 = .ok (.ifnonnull 5, 3) := by decide +kernel
theorem dX10_release_23 : decode cX10_release 23 = .ok (.iconst 0, 1) := by decide +kernel
theorem dX10_release_24 : decode cX10_release 24 = .ok (.ireturn, 1) := by decide +kernel
theorem dX10_release_25 : decode cX10_release 25 = .ok (.aload_n 3, 1) := by decide +kernel
theorem dX10_release_26 : decode cX10_release 26 = .ok (.iload_n 2, 1) := by decide +kernel
theorem dX10_release_27 : decode cX10_release 27 = .ok (.aload_n 0, 1) := by decide +kernel
theorem dX10_release_28 : decode cX10_release 28 = .ok (.invokevirtual 79, 3) := by decide +kernel
theorem dX10_release_31 : decode cX10_release 31 = .ok (.invokevirtual 265, 3) := by decide +kernel
theorem dX10_release_34 : decode cX10_release 34 = .ok (.iconst 1, 1) := by decide +kernel
theorem dX10_release_35 : decode cX10_release 35 = .ok (.ireturn, 1) := by decide +kernel
theorem dX10_strike_0 : decode cX10_strike 0 = .ok (.aload_n 0, 1) := by decide +kernel
theorem dX10_strike_1 : decode cX10_strike 1 = .ok (.iload_n 1, 1) := by decide +kernel
theorem dX10_strike_2 : decode cX10_strike 2 = .ok (.invokevirtual 133, 3) := by decide +kernel
theorem dX10_strike_5 : decode cX10_strike 5 = .ok (.astore_n 2, 1) := by decide +kernel
theorem dX10_strike_6 : decode cX10_strike 6 = .ok (.aload_n 0, 1) := by decide +kernel
theorem dX10_strike_7 : decode cX10_strike 7 = .ok (.aload_n 0, 1) := by decide +kernel
theorem dX10_strike_8 : decode cX10_strike 8 = .ok (.aload_n 2, 1) := by decide +kernel
theorem dX10_strike_9 : decode cX10_strike 9 = .ok (.invokevirtual 269, 3) := by decide +kernel
theorem dX10_strike_12 : decode cX10_strike 12 = .ok (.invokevirtual 41, 3) := by decide +kernel
theorem dX10_strike_15 : decode cX10_strike 15 = .ok (.ifCond .eq 7, 3) := by decide +kernel
theorem dX10_strike_18 : decode cX10_strike 18 = .ok (.aload_n 2, 1) := by decide +kernel
theorem dX10_strike_19 : decode cX10_strike 19 = .ok (.ifnonnull 5, 3) := by decide +kernel
theorem dX10_strike_22 : decode cX10_strike 22 = .ok (.iconst 0, 1) := by decide +kernel
theorem dX10_strike_23 : decode cX10_strike 23 = .ok (.ireturn, 1) := by decide +kernel
theorem dX10_strike_24 : decode cX10_strike 24 = .ok (.aload_n 2, 1) := by decide +kernel
theorem dX10_strike_25 : decode cX10_strike 25 = .ok (.getfield 141, 3) := by decide +kernel
theorem dX10_strike_28 : decode cX10_strike 28 = .ok (.aload_n 0, 1) := by decide +kernel
theorem dX10_strike_29 : decode cX10_strike 29 = .ok (.invokevirtual 79, 3) := by decide +kernel
theorem dX10_strike_32 : decode cX10_strike 32 = .ok (.putfield 272, 3) := by decide +kernel
theorem dX10_strike_35 : decode cX10_strike 35 = .ok (.iconst 1, 1) := by decide +kernel
theorem dX10_strike_36 : decode cX10_strike 36 = .ok (.ireturn, 1) := by decide +kernel
theorem dX10_strikeFault_0 : decode cX10_strikeFault 0 = .ok (.aload_n 1, 1) := by decide +kernel
theorem dX10_strikeFault_1 : decode cX10_strikeFault 1 = .ok (.ifnonnull 5, 3) := by decide +kernel
theorem dX10_strikeFault_4 : decode cX10_strikeFault 4 = .ok (.iconst 1, 1) := by decide +kernel
theorem dX10_strikeFault_5 : decode cX10_strikeFault 5 = .ok (.ireturn, 1) := by decide +kernel
theorem dX10_strikeFault_6 : decode cX10_strikeFault 6 = .ok (.aload_n 1, 1) := by decide +kernel
theorem dX10_strikeFault_7 : decode cX10_strikeFault 7 = .ok (.getfield 153, 3) := by decide +kernel
theorem dX10_strikeFault_10 : decode cX10_strikeFault 10 = .ok (.ifnull 5, 3) := by decide +kernel
theorem dX10_strikeFault_13 : decode cX10_strikeFault 13 = .ok (.iconst 4, 1) := by decide +kernel
theorem dX10_strikeFault_14 : decode cX10_strikeFault 14 = .ok (.ireturn, 1) := by decide +kernel
theorem dX10_strikeFault_15 : decode cX10_strikeFault 15 = .ok (.aload_n 1, 1) := by decide +kernel
theorem dX10_strikeFault_16 : decode cX10_strikeFault 16 = .ok (.getfield 141, 3) := by decide +kernel
theorem dX10_strikeFault_19 : decode cX10_strikeFault 19 = .ok (.aload_n 0, 1) := by decide +kernel
theorem dX10_strikeFault_20 : decode cX10_strikeFault 20 = .ok (.getfield 33, 3) := by decide +kernel
theorem dX10_strikeFault_23 : decode cX10_strikeFault 23 = .ok (.invokevirtual 174, 3) := by decide +kernel
theorem dX10_strikeFault_26 : decode cX10_strikeFault 26 = .ok (.ifCond .ne 6, 3) := by decide +kernel
theorem dX10_strikeFault_29 : decode cX10_strikeFault 29 = .ok (.bipush 6, 2) := by decide +kernel
theorem dX10_strikeFault_31 : decode cX10_strikeFault 31 = .ok (.ireturn, 1) := by decide +kernel
theorem dX10_strikeFault_32 : decode cX10_strikeFault 32 = .ok (.aload_n 0, 1) := by decide +kernel
theorem dX10_strikeFault_33 : decode cX10_strikeFault 33 = .ok (.getfield 65, 3) := by decide +kernel
theorem dX10_strikeFault_36 : decode cX10_strikeFault 36 = .ok (.aload_n 1, 1) := by decide +kernel
theorem dX10_strikeFault_37 : decode cX10_strikeFault 37 = .ok (.getfield 141, 3) := by decide +kernel
theorem dX10_strikeFault_40 : decode cX10_strikeFault 40 = .ok (.getfield 275, 3) := by decide +kernel
theorem dX10_strikeFault_43 : decode cX10_strikeFault 43 = .ok (.getfield 85, 3) := by decide +kernel
theorem dX10_strikeFault_46 : decode cX10_strikeFault 46 = .ok (.if_icmp .ge 8, 3) := by decide +kernel
theorem dX10_strikeFault_49 : decode cX10_strikeFault 49 = .ok (.bipush 8, 2) := by decide +kernel
theorem dX10_strikeFault_51 : decode cX10_strikeFault 51 = .ok (.goto 4, 3) := by decide +kernel
theorem dX10_strikeFault_54 : decode cX10_strikeFault 54 = .ok (.iconst 0, 1) := by decide +kernel
theorem dX10_strikeFault_55 : decode cX10_strikeFault 55 = .ok (.ireturn, 1) := by decide +kernel
theorem dX10_keep_0 : decode cX10_keep 0 = .ok (.aload_n 0, 1) := by decide +kernel
theorem dX10_keep_1 : decode cX10_keep 1 = .ok (.iload_n 1, 1) := by decide +kernel
theorem dX10_keep_2 : decode cX10_keep 2 = .ok (.invokevirtual 133, 3) := by decide +kernel
theorem dX10_keep_5 : decode cX10_keep 5 = .ok (.astore_n 3, 1) := by decide +kernel
theorem dX10_keep_6 : decode cX10_keep 6 = .ok (.aload_n 0, 1) := by decide +kernel
theorem dX10_keep_7 : decode cX10_keep 7 = .ok (.iload_n 2, 1) := by decide +kernel
theorem dX10_keep_8 : decode cX10_keep 8 = .ok (.invokevirtual 133, 3) := by decide +kernel
theorem dX10_keep_11 : decode cX10_keep 11 = .ok (.astore 4, 2) := by decide +kernel
theorem dX10_keep_13 : decode cX10_keep 13 = .ok (.aload_n 0, 1) := by decide +kernel
theorem dX10_keep_14 : decode cX10_keep 14 = .ok (.aload_n 0, 1) := by decide +kernel
theorem dX10_keep_15 : decode cX10_keep 15 = .ok (.aload_n 3, 1) := by decide +kernel
theorem dX10_keep_16 : decode cX10_keep 16 = .ok (.aload 4, 2) := by decide +kernel
theorem dX10_keep_18 : decode cX10_keep 18 = .ok (.invokevirtual 278, 3) := by decide +kernel
theorem dX10_keep_21 : decode cX10_keep 21 = .ok (.invokevirtual 41, 3) := by decide +kernel
theorem dX10_keep_24 : decode cX10_keep 24 = .ok (.ifCond .eq 12, 3) := by decide +kernel
theorem dX10_keep_27 : decode cX10_keep 27 = .ok (.aload_n 3, 1) := by decide +kernel
theorem dX10_keep_28 : decode cX10_keep 28 = .ok (.ifnull 8, 3) := by decide +kernel
theorem dX10_keep_31 : decode cX10_keep 31 = .ok (.aload 4, 2) := by decide +kernel
theorem dX10_keep_33 : decode cX10_keep 33 = .ok (.ifnonnull 5, 3) := by decide +kernel
theorem dX10_keep_36 : decode cX10_keep 36 = .ok (.iconst 0, 1) := by decide +kernel
theorem dX10_keep_37 : decode cX10_keep 37 = .ok (.ireturn, 1) := by decide +kernel
theorem dX10_keep_38 : decode cX10_keep 38 = .ok (.aload_n 3, 1) := by decide +kernel
theorem dX10_keep_39 : decode cX10_keep 39 = .ok (.getfield 141, 3) := by decide +kernel
theorem dX10_keep_42 : decode cX10_keep 42 = .ok (.aload 4, 2) := by decide +kernel
theorem dX10_keep_44 : decode cX10_keep 44 = .ok (.getfield 141, 3) := by decide +kernel
theorem dX10_keep_47 : decode cX10_keep 47 = .ok (.putfield 282, 3) := by decide +kernel
theorem dX10_keep_50 : decode cX10_keep 50 = .ok (.aload_n 3, 1) := by decide +kernel
theorem dX10_keep_51 : decode cX10_keep 51 = .ok (.getfield 141, 3) := by decide +kernel
theorem dX10_keep_54 : decode cX10_keep 54 = .ok (.aload_n 0, 1) := by decide +kernel
theorem dX10_keep_55 : decode cX10_keep 55 = .ok (.invokevirtual 79, 3) := by decide +kernel
theorem dX10_keep_58 : decode cX10_keep 58 = .ok (.putfield 285, 3) := by decide +kernel
theorem dX10_keep_61 : decode cX10_keep 61 = .ok (.aload 4, 2) := by decide +kernel
theorem dX10_keep_63 : decode cX10_keep 63 = .ok (.getfield 141, 3) := by decide +kernel
theorem dX10_keep_66 : decode cX10_keep 66 = .ok (.aload_n 3, 1) := by decide +kernel
theorem dX10_keep_67 : decode cX10_keep 67 = .ok (.getfield 141, 3) := by decide +kernel
theorem dX10_keep_70 : decode cX10_keep 70 = .ok (.putfield 282, 3) := by decide +kernel
theorem dX10_keep_73 : decode cX10_keep 73 = .ok (.iconst 1, 1) := by decide +kernel
theorem dX10_keep_74 : decode cX10_keep 74 = .ok (.ireturn, 1) := by decide +kernel
theorem dX10_keepFault_0 : decode cX10_keepFault 0 = .ok (.aload_n 1, 1) := by decide +kernel
theorem dX10_keepFault_1 : decode cX10_keepFault 1 = .ok (.ifnull 7, 3) := by decide +kernel
theorem dX10_keepFault_4 : decode cX10_keepFault 4 = .ok (.aload_n 2, 1) := by decide +kernel
theorem dX10_keepFault_5 : decode cX10_keepFault 5 = .ok (.ifnonnull 5, 3) := by decide +kernel
theorem dX10_keepFault_8 : decode cX10_keepFault 8 = .ok (.iconst 1, 1) := by decide +kernel
theorem dX10_keepFault_9 : decode cX10_keepFault 9 = .ok (.ireturn, 1) := by decide +kernel
theorem dX10_keepFault_10 : decode cX10_keepFault 10 = .ok (.aload_n 1, 1) := by decide +kernel
theorem dX10_keepFault_11 : decode cX10_keepFault 11 = .ok (.getfield 141, 3) := by decide +kernel
theorem dX10_keepFault_14 : decode cX10_keepFault 14 = .ok (.astore_n 3, 1) := by decide +kernel
theorem dX10_keepFault_15 : decode cX10_keepFault 15 = .ok (.aload_n 2, 1) := by decide +kernel
theorem dX10_keepFault_16 : decode cX10_keepFault 16 = .ok (.getfield 141, 3) := by decide +kernel
theorem dX10_keepFault_19 : decode cX10_keepFault 19 = .ok (.astore 4, 2) := by decide +kernel
theorem dX10_keepFault_21 : decode cX10_keepFault 21 = .ok (.aload_n 3, 1) := by decide +kernel
theorem dX10_keepFault_22 : decode cX10_keepFault 22 = .ok (.getfield 145, 3) := by decide +kernel
theorem dX10_keepFault_25 : decode cX10_keepFault 25 = .ok (.getfield 157, 3) := by decide +kernel
theorem dX10_keepFault_28 : decode cX10_keepFault 28 = .ok (.bipush 6, 2) := by decide +kernel
theorem dX10_keepFault_30 : decode cX10_keepFault 30 = .ok (.if_icmp .ne 23, 3) := by decide +kernel
theorem dX10_keepFault_33 : decode cX10_keepFault 33 = .ok (.aload 4, 2) := by decide +kernel
theorem dX10_keepFault_35 : decode cX10_keepFault 35 = .ok (.getfield 145, 3) := by decide +kernel
theorem dX10_keepFault_38 : decode cX10_keepFault 38 = .ok (.getfield 157, 3) := by decide +kernel
theorem dX10_keepFault_41 : decode cX10_keepFault 41 = .ok (.bipush 6, 2) := by decide +kernel
theorem dX10_keepFault_43 : decode cX10_keepFault 43 = .ok (.if_icmp .eq 10, 3) := by decide +kernel
theorem dX10_keepFault_46 : decode cX10_keepFault 46 = .ok (.aload_n 2, 1) := by decide +kernel
theorem dX10_keepFault_47 : decode cX10_keepFault 47 = .ok (.getfield 153, 3) := by decide +kernel
theorem dX10_keepFault_50 : decode cX10_keepFault 50 = .ok (.ifnull 5, 3) := by decide +kernel
theorem dX10_keepFault_53 : decode cX10_keepFault 53 = .ok (.iconst 4, 1) := by decide +kernel
theorem dX10_keepFault_54 : decode cX10_keepFault 54 = .ok (.ireturn, 1) := by decide +kernel
theorem dX10_keepFault_55 : decode cX10_keepFault 55 = .ok (.aload_n 0, 1) := by decide +kernel
theorem dX10_keepFault_56 : decode cX10_keepFault 56 = .ok (.aload_n 3, 1) := by decide +kernel
theorem dX10_keepFault_57 : decode cX10_keepFault 57 = .ok (.aload 4, 2) := by decide +kernel
theorem dX10_keepFault_59 : decode cX10_keepFault 59 = .ok (.invokevirtual 242, 3) := by decide +kernel
theorem dX10_keepFault_62 : decode cX10_keepFault 62 = .ok (.ifCond .ne 6, 3) := by decide +kernel
theorem dX10_keepFault_65 : decode cX10_keepFault 65 = .ok (.bipush 6, 2) := by decide +kernel
theorem dX10_keepFault_67 : decode cX10_keepFault 67 = .ok (.ireturn, 1) := by decide +kernel
theorem dX10_keepFault_68 : decode cX10_keepFault 68 = .ok (.aload 4, 2) := by decide +kernel
theorem dX10_keepFault_70 : decode cX10_keepFault 70 = .ok (.getfield 275, 3) := by decide +kernel
theorem dX10_keepFault_73 : decode cX10_keepFault 73 = .ok (.getfield 85, 3) := by decide +kernel
theorem dX10_keepFault_76 : decode cX10_keepFault 76 = .ok (.aload_n 3, 1) := by decide +kernel
theorem dX10_keepFault_77 : decode cX10_keepFault 77 = .ok (.getfield 275, 3) := by decide +kernel
theorem dX10_keepFault_80 : decode cX10_keepFault 80 = .ok (.getfield 85, 3) := by decide +kernel
theorem dX10_keepFault_83 : decode cX10_keepFault 83 = .ok (.isub, 1) := by decide +kernel
theorem dX10_keepFault_84 : decode cX10_keepFault 84 = .ok (.istore 5, 2) := by decide +kernel
theorem dX10_keepFault_86 : decode cX10_keepFault 86 = .ok (.iload 5, 2) := by decide +kernel
theorem dX10_keepFault_88 : decode cX10_keepFault 88 = .ok (.ifCond .lt 19, 3) := by decide +kernel
theorem dX10_keepFault_91 : decode cX10_keepFault 91 = .ok (.iload 5, 2) := by decide +kernel
theorem dX10_keepFault_93 : decode cX10_keepFault 93 = .ok (.aload_n 3, 1) := by decide +kernel
theorem dX10_keepFault_94 : decode cX10_keepFault 94 = .ok (.getfield 145, 3) := by decide +kernel
theorem dX10_keepFault_97 : decode cX10_keepFault 97 = .ok (.getfield 288, 3) := by decide +kernel
theorem dX10_keepFault_100 : decode cX10_keepFault 100 = .ok (.if_icmp .gt 7, 3) := by decide +kernel
theorem dX10_keepFault_103 : decode cX10_keepFault 103 = .ok (.iconst 1, 1) := by decide +kernel
theorem dX10_keepFault_104 : decode cX10_keepFault 104 = .ok (.goto 4, 3) := by decide +kernel
theorem dX10_keepFault_107 : decode cX10_keepFault 107 = .ok (.iconst 0, 1) := by decide +kernel
theorem dX10_keepFault_108 : decode cX10_keepFault 108 = .ok (.istore 6, 2) := by decide +kernel
theorem dX10_keepFault_110 : decode cX10_keepFault 110 = .ok (.iload 6, 2) := by decide +kernel
theorem dX10_keepFault_112 : decode cX10_keepFault 112 = .ok (.ifCond .eq 18, 3) := by decide +kernel
theorem dX10_keepFault_115 : decode cX10_keepFault 115 = .ok (.aload_n 3, 1) := by decide +kernel
theorem dX10_keepFault_116 : decode cX10_keepFault 116 = .ok (.getfield 282, 3) := by decide +kernel
theorem dX10_keepFault_119 : decode cX10_keepFault 119 = .ok (.ifnonnull 11, 3) := by decide +kernel
theorem dX10_keepFault_122 : decode cX10_keepFault 122 = .ok (.aload 4, 2) := by decide +kernel
theorem dX10_keepFault_124 : decode cX10_keepFault 124 = .ok (.getfield 282, 3) := by decide +kernel
theorem dX10_keepFault_127 : decode cX10_keepFault 127 = .ok (.ifnull 8, 3) := by decide +kernel
theorem dX10_keepFault_130 : decode cX10_keepFault 130 = .ok (.bipush 8, 2) := by decide +kernel
theorem dX10_keepFault_132 : decode cX10_keepFault 132 = .ok (.goto 4, 3) := by decide +kernel
theorem dX10_keepFault_135 : decode cX10_keepFault 135 = .ok (.iconst 0, 1) := by decide +kernel
theorem dX10_keepFault_136 : decode cX10_keepFault 136 = .ok (.ireturn, 1) := by decide +kernel
theorem dX10_many_0 : decode cX10_many 0 = .ok (.aload_n 0, 1) := by decide +kernel
theorem dX10_many_1 : decode cX10_many 1 = .ok (.iload_n 1, 1) := by decide +kernel
theorem dX10_many_2 : decode cX10_many 2 = .ok (.invokevirtual 50, 3) := by decide +kernel
theorem dX10_many_5 : decode cX10_many 5 = .ok (.astore_n 3, 1) := by decide +kernel
theorem dX10_many_6 : decode cX10_many 6 = .ok (.aload_n 0, 1) := by decide +kernel
theorem dX10_many_7 : decode cX10_many 7 = .ok (.aload_n 3, 1) := by decide +kernel
theorem dX10_many_8 : decode cX10_many 8 = .ok (.iload_n 2, 1) := by decide +kernel
theorem dX10_many_9 : decode cX10_many 9 = .ok (.invokestatic 54, 3) := by decide +kernel
theorem dX10_many_12 : decode cX10_many 12 = .ok (.invokevirtual 41, 3) := by decide +kernel
theorem dX10_many_15 : decode cX10_many 15 = .ok (.ifCond .eq 7, 3) := by decide +kernel
theorem dX10_many_18 : decode cX10_many 18 = .ok (.aload_n 3, 1) := by decide +kernel
theorem dX10_many_19 : decode cX10_many 19 = .ok (.ifnonnull 5, 3) := by decide +kernel
theorem dX10_many_22 : decode cX10_many 22 = .ok (.iconst (-1), 1) := by decide +kernel
theorem dX10_many_23 : decode cX10_many 23 = .ok (.ireturn, 1) := by decide +kernel
theorem dX10_many_24 : decode cX10_many 24 = .ok (.new 291, 3) := by decide +kernel
theorem dX10_many_27 : decode cX10_many 27 = .ok (.dup, 1) := by decide +kernel
theorem dX10_many_28 : decode cX10_many 28 = .ok (.aload_n 3, 1) := by decide +kernel
theorem dX10_many_29 : decode cX10_many 29 = .ok (.iload_n 2, 1) := by decide +kernel
theorem dX10_many_30 : decode cX10_many 30 = .ok (.aload_n 0, 1) := by decide +kernel
theorem dX10_many_31 : decode cX10_many 31 = .ok (.getfield 33, 3) := by decide +kernel
theorem dX10_many_34 : decode cX10_many 34 = .ok (.aload_n 0, 1) := by decide +kernel
theorem dX10_many_35 : decode cX10_many 35 = .ok (.getfield 233, 3) := by decide +kernel
theorem dX10_many_38 : decode cX10_many 38 = .ok (.invokespecial 293, 3) := by decide +kernel
theorem dX10_many_41 : decode cX10_many 41 = .ok (.astore 4, 2) := by decide +kernel
theorem dX10_many_43 : decode cX10_many 43 = .ok (.aload 4, 2) := by decide +kernel
theorem dX10_many_45 : decode cX10_many 45 = .ok (.invokevirtual 296, 3) := by decide +kernel
theorem dX10_many_48 : decode cX10_many 48 = .ok (.aload 4, 2) := by decide +kernel
theorem dX10_many_50 : decode cX10_many 50 = .ok (.getfield 299, 3) := by decide +kernel
theorem dX10_many_53 : decode cX10_many 53 = .ok (.ireturn, 1) := by decide +kernel
theorem dX10_list_0 : decode cX10_list 0 = .ok (.aload_n 0, 1) := by decide +kernel
theorem dX10_list_1 : decode cX10_list 1 = .ok (.aload_n 0, 1) := by decide +kernel
theorem dX10_list_2 : decode cX10_list 2 = .ok (.iload_n 1, 1) := by decide +kernel
theorem dX10_list_3 : decode cX10_list 3 = .ok (.invokevirtual 50, 3) := by decide +kernel
theorem dX10_list_6 : decode cX10_list 6 = .ok (.iload_n 2, 1) := by decide +kernel
theorem dX10_list_7 : decode cX10_list 7 = .ok (.aload_n 0, 1) := by decide +kernel
theorem dX10_list_8 : decode cX10_list 8 = .ok (.getfield 33, 3) := by decide +kernel
theorem dX10_list_11 : decode cX10_list 11 = .ok (.iload_n 3, 1) := by decide +kernel
theorem dX10_list_12 : decode cX10_list 12 = .ok (.invokevirtual 302, 3) := by decide +kernel
theorem dX10_list_15 : decode cX10_list 15 = .ok (.ireturn, 1) := by decide +kernel
theorem dX10_rank_0 : decode cX10_rank 0 = .ok (.aload_n 0, 1) := by decide +kernel
theorem dX10_rank_1 : decode cX10_rank 1 = .ok (.aload_n 0, 1) := by decide +kernel
theorem dX10_rank_2 : decode cX10_rank 2 = .ok (.iload_n 1, 1) := by decide +kernel
theorem dX10_rank_3 : decode cX10_rank 3 = .ok (.invokevirtual 133, 3) := by decide +kernel
theorem dX10_rank_6 : decode cX10_rank 6 = .ok (.iload_n 2, 1) := by decide +kernel
theorem dX10_rank_7 : decode cX10_rank 7 = .ok (.invokevirtual 306, 3) := by decide +kernel
theorem dX10_rank_10 : decode cX10_rank 10 = .ok (.astore_n 3, 1) := by decide +kernel
theorem dX10_rank_11 : decode cX10_rank 11 = .ok (.aload_n 3, 1) := by decide +kernel
theorem dX10_rank_12 : decode cX10_rank 12 = .ok (.ifnonnull 7, 3) := by decide +kernel
theorem dX10_rank_15 : decode cX10_rank 15 = .ok (.iconst (-1), 1) := by decide +kernel
theorem dX10_rank_16 : decode cX10_rank 16 = .ok (.goto 7, 3) := by decide +kernel
theorem dX10_rank_19 : decode cX10_rank 19 = .ok (.aload_n 3, 1) := by decide +kernel
theorem dX10_rank_20 : decode cX10_rank 20 = .ok (.getfield 310, 3) := by decide +kernel
theorem dX10_rank_23 : decode cX10_rank 23 = .ok (.ireturn, 1) := by decide +kernel
theorem dX10_why_0 : decode cX10_why 0 = .ok (.aload_n 0, 1) := by decide +kernel
theorem dX10_why_1 : decode cX10_why 1 = .ok (.aload_n 0, 1) := by decide +kernel
theorem dX10_why_2 : decode cX10_why 2 = .ok (.iload_n 1, 1) := by decide +kernel
theorem dX10_why_3 : decode cX10_why 3 = .ok (.invokevirtual 133, 3) := by decide +kernel
theorem dX10_why_6 : decode cX10_why 6 = .ok (.iload_n 2, 1) := by decide +kernel
theorem dX10_why_7 : decode cX10_why 7 = .ok (.invokevirtual 306, 3) := by decide +kernel
theorem dX10_why_10 : decode cX10_why 10 = .ok (.astore_n 3, 1) := by decide +kernel
theorem dX10_why_11 : decode cX10_why 11 = .ok (.aload_n 3, 1) := by decide +kernel
theorem dX10_why_12 : decode cX10_why 12 = .ok (.ifnonnull 7, 3) := by decide +kernel
theorem dX10_why_15 : decode cX10_why 15 = .ok (.iconst (-1), 1) := by decide +kernel
theorem dX10_why_16 : decode cX10_why 16 = .ok (.goto 7, 3) := by decide +kernel
theorem dX10_why_19 : decode cX10_why 19 = .ok (.aload_n 3, 1) := by decide +kernel
theorem dX10_why_20 : decode cX10_why 20 = .ok (.getfield 313, 3) := by decide +kernel
theorem dX10_why_23 : decode cX10_why 23 = .ok (.ireturn, 1) := by decide +kernel
theorem dX10_as_0 : decode cX10_as 0 = .ok (.aload_n 0, 1) := by decide +kernel
theorem dX10_as_1 : decode cX10_as 1 = .ok (.aload_n 0, 1) := by decide +kernel
theorem dX10_as_2 : decode cX10_as 2 = .ok (.getfield 316, 3) := by decide +kernel
theorem dX10_as_5 : decode cX10_as 5 = .ok (.invokevirtual 50, 3) := by decide +kernel
theorem dX10_as_8 : decode cX10_as 8 = .ok (.astore 5, 2) := by decide +kernel
theorem dX10_as_10 : decode cX10_as 10 = .ok (.aload 5, 2) := by decide +kernel
theorem dX10_as_12 : decode cX10_as 12 = .ok (.iload_n 1, 1) := by decide +kernel
theorem dX10_as_13 : decode cX10_as 13 = .ok (.invokestatic 54, 3) := by decide +kernel
theorem dX10_as_16 : decode cX10_as 16 = .ok (.istore 6, 2) := by decide +kernel
theorem dX10_as_18 : decode cX10_as 18 = .ok (.iload 6, 2) := by decide +kernel
theorem dX10_as_20 : decode cX10_as 20 = .ok (.ifCond .ne 22, 3) := by decide +kernel
theorem dX10_as_23 : decode cX10_as 23 = .ok (.aload_n 0, 1) := by decide +kernel
theorem dX10_as_24 : decode cX10_as 24 = .ok (.iload_n 2, 1) := by decide +kernel
theorem dX10_as_25 : decode cX10_as 25 = .ok (.invokevirtual 72, 3) := by decide +kernel
theorem dX10_as_28 : decode cX10_as 28 = .ok (.ifCond .eq 11, 3) := by decide +kernel
theorem dX10_as_31 : decode cX10_as 31 = .ok (.aload_n 0, 1) := by decide +kernel
theorem dX10_as_32 : decode cX10_as 32 = .ok (.iload_n 3, 1) := by decide +kernel
theorem dX10_as_33 : decode cX10_as 33 = .ok (.invokevirtual 72, 3) := by decide +kernel
theorem dX10_as_36 : decode cX10_as 36 = .ok (.ifCond .ne 6, 3) := by decide +kernel
theorem dX10_as_39 : decode cX10_as 39 = .ok (.iconst 5, 1) := by decide +kernel
theorem dX10_as_40 : decode cX10_as 40 = .ok (.istore 6, 2) := by decide +kernel
theorem dX10_as_42 : decode cX10_as 42 = .ok (.aload_n 0, 1) := by decide +kernel
theorem dX10_as_43 : decode cX10_as 43 = .ok (.iload 6, 2) := by decide +kernel
theorem dX10_as_45 : decode cX10_as 45 = .ok (.invokevirtual 41, 3) := by decide +kernel
theorem dX10_as_48 : decode cX10_as 48 = .ok (.ifCond .ne 5, 3) := by decide +kernel
theorem dX10_as_51 : decode cX10_as 51 = .ok (.iconst (-1), 1) := by decide +kernel
theorem dX10_as_52 : decode cX10_as 52 = .ok (.ireturn, 1) := by decide +kernel
theorem dX10_as_53 : decode cX10_as 53 = .ok (.aload_n 0, 1) := by decide +kernel
theorem dX10_as_54 : decode cX10_as 54 = .ok (.aload 5, 2) := by decide +kernel
theorem dX10_as_56 : decode cX10_as 56 = .ok (.iload_n 1, 1) := by decide +kernel
theorem dX10_as_57 : decode cX10_as 57 = .ok (.new 28, 3) := by decide +kernel
theorem dX10_as_60 : decode cX10_as 60 = .ok (.dup, 1) := by decide +kernel
theorem dX10_as_61 : decode cX10_as 61 = .ok (.iload_n 2, 1) := by decide +kernel
theorem dX10_as_62 : decode cX10_as 62 = .ok (.iload_n 3, 1) := by decide +kernel
theorem dX10_as_63 : decode cX10_as 63 = .ok (.invokespecial 30, 3) := by decide +kernel
theorem dX10_as_66 : decode cX10_as 66 = .ok (.iload 4, 2) := by decide +kernel
theorem dX10_as_68 : decode cX10_as 68 = .ok (.invokevirtual 302, 3) := by decide +kernel
theorem dX10_as_71 : decode cX10_as 71 = .ok (.ireturn, 1) := by decide +kernel
theorem dX10_choose_0 : decode cX10_choose 0 = .ok (.aload_n 0, 1) := by decide +kernel
theorem dX10_choose_1 : decode cX10_choose 1 = .ok (.aload_n 0, 1) := by decide +kernel
theorem dX10_choose_2 : decode cX10_choose 2 = .ok (.iload_n 1, 1) := by decide +kernel
theorem dX10_choose_3 : decode cX10_choose 3 = .ok (.invokevirtual 50, 3) := by decide +kernel
theorem dX10_choose_6 : decode cX10_choose 6 = .ok (.ifnonnull 7, 3) := by decide +kernel
theorem dX10_choose_9 : decode cX10_choose 9 = .ok (.iconst 1, 1) := by decide +kernel
theorem dX10_choose_10 : decode cX10_choose 10 = .ok (.goto 4, 3) := by decide +kernel
theorem dX10_choose_13 : decode cX10_choose 13 = .ok (.iconst 0, 1) := by decide +kernel
theorem dX10_choose_14 : decode cX10_choose 14 = .ok (.invokevirtual 41, 3) := by decide +kernel
theorem dX10_choose_17 : decode cX10_choose 17 = .ok (.ifCond .ne 5, 3) := by decide +kernel
theorem dX10_choose_20 : decode cX10_choose 20 = .ok (.iconst 0, 1) := by decide +kernel
theorem dX10_choose_21 : decode cX10_choose 21 = .ok (.ireturn, 1) := by decide +kernel
theorem dX10_choose_22 : decode cX10_choose 22 = .ok (.aload_n 0, 1) := by decide +kernel
theorem dX10_choose_23 : decode cX10_choose 23 = .ok (.iload_n 1, 1) := by decide +kernel
theorem dX10_choose_24 : decode cX10_choose 24 = .ok (.putfield 316, 3) := by decide +kernel
theorem dX10_choose_27 : decode cX10_choose 27 = .ok (.iconst 1, 1) := by decide +kernel
theorem dX10_choose_28 : decode cX10_choose 28 = .ok (.ireturn, 1) := by decide +kernel
theorem dX10_nth_0 : decode cX10_nth 0 = .ok (.aload_n 0, 1) := by decide +kernel
theorem dX10_nth_1 : decode cX10_nth 1 = .ok (.aload_n 1, 1) := by decide +kernel
theorem dX10_nth_2 : decode cX10_nth 2 = .ok (.iload_n 2, 1) := by decide +kernel
theorem dX10_nth_3 : decode cX10_nth 3 = .ok (.invokestatic 54, 3) := by decide +kernel
theorem dX10_nth_6 : decode cX10_nth 6 = .ok (.invokevirtual 41, 3) := by decide +kernel
theorem dX10_nth_9 : decode cX10_nth 9 = .ok (.ifCond .eq 7, 3) := by decide +kernel
theorem dX10_nth_12 : decode cX10_nth 12 = .ok (.aload_n 1, 1) := by decide +kernel
theorem dX10_nth_13 : decode cX10_nth 13 = .ok (.ifnonnull 5, 3) := by decide +kernel
theorem dX10_nth_16 : decode cX10_nth 16 = .ok (.iconst (-1), 1) := by decide +kernel
theorem dX10_nth_17 : decode cX10_nth 17 = .ok (.ireturn, 1) := by decide +kernel
theorem dX10_nth_18 : decode cX10_nth 18 = .ok (.new 291, 3) := by decide +kernel
theorem dX10_nth_21 : decode cX10_nth 21 = .ok (.dup, 1) := by decide +kernel
theorem dX10_nth_22 : decode cX10_nth 22 = .ok (.aload_n 1, 1) := by decide +kernel
theorem dX10_nth_23 : decode cX10_nth 23 = .ok (.iload_n 2, 1) := by decide +kernel
theorem dX10_nth_24 : decode cX10_nth 24 = .ok (.aload_n 3, 1) := by decide +kernel
theorem dX10_nth_25 : decode cX10_nth 25 = .ok (.aload_n 0, 1) := by decide +kernel
theorem dX10_nth_26 : decode cX10_nth 26 = .ok (.getfield 233, 3) := by decide +kernel
theorem dX10_nth_29 : decode cX10_nth 29 = .ok (.invokespecial 293, 3) := by decide +kernel
theorem dX10_nth_32 : decode cX10_nth 32 = .ok (.astore 5, 2) := by decide +kernel
theorem dX10_nth_34 : decode cX10_nth 34 = .ok (.aload 5, 2) := by decide +kernel
theorem dX10_nth_36 : decode cX10_nth 36 = .ok (.invokevirtual 296, 3) := by decide +kernel
theorem dX10_nth_39 : decode cX10_nth 39 = .ok (.aload 5, 2) := by decide +kernel
theorem dX10_nth_41 : decode cX10_nth 41 = .ok (.iload 4, 2) := by decide +kernel
theorem dX10_nth_43 : decode cX10_nth 43 = .ok (.invokevirtual 319, 3) := by decide +kernel
theorem dX10_nth_46 : decode cX10_nth 46 = .ok (.astore 6, 2) := by decide +kernel
theorem dX10_nth_48 : decode cX10_nth 48 = .ok (.aload_n 0, 1) := by decide +kernel
theorem dX10_nth_49 : decode cX10_nth 49 = .ok (.aload 6, 2) := by decide +kernel
theorem dX10_nth_51 : decode cX10_nth 51 = .ok (.ifnonnull 7, 3) := by decide +kernel
theorem dX10_nth_54 : decode cX10_nth 54 = .ok (.iconst 5, 1) := by decide +kernel
theorem dX10_nth_55 : decode cX10_nth 55 = .ok (.goto 4, 3) := by decide +kernel
theorem dX10_nth_58 : decode cX10_nth 58 = .ok (.iconst 0, 1) := by decide +kernel
theorem dX10_nth_59 : decode cX10_nth 59 = .ok (.invokevirtual 41, 3) := by decide +kernel
theorem dX10_nth_62 : decode cX10_nth 62 = .ok (.ifCond .eq 8, 3) := by decide +kernel
theorem dX10_nth_65 : decode cX10_nth 65 = .ok (.aload 6, 2) := by decide +kernel
theorem dX10_nth_67 : decode cX10_nth 67 = .ok (.ifnonnull 5, 3) := by decide +kernel
theorem dX10_nth_70 : decode cX10_nth 70 = .ok (.iconst (-1), 1) := by decide +kernel
theorem dX10_nth_71 : decode cX10_nth 71 = .ok (.ireturn, 1) := by decide +kernel
theorem dX10_nth_72 : decode cX10_nth 72 = .ok (.aload 6, 2) := by decide +kernel
theorem dX10_nth_74 : decode cX10_nth 74 = .ok (.invokevirtual 323, 3) := by decide +kernel
theorem dX10_nth_77 : decode cX10_nth 77 = .ok (.ireturn, 1) := by decide +kernel
theorem dX10_standing_0 : decode cX10_standing 0 = .ok (.aload_n 0, 1) := by decide +kernel
theorem dX10_standing_1 : decode cX10_standing 1 = .ok (.aload_n 1, 1) := by decide +kernel
theorem dX10_standing_2 : decode cX10_standing 2 = .ok (.iload_n 2, 1) := by decide +kernel
theorem dX10_standing_3 : decode cX10_standing 3 = .ok (.invokevirtual 261, 3) := by decide +kernel
theorem dX10_standing_6 : decode cX10_standing 6 = .ok (.istore_n 3, 1) := by decide +kernel
theorem dX10_standing_7 : decode cX10_standing 7 = .ok (.iload_n 3, 1) := by decide +kernel
theorem dX10_standing_8 : decode cX10_standing 8 = .ok (.ifCond .ne 25, 3) := by decide +kernel
theorem dX10_standing_11 : decode cX10_standing 11 = .ok (.aload_n 1, 1) := by decide +kernel
theorem dX10_standing_12 : decode cX10_standing 12 = .ok (.ifnull 21, 3) := by decide +kernel
theorem dX10_standing_15 : decode cX10_standing 15 = .ok (.aload_n 1, 1) := by decide +kernel
theorem dX10_standing_16 : decode cX10_standing 16 = .ok (.getfield 141, 3) := by decide +kernel
theorem dX10_standing_19 : decode cX10_standing 19 = .ok (.getfield 145, 3) := by decide +kernel
theorem dX10_standing_22 : decode cX10_standing 22 = .ok (.getfield 157, 3) := by decide +kernel
theorem dX10_standing_25 : decode cX10_standing 25 = .ok (.bipush 6, 2) := by decide +kernel
theorem dX10_standing_27 : decode cX10_standing 27 = .ok (.if_icmp .ne 6, 3) := by decide +kernel
theorem dX10_standing_30 : decode cX10_standing 30 = .ok (.bipush 6, 2) := by decide +kernel
theorem dX10_standing_32 : decode cX10_standing 32 = .ok (.istore_n 3, 1) := by decide +kernel
theorem dX10_standing_33 : decode cX10_standing 33 = .ok (.aload_n 0, 1) := by decide +kernel
theorem dX10_standing_34 : decode cX10_standing 34 = .ok (.iload_n 3, 1) := by decide +kernel
theorem dX10_standing_35 : decode cX10_standing 35 = .ok (.invokevirtual 41, 3) := by decide +kernel
theorem dX10_standing_38 : decode cX10_standing 38 = .ok (.ifCond .eq 7, 3) := by decide +kernel
theorem dX10_standing_41 : decode cX10_standing 41 = .ok (.aload_n 1, 1) := by decide +kernel
theorem dX10_standing_42 : decode cX10_standing 42 = .ok (.ifnonnull 5, 3) := by decide +kernel
theorem dX10_standing_45 : decode cX10_standing 45 = .ok (.aconst_null, 1) := by decide +kernel
theorem dX10_standing_46 : decode cX10_standing 46 = .ok (.areturn, 1) := by decide +kernel
theorem dX10_standing_47 : decode cX10_standing 47 = .ok (.new 291, 3) := by decide +kernel
theorem dX10_standing_50 : decode cX10_standing 50 = .ok (.dup, 1) := by decide +kernel
theorem dX10_standing_51 : decode cX10_standing 51 = .ok (.aload_n 1, 1) := by decide +kernel
theorem dX10_standing_52 : decode cX10_standing 52 = .ok (.getfield 141, 3) := by decide +kernel
theorem dX10_standing_55 : decode cX10_standing 55 = .ok (.getfield 326, 3) := by decide +kernel
theorem dX10_standing_58 : decode cX10_standing 58 = .ok (.iload_n 2, 1) := by decide +kernel
theorem dX10_standing_59 : decode cX10_standing 59 = .ok (.aload_n 0, 1) := by decide +kernel
theorem dX10_standing_60 : decode cX10_standing 60 = .ok (.getfield 33, 3) := by decide +kernel
theorem dX10_standing_63 : decode cX10_standing 63 = .ok (.aload_n 0, 1) := by decide +kernel
theorem dX10_standing_64 : decode cX10_standing 64 = .ok (.getfield 233, 3) := by decide +kernel
theorem dX10_standing_67 : decode cX10_standing 67 = .ok (.invokespecial 293, 3) := by decide +kernel
theorem dX10_standing_70 : decode cX10_standing 70 = .ok (.astore 4, 2) := by decide +kernel
theorem dX10_standing_72 : decode cX10_standing 72 = .ok (.aload 4, 2) := by decide +kernel
theorem dX10_standing_74 : decode cX10_standing 74 = .ok (.invokevirtual 296, 3) := by decide +kernel
theorem dX10_standing_77 : decode cX10_standing 77 = .ok (.aload_n 1, 1) := by decide +kernel
theorem dX10_standing_78 : decode cX10_standing 78 = .ok (.getfield 141, 3) := by decide +kernel
theorem dX10_standing_81 : decode cX10_standing 81 = .ok (.areturn, 1) := by decide +kernel
theorem dX10_sale_0 : decode cX10_sale 0 = .ok (.aload_n 0, 1) := by decide +kernel
theorem dX10_sale_1 : decode cX10_sale 1 = .ok (.aload_n 0, 1) := by decide +kernel
theorem dX10_sale_2 : decode cX10_sale 2 = .ok (.iload_n 1, 1) := by decide +kernel
theorem dX10_sale_3 : decode cX10_sale 3 = .ok (.invokevirtual 50, 3) := by decide +kernel
theorem dX10_sale_6 : decode cX10_sale 6 = .ok (.iload_n 2, 1) := by decide +kernel
theorem dX10_sale_7 : decode cX10_sale 7 = .ok (.lload_n 3, 1) := by decide +kernel
theorem dX10_sale_8 : decode cX10_sale 8 = .ok (.lload 5, 2) := by decide +kernel
theorem dX10_sale_10 : decode cX10_sale 10 = .ok (.invokevirtual 330, 3) := by decide +kernel
theorem dX10_sale_13 : decode cX10_sale 13 = .ok (.astore 7, 2) := by decide +kernel
theorem dX10_sale_15 : decode cX10_sale 15 = .ok (.aload 7, 2) := by decide +kernel
theorem dX10_sale_17 : decode cX10_sale 17 = .ok (.ifnonnull 9, 3) := by decide +kernel
theorem dX10_sale_20 : decode cX10_sale 20 = .ok (.ldc2_w 120, 3) := by decide +kernel
theorem dX10_sale_23 : decode cX10_sale 23 = .ok (.goto 7, 3) := by decide +kernel
theorem dX10_sale_26 : decode cX10_sale 26 = .ok (.aload_n 0, 1) := by decide +kernel
theorem dX10_sale_27 : decode cX10_sale 27 = .ok (.getfield 334, 3) := by decide +kernel
theorem dX10_sale_30 : decode cX10_sale 30 = .ok (.lreturn, 1) := by decide +kernel
theorem dX10_sell_0 : decode cX10_sell 0 = .ok (.aload_n 0, 1) := by decide +kernel
theorem dX10_sell_1 : decode cX10_sell 1 = .ok (.aload_n 0, 1) := by decide +kernel
theorem dX10_sell_2 : decode cX10_sell 2 = .ok (.iload_n 1, 1) := by decide +kernel
theorem dX10_sell_3 : decode cX10_sell 3 = .ok (.invokevirtual 50, 3) := by decide +kernel
theorem dX10_sell_6 : decode cX10_sell 6 = .ok (.iload_n 2, 1) := by decide +kernel
theorem dX10_sell_7 : decode cX10_sell 7 = .ok (.lload_n 3, 1) := by decide +kernel
theorem dX10_sell_8 : decode cX10_sell 8 = .ok (.lload 5, 2) := by decide +kernel
theorem dX10_sell_10 : decode cX10_sell 10 = .ok (.invokevirtual 330, 3) := by decide +kernel
theorem dX10_sell_13 : decode cX10_sell 13 = .ok (.astore 7, 2) := by decide +kernel
theorem dX10_sell_15 : decode cX10_sell 15 = .ok (.aload 7, 2) := by decide +kernel
theorem dX10_sell_17 : decode cX10_sell 17 = .ok (.ifnonnull 7, 3) := by decide +kernel
theorem dX10_sell_20 : decode cX10_sell 20 = .ok (.ldc2_w 120, 3) := by decide +kernel
theorem dX10_sell_23 : decode cX10_sell 23 = .ok (.lreturn, 1) := by decide +kernel
theorem dX10_sell_24 : decode cX10_sell 24 = .ok (.aload 7, 2) := by decide +kernel
theorem dX10_sell_26 : decode cX10_sell 26 = .ok (.invokevirtual 337, 3) := by decide +kernel
theorem dX10_sell_29 : decode cX10_sell 29 = .ok (.aload_n 0, 1) := by decide +kernel
theorem dX10_sell_30 : decode cX10_sell 30 = .ok (.dup, 1) := by decide +kernel
theorem dX10_sell_31 : decode cX10_sell 31 = .ok (.getfield 342, 3) := by decide +kernel
theorem dX10_sell_34 : decode cX10_sell 34 = .ok (.iconst 1, 1) := by decide +kernel
theorem dX10_sell_35 : decode cX10_sell 35 = .ok (.iadd, 1) := by decide +kernel
theorem dX10_sell_36 : decode cX10_sell 36 = .ok (.putfield 342, 3) := by decide +kernel
theorem dX10_sell_39 : decode cX10_sell 39 = .ok (.aload_n 0, 1) := by decide +kernel
theorem dX10_sell_40 : decode cX10_sell 40 = .ok (.getfield 334, 3) := by decide +kernel
theorem dX10_sell_43 : decode cX10_sell 43 = .ok (.lreturn, 1) := by decide +kernel
theorem dX10_offer_0 : decode cX10_offer 0 = .ok (.aload_n 0, 1) := by decide +kernel
theorem dX10_offer_1 : decode cX10_offer 1 = .ok (.aload_n 1, 1) := by decide +kernel
theorem dX10_offer_2 : decode cX10_offer 2 = .ok (.iload_n 2, 1) := by decide +kernel
theorem dX10_offer_3 : decode cX10_offer 3 = .ok (.lload_n 3, 1) := by decide +kernel
theorem dX10_offer_4 : decode cX10_offer 4 = .ok (.lload 5, 2) := by decide +kernel
theorem dX10_offer_6 : decode cX10_offer 6 = .ok (.invokestatic 345, 3) := by decide +kernel
theorem dX10_offer_9 : decode cX10_offer 9 = .ok (.invokevirtual 41, 3) := by decide +kernel
theorem dX10_offer_12 : decode cX10_offer 12 = .ok (.ifCond .eq 7, 3) := by decide +kernel
theorem dX10_offer_15 : decode cX10_offer 15 = .ok (.aload_n 1, 1) := by decide +kernel
theorem dX10_offer_16 : decode cX10_offer 16 = .ok (.ifnonnull 5, 3) := by decide +kernel
theorem dX10_offer_19 : decode cX10_offer 19 = .ok (.aconst_null, 1) := by decide +kernel
theorem dX10_offer_20 : decode cX10_offer 20 = .ok (.areturn, 1) := by decide +kernel
theorem dX10_offer_21 : decode cX10_offer 21 = .ok (.iconst 0, 1) := by decide +kernel
theorem dX10_offer_22 : decode cX10_offer 22 = .ok (.istore 7, 2) := by decide +kernel
theorem dX10_offer_24 : decode cX10_offer 24 = .ok (.iload 7, 2) := by decide +kernel
theorem dX10_offer_26 : decode cX10_offer 26 = .ok (.aload_n 0, 1) := by decide +kernel
theorem dX10_offer_27 : decode cX10_offer 27 = .ok (.getfield 98, 3) := by decide +kernel
theorem dX10_offer_30 : decode cX10_offer 30 = .ok (.if_icmp .ge 29, 3) := by decide +kernel
theorem dX10_offer_33 : decode cX10_offer 33 = .ok (.aload_n 0, 1) := by decide +kernel
theorem dX10_offer_34 : decode cX10_offer 34 = .ok (.getfield 17, 3) := by decide +kernel
theorem dX10_offer_37 : decode cX10_offer 37 = .ok (.iload 7, 2) := by decide +kernel
theorem dX10_offer_39 : decode cX10_offer 39 = .ok (.aaload, 1) := by decide +kernel
theorem dX10_offer_40 : decode cX10_offer 40 = .ok (.astore 8, 2) := by decide +kernel
theorem dX10_offer_42 : decode cX10_offer 42 = .ok (.aload 8, 2) := by decide +kernel
theorem dX10_offer_44 : decode cX10_offer 44 = .ok (.ifnull 9, 3) := by decide +kernel
theorem dX10_offer_47 : decode cX10_offer 47 = .ok (.aload 8, 2) := by decide +kernel
theorem dX10_offer_49 : decode cX10_offer 49 = .ok (.lconst 0, 1) := by decide +kernel
theorem dX10_offer_50 : decode cX10_offer 50 = .ok (.putfield 349, 3) := by decide +kernel
theorem dX10_offer_53 : decode cX10_offer 53 = .ok (.iinc 7 1, 3) := by decide +kernel
theorem dX10_offer_56 : decode cX10_offer 56 = .ok (.goto (-32), 3) := by decide +kernel
theorem dX10_offer_59 : decode cX10_offer 59 = .ok (.new 291, 3) := by decide +kernel
theorem dX10_offer_62 : decode cX10_offer 62 = .ok (.dup, 1) := by decide +kernel
theorem dX10_offer_63 : decode cX10_offer 63 = .ok (.aload_n 1, 1) := by decide +kernel
theorem dX10_offer_64 : decode cX10_offer 64 = .ok (.iload_n 2, 1) := by decide +kernel
theorem dX10_offer_65 : decode cX10_offer 65 = .ok (.aload_n 0, 1) := by decide +kernel
theorem dX10_offer_66 : decode cX10_offer 66 = .ok (.getfield 33, 3) := by decide +kernel
theorem dX10_offer_69 : decode cX10_offer 69 = .ok (.aload_n 0, 1) := by decide +kernel
theorem dX10_offer_70 : decode cX10_offer 70 = .ok (.getfield 233, 3) := by decide +kernel
theorem dX10_offer_73 : decode cX10_offer 73 = .ok (.invokespecial 293, 3) := by decide +kernel
theorem dX10_offer_76 : decode cX10_offer 76 = .ok (.astore 7, 2) := by decide +kernel
theorem dX10_offer_78 : decode cX10_offer 78 = .ok (.aload 7, 2) := by decide +kernel
theorem dX10_offer_80 : decode cX10_offer 80 = .ok (.invokevirtual 296, 3) := by decide +kernel
theorem dX10_offer_83 : decode cX10_offer 83 = .ok (.new 338, 3) := by decide +kernel
theorem dX10_offer_86 : decode cX10_offer 86 = .ok (.dup, 1) := by decide +kernel
theorem dX10_offer_87 : decode cX10_offer 87 = .ok (.aload 7, 2) := by decide +kernel
theorem dX10_offer_89 : decode cX10_offer 89 = .ok (.lload_n 3, 1) := by decide +kernel
theorem dX10_offer_90 : decode cX10_offer 90 = .ok (.lload 5, 2) := by decide +kernel
theorem dX10_offer_92 : decode cX10_offer 92 = .ok (.lsub, 1) := by decide +kernel
theorem dX10_offer_93 : decode cX10_offer 93 = .ok (.invokespecial 352, 3) := by decide +kernel
theorem dX10_offer_96 : decode cX10_offer 96 = .ok (.astore 8, 2) := by decide +kernel
theorem dX10_offer_98 : decode cX10_offer 98 = .ok (.aload 8, 2) := by decide +kernel
theorem dX10_offer_100 : decode cX10_offer 100 = .ok (.invokevirtual 355, 3) := by decide +kernel
theorem dX10_offer_103 : decode cX10_offer 103 = .ok (.aload_n 0, 1) := by decide +kernel
theorem dX10_offer_104 : decode cX10_offer 104 = .ok (.aload 8, 2) := by decide +kernel
theorem dX10_offer_106 : decode cX10_offer 106 = .ok (.getfield 358, 3) := by decide +kernel
theorem dX10_offer_109 : decode cX10_offer 109 = .ok (.putfield 334, 3) := by decide +kernel
theorem dX10_offer_112 : decode cX10_offer 112 = .ok (.aload 8, 2) := by decide +kernel
theorem dX10_offer_114 : decode cX10_offer 114 = .ok (.areturn, 1) := by decide +kernel
theorem dX10_saleFault_0 : decode cX10_saleFault 0 = .ok (.aload_n 0, 1) := by decide +kernel
theorem dX10_saleFault_1 : decode cX10_saleFault 1 = .ok (.iload_n 1, 1) := by decide +kernel
theorem dX10_saleFault_2 : decode cX10_saleFault 2 = .ok (.invokestatic 54, 3) := by decide +kernel
theorem dX10_saleFault_5 : decode cX10_saleFault 5 = .ok (.istore 6, 2) := by decide +kernel
theorem dX10_saleFault_7 : decode cX10_saleFault 7 = .ok (.iload 6, 2) := by decide +kernel
theorem dX10_saleFault_9 : decode cX10_saleFault 9 = .ok (.ifCond .eq 6, 3) := by decide +kernel
theorem dX10_saleFault_12 : decode cX10_saleFault 12 = .ok (.iload 6, 2) := by decide +kernel
theorem dX10_saleFault_14 : decode cX10_saleFault 14 = .ok (.ireturn, 1) := by decide +kernel
theorem dX10_saleFault_15 : decode cX10_saleFault 15 = .ok (.lload_n 2, 1) := by decide +kernel
theorem dX10_saleFault_16 : decode cX10_saleFault 16 = .ok (.invokestatic 126, 3) := by decide +kernel
theorem dX10_saleFault_19 : decode cX10_saleFault 19 = .ok (.ifCond .eq 22, 3) := by decide +kernel
theorem dX10_saleFault_22 : decode cX10_saleFault 22 = .ok (.lload 4, 2) := by decide +kernel
theorem dX10_saleFault_24 : decode cX10_saleFault 24 = .ok (.invokestatic 126, 3) := by decide +kernel
theorem dX10_saleFault_27 : decode cX10_saleFault 27 = .ok (.ifCond .eq 14, 3) := by decide +kernel
theorem dX10_saleFault_30 : decode cX10_saleFault 30 = .ok (.lload 4, 2) := by decide +kernel
theorem dX10_saleFault_32 : decode cX10_saleFault 32 = .ok (.lload_n 2, 1) := by decide +kernel
theorem dX10_saleFault_33 : decode cX10_saleFault 33 = .ok (.lcmp, 1) := by decide +kernel
theorem dX10_saleFault_34 : decode cX10_saleFault 34 = .ok (.ifCond .gt 7, 3) := by decide +kernel
theorem dX10_saleFault_37 : decode cX10_saleFault 37 = .ok (.iconst 0, 1) := by decide +kernel
theorem dX10_saleFault_38 : decode cX10_saleFault 38 = .ok (.goto 4, 3) := by decide +kernel
theorem dX10_saleFault_41 : decode cX10_saleFault 41 = .ok (.iconst 5, 1) := by decide +kernel
theorem dX10_saleFault_42 : decode cX10_saleFault 42 = .ok (.ireturn, 1) := by decide +kernel
theorem dX10_share_0 : decode cX10_share 0 = .ok (.aload_n 0, 1) := by decide +kernel
theorem dX10_share_1 : decode cX10_share 1 = .ok (.iload_n 1, 1) := by decide +kernel
theorem dX10_share_2 : decode cX10_share 2 = .ok (.invokevirtual 133, 3) := by decide +kernel
theorem dX10_share_5 : decode cX10_share 5 = .ok (.astore_n 2, 1) := by decide +kernel
theorem dX10_share_6 : decode cX10_share 6 = .ok (.aload_n 2, 1) := by decide +kernel
theorem dX10_share_7 : decode cX10_share 7 = .ok (.ifnonnull 7, 3) := by decide +kernel
theorem dX10_share_10 : decode cX10_share 10 = .ok (.lconst 0, 1) := by decide +kernel
theorem dX10_share_11 : decode cX10_share 11 = .ok (.goto 7, 3) := by decide +kernel
theorem dX10_share_14 : decode cX10_share 14 = .ok (.aload_n 2, 1) := by decide +kernel
theorem dX10_share_15 : decode cX10_share 15 = .ok (.getfield 349, 3) := by decide +kernel
theorem dX10_share_18 : decode cX10_share 18 = .ok (.lreturn, 1) := by decide +kernel
theorem dX10_tell_0 : decode cX10_tell 0 = .ok (.aload_n 0, 1) := by decide +kernel
theorem dX10_tell_1 : decode cX10_tell 1 = .ok (.iload_n 1, 1) := by decide +kernel
theorem dX10_tell_2 : decode cX10_tell 2 = .ok (.invokevirtual 133, 3) := by decide +kernel
theorem dX10_tell_5 : decode cX10_tell 5 = .ok (.astore 4, 2) := by decide +kernel
theorem dX10_tell_7 : decode cX10_tell 7 = .ok (.lload_n 2, 1) := by decide +kernel
theorem dX10_tell_8 : decode cX10_tell 8 = .ok (.lconst 0, 1) := by decide +kernel
theorem dX10_tell_9 : decode cX10_tell 9 = .ok (.lcmp, 1) := by decide +kernel
theorem dX10_tell_10 : decode cX10_tell 10 = .ok (.ifCond .ge 7, 3) := by decide +kernel
theorem dX10_tell_13 : decode cX10_tell 13 = .ok (.iconst 5, 1) := by decide +kernel
theorem dX10_tell_14 : decode cX10_tell 14 = .ok (.goto 4, 3) := by decide +kernel
theorem dX10_tell_17 : decode cX10_tell 17 = .ok (.iconst 0, 1) := by decide +kernel
theorem dX10_tell_18 : decode cX10_tell 18 = .ok (.istore 5, 2) := by decide +kernel
theorem dX10_tell_20 : decode cX10_tell 20 = .ok (.aload_n 0, 1) := by decide +kernel
theorem dX10_tell_21 : decode cX10_tell 21 = .ok (.aload 4, 2) := by decide +kernel
theorem dX10_tell_23 : decode cX10_tell 23 = .ok (.ifnonnull 7, 3) := by decide +kernel
theorem dX10_tell_26 : decode cX10_tell 26 = .ok (.iconst 1, 1) := by decide +kernel
theorem dX10_tell_27 : decode cX10_tell 27 = .ok (.goto 5, 3) := by decide +kernel
theorem dX10_tell_30 : decode cX10_tell 30 = .ok (.iload 5, 2) := by decide +kernel
theorem dX10_tell_32 : decode cX10_tell 32 = .ok (.invokevirtual 41, 3) := by decide +kernel
theorem dX10_tell_35 : decode cX10_tell 35 = .ok (.ifCond .eq 8, 3) := by decide +kernel
theorem dX10_tell_38 : decode cX10_tell 38 = .ok (.aload 4, 2) := by decide +kernel
theorem dX10_tell_40 : decode cX10_tell 40 = .ok (.ifnonnull 5, 3) := by decide +kernel
theorem dX10_tell_43 : decode cX10_tell 43 = .ok (.iconst 0, 1) := by decide +kernel
theorem dX10_tell_44 : decode cX10_tell 44 = .ok (.ireturn, 1) := by decide +kernel
theorem dX10_tell_45 : decode cX10_tell 45 = .ok (.aload 4, 2) := by decide +kernel
theorem dX10_tell_47 : decode cX10_tell 47 = .ok (.lload_n 2, 1) := by decide +kernel
theorem dX10_tell_48 : decode cX10_tell 48 = .ok (.putfield 361, 3) := by decide +kernel
theorem dX10_tell_51 : decode cX10_tell 51 = .ok (.iconst 1, 1) := by decide +kernel
theorem dX10_tell_52 : decode cX10_tell 52 = .ok (.ireturn, 1) := by decide +kernel
theorem dX10_check_0 : decode cX10_check 0 = .ok (.lload_n 1, 1) := by decide +kernel
theorem dX10_check_1 : decode cX10_check 1 = .ok (.aload_n 0, 1) := by decide +kernel
theorem dX10_check_2 : decode cX10_check 2 = .ok (.getfield 334, 3) := by decide +kernel
theorem dX10_check_5 : decode cX10_check 5 = .ok (.lcmp, 1) := by decide +kernel
theorem dX10_check_6 : decode cX10_check 6 = .ok (.ifCond .ne 7, 3) := by decide +kernel
theorem dX10_check_9 : decode cX10_check 9 = .ok (.iconst 0, 1) := by decide +kernel
theorem dX10_check_10 : decode cX10_check 10 = .ok (.goto 4, 3) := by decide +kernel
theorem dX10_check_13 : decode cX10_check 13 = .ok (.iconst (-1), 1) := by decide +kernel
theorem dX10_check_14 : decode cX10_check 14 = .ok (.istore_n 3, 1) := by decide +kernel
theorem dX10_check_15 : decode cX10_check 15 = .ok (.iconst 0, 1) := by decide +kernel
theorem dX10_check_16 : decode cX10_check 16 = .ok (.istore 4, 2) := by decide +kernel
theorem dX10_check_18 : decode cX10_check 18 = .ok (.iconst 0, 1) := by decide +kernel
theorem dX10_check_19 : decode cX10_check 19 = .ok (.istore 5, 2) := by decide +kernel
theorem dX10_check_21 : decode cX10_check 21 = .ok (.iload 5, 2) := by decide +kernel
theorem dX10_check_23 : decode cX10_check 23 = .ok (.aload_n 0, 1) := by decide +kernel
theorem dX10_check_24 : decode cX10_check 24 = .ok (.getfield 98, 3) := by decide +kernel
theorem dX10_check_27 : decode cX10_check 27 = .ok (.if_icmp .ge 68, 3) := by decide +kernel
theorem dX10_check_30 : decode cX10_check 30 = .ok (.aload_n 0, 1) := by decide +kernel
theorem dX10_check_31 : decode cX10_check 31 = .ok (.getfield 17, 3) := by decide +kernel
theorem dX10_check_34 : decode cX10_check 34 = .ok (.iload 5, 2) := by decide +kernel
theorem dX10_check_36 : decode cX10_check 36 = .ok (.aaload, 1) := by decide +kernel
theorem dX10_check_37 : decode cX10_check 37 = .ok (.astore 6, 2) := by decide +kernel
theorem dX10_check_39 : decode cX10_check 39 = .ok (.aload 6, 2) := by decide +kernel
theorem dX10_check_41 : decode cX10_check 41 = .ok (.ifnonnull 6, 3) := by decide +kernel
theorem dX10_check_44 : decode cX10_check 44 = .ok (.goto 45, 3) := by decide +kernel
theorem dX10_check_47 : decode cX10_check 47 = .ok (.iload 4, 2) := by decide +kernel
theorem dX10_check_49 : decode cX10_check 49 = .ok (.ifCond .ne 34, 3) := by decide +kernel
theorem dX10_check_52 : decode cX10_check 52 = .ok (.aload 6, 2) := by decide +kernel
theorem dX10_check_54 : decode cX10_check 54 = .ok (.getfield 153, 3) := by decide +kernel
theorem dX10_check_57 : decode cX10_check 57 = .ok (.ifnonnull 26, 3) := by decide +kernel
theorem dX10_check_60 : decode cX10_check 60 = .ok (.aload 6, 2) := by decide +kernel
theorem dX10_check_62 : decode cX10_check 62 = .ok (.getfield 361, 3) := by decide +kernel
theorem dX10_check_65 : decode cX10_check 65 = .ok (.aload 6, 2) := by decide +kernel
theorem dX10_check_67 : decode cX10_check 67 = .ok (.getfield 349, 3) := by decide +kernel
theorem dX10_check_70 : decode cX10_check 70 = .ok (.lcmp, 1) := by decide +kernel
theorem dX10_check_71 : decode cX10_check 71 = .ok (.ifCond .eq 12, 3) := by decide +kernel
theorem dX10_check_74 : decode cX10_check 74 = .ok (.aload 6, 2) := by decide +kernel
theorem dX10_check_76 : decode cX10_check 76 = .ok (.getfield 364, 3) := by decide +kernel
theorem dX10_check_79 : decode cX10_check 79 = .ok (.istore_n 3, 1) := by decide +kernel
theorem dX10_check_80 : decode cX10_check 80 = .ok (.iconst 1, 1) := by decide +kernel
theorem dX10_check_81 : decode cX10_check 81 = .ok (.istore 4, 2) := by decide +kernel
theorem dX10_check_83 : decode cX10_check 83 = .ok (.aload 6, 2) := by decide +kernel
theorem dX10_check_85 : decode cX10_check 85 = .ok (.lconst 0, 1) := by decide +kernel
theorem dX10_check_86 : decode cX10_check 86 = .ok (.putfield 361, 3) := by decide +kernel
theorem dX10_check_89 : decode cX10_check 89 = .ok (.iinc 5 1, 3) := by decide +kernel
theorem dX10_check_92 : decode cX10_check 92 = .ok (.goto (-71), 3) := by decide +kernel
theorem dX10_check_95 : decode cX10_check 95 = .ok (.aload_n 0, 1) := by decide +kernel
theorem dX10_check_96 : decode cX10_check 96 = .ok (.iconst 0, 1) := by decide +kernel
theorem dX10_check_97 : decode cX10_check 97 = .ok (.invokevirtual 41, 3) := by decide +kernel
theorem dX10_check_100 : decode cX10_check 100 = .ok (.pop, 1) := by decide +kernel
theorem dX10_check_101 : decode cX10_check 101 = .ok (.iload_n 3, 1) := by decide +kernel
theorem dX10_check_102 : decode cX10_check 102 = .ok (.ireturn, 1) := by decide +kernel
theorem dX10_circle_0 : decode cX10_circle 0 = .ok (.aload_n 0, 1) := by decide +kernel
theorem dX10_circle_1 : decode cX10_circle 1 = .ok (.getfield 24, 3) := by decide +kernel
theorem dX10_circle_4 : decode cX10_circle 4 = .ok (.iload_n 1, 1) := by decide +kernel
theorem dX10_circle_5 : decode cX10_circle 5 = .ok (.invokevirtual 365, 3) := by decide +kernel
theorem dX10_circle_8 : decode cX10_circle 8 = .ok (.ireturn, 1) := by decide +kernel
theorem dX10_due_0 : decode cX10_due 0 = .ok (.aload_n 0, 1) := by decide +kernel
theorem dX10_due_1 : decode cX10_due 1 = .ok (.iload_n 1, 1) := by decide +kernel
theorem dX10_due_2 : decode cX10_due 2 = .ok (.invokevirtual 133, 3) := by decide +kernel
theorem dX10_due_5 : decode cX10_due 5 = .ok (.astore_n 2, 1) := by decide +kernel
theorem dX10_due_6 : decode cX10_due 6 = .ok (.aload_n 2, 1) := by decide +kernel
theorem dX10_due_7 : decode cX10_due 7 = .ok (.ifnonnull 7, 3) := by decide +kernel
theorem dX10_due_10 : decode cX10_due 10 = .ok (.ldc2_w 120, 3) := by decide +kernel
theorem dX10_due_13 : decode cX10_due 13 = .ok (.lreturn, 1) := by decide +kernel
theorem dX10_due_14 : decode cX10_due 14 = .ok (.aload_n 2, 1) := by decide +kernel
theorem dX10_due_15 : decode cX10_due 15 = .ok (.getfield 141, 3) := by decide +kernel
theorem dX10_due_18 : decode cX10_due 18 = .ok (.aload_n 0, 1) := by decide +kernel
theorem dX10_due_19 : decode cX10_due 19 = .ok (.getfield 33, 3) := by decide +kernel
theorem dX10_due_22 : decode cX10_due 22 = .ok (.getfield 69, 3) := by decide +kernel
theorem dX10_due_25 : decode cX10_due 25 = .ok (.invokevirtual 367, 3) := by decide +kernel
theorem dX10_due_28 : decode cX10_due 28 = .ok (.aload_n 2, 1) := by decide +kernel
theorem dX10_due_29 : decode cX10_due 29 = .ok (.getfield 141, 3) := by decide +kernel
theorem dX10_due_32 : decode cX10_due 32 = .ok (.aload_n 2, 1) := by decide +kernel
theorem dX10_due_33 : decode cX10_due 33 = .ok (.invokevirtual 370, 3) := by decide +kernel
theorem dX10_due_36 : decode cX10_due 36 = .ok (.lreturn, 1) := by decide +kernel
theorem dX10_kind_0 : decode cX10_kind 0 = .ok (.aload_n 0, 1) := by decide +kernel
theorem dX10_kind_1 : decode cX10_kind 1 = .ok (.iload_n 1, 1) := by decide +kernel
theorem dX10_kind_2 : decode cX10_kind 2 = .ok (.invokevirtual 133, 3) := by decide +kernel
theorem dX10_kind_5 : decode cX10_kind 5 = .ok (.astore_n 3, 1) := by decide +kernel
theorem dX10_kind_6 : decode cX10_kind 6 = .ok (.aload_n 3, 1) := by decide +kernel
theorem dX10_kind_7 : decode cX10_kind 7 = .ok (.ifnonnull 5, 3) := by decide +kernel
theorem dX10_kind_10 : decode cX10_kind 10 = .ok (.iconst (-1), 1) := by decide +kernel
theorem dX10_kind_11 : decode cX10_kind 11 = .ok (.ireturn, 1) := by decide +kernel
theorem dX10_kind_12 : decode cX10_kind 12 = .ok (.aload_n 3, 1) := by decide +kernel
theorem dX10_kind_13 : decode cX10_kind 13 = .ok (.getfield 141, 3) := by decide +kernel
theorem dX10_kind_16 : decode cX10_kind 16 = .ok (.astore 4, 2) := by decide +kernel
theorem dX10_kind_18 : decode cX10_kind 18 = .ok (.iload_n 2, 1) := by decide +kernel
theorem dX10_kind_19 : decode cX10_kind 19 = .ok (.tableswitch 178 0 9 #[53, 62, 71, 77, 96, 101, 119, 128, 137, 150], 53) := by decide +kernel
theorem dX10_kind_72 : decode cX10_kind 72 = .ok (.aload 4, 2) := by decide +kernel
theorem dX10_kind_74 : decode cX10_kind 74 = .ok (.getfield 145, 3) := by decide +kernel
theorem dX10_kind_77 : decode cX10_kind 77 = .ok (.getfield 157, 3) := by decide +kernel
theorem dX10_kind_80 : decode cX10_kind 80 = .ok (.ireturn, 1) := by decide +kernel
theorem dX10_kind_81 : decode cX10_kind 81 = .ok (.aload 4, 2) := by decide +kernel
theorem dX10_kind_83 : decode cX10_kind 83 = .ok (.getfield 326, 3) := by decide +kernel
theorem dX10_kind_86 : decode cX10_kind 86 = .ok (.getfield 373, 3) := by decide +kernel
theorem dX10_kind_89 : decode cX10_kind 89 = .ok (.ireturn, 1) := by decide +kernel
theorem dX10_kind_90 : decode cX10_kind 90 = .ok (.aload 4, 2) := by decide +kernel
theorem dX10_kind_92 : decode cX10_kind 92 = .ok (.invokevirtual 323, 3) := by decide +kernel
theorem dX10_kind_95 : decode cX10_kind 95 = .ok (.ireturn, 1) := by decide +kernel
theorem dX10_kind_96 : decode cX10_kind 96 = .ok (.aload_n 3, 1) := by decide +kernel
theorem dX10_kind_97 : decode cX10_kind 97 = .ok (.getfield 153, 3) := by decide +kernel
theorem dX10_kind_100 : decode cX10_kind 100 = .ok (.ifnonnull 7, 3) := by decide +kernel
theorem dX10_kind_103 : decode cX10_kind 103 = .ok (.iconst 0, 1) := by decide +kernel
theorem dX10_kind_104 : decode cX10_kind 104 = .ok (.goto 10, 3) := by decide +kernel
theorem dX10_kind_107 : decode cX10_kind 107 = .ok (.aload_n 3, 1) := by decide +kernel
theorem dX10_kind_108 : decode cX10_kind 108 = .ok (.getfield 153, 3) := by decide +kernel
theorem dX10_kind_111 : decode cX10_kind 111 = .ok (.getfield 364, 3) := by decide +kernel
theorem dX10_kind_114 : decode cX10_kind 114 = .ok (.ireturn, 1) := by decide +kernel
theorem dX10_kind_115 : decode cX10_kind 115 = .ok (.aload_n 3, 1) := by decide +kernel
theorem dX10_kind_116 : decode cX10_kind 116 = .ok (.getfield 206, 3) := by decide +kernel
theorem dX10_kind_119 : decode cX10_kind 119 = .ok (.ireturn, 1) := by decide +kernel
theorem dX10_kind_120 : decode cX10_kind 120 = .ok (.aload 4, 2) := by decide +kernel
theorem dX10_kind_122 : decode cX10_kind 122 = .ok (.aload_n 0, 1) := by decide +kernel
theorem dX10_kind_123 : decode cX10_kind 123 = .ok (.getfield 33, 3) := by decide +kernel
theorem dX10_kind_126 : decode cX10_kind 126 = .ok (.invokevirtual 174, 3) := by decide +kernel
theorem dX10_kind_129 : decode cX10_kind 129 = .ok (.ifCond .eq 7, 3) := by decide +kernel
theorem dX10_kind_132 : decode cX10_kind 132 = .ok (.iconst 1, 1) := by decide +kernel
theorem dX10_kind_133 : decode cX10_kind 133 = .ok (.goto 4, 3) := by decide +kernel
theorem dX10_kind_136 : decode cX10_kind 136 = .ok (.iconst 0, 1) := by decide +kernel
theorem dX10_kind_137 : decode cX10_kind 137 = .ok (.ireturn, 1) := by decide +kernel
theorem dX10_kind_138 : decode cX10_kind 138 = .ok (.aload 4, 2) := by decide +kernel
theorem dX10_kind_140 : decode cX10_kind 140 = .ok (.getfield 275, 3) := by decide +kernel
theorem dX10_kind_143 : decode cX10_kind 143 = .ok (.getfield 85, 3) := by decide +kernel
theorem dX10_kind_146 : decode cX10_kind 146 = .ok (.ireturn, 1) := by decide +kernel
theorem dX10_kind_147 : decode cX10_kind 147 = .ok (.aload 4, 2) := by decide +kernel
theorem dX10_kind_149 : decode cX10_kind 149 = .ok (.getfield 275, 3) := by decide +kernel
theorem dX10_kind_152 : decode cX10_kind 152 = .ok (.getfield 374, 3) := by decide +kernel
theorem dX10_kind_155 : decode cX10_kind 155 = .ok (.ireturn, 1) := by decide +kernel
theorem dX10_kind_156 : decode cX10_kind 156 = .ok (.aload_n 3, 1) := by decide +kernel
theorem dX10_kind_157 : decode cX10_kind 157 = .ok (.getfield 182, 3) := by decide +kernel
theorem dX10_kind_160 : decode cX10_kind 160 = .ok (.ifCond .eq 7, 3) := by decide +kernel
theorem dX10_kind_163 : decode cX10_kind 163 = .ok (.iconst 2, 1) := by decide +kernel
theorem dX10_kind_164 : decode cX10_kind 164 = .ok (.goto 4, 3) := by decide +kernel
theorem dX10_kind_167 : decode cX10_kind 167 = .ok (.iconst 0, 1) := by decide +kernel
theorem dX10_kind_168 : decode cX10_kind 168 = .ok (.ireturn, 1) := by decide +kernel
theorem dX10_kind_169 : decode cX10_kind 169 = .ok (.aload_n 3, 1) := by decide +kernel
theorem dX10_kind_170 : decode cX10_kind 170 = .ok (.getfield 153, 3) := by decide +kernel
theorem dX10_kind_173 : decode cX10_kind 173 = .ok (.ifnonnull 11, 3) := by decide +kernel
theorem dX10_kind_176 : decode cX10_kind 176 = .ok (.aload 4, 2) := by decide +kernel
theorem dX10_kind_178 : decode cX10_kind 178 = .ok (.getfield 282, 3) := by decide +kernel
theorem dX10_kind_181 : decode cX10_kind 181 = .ok (.ifnonnull 7, 3) := by decide +kernel
theorem dX10_kind_184 : decode cX10_kind 184 = .ok (.iconst 0, 1) := by decide +kernel
theorem dX10_kind_185 : decode cX10_kind 185 = .ok (.goto 11, 3) := by decide +kernel
theorem dX10_kind_188 : decode cX10_kind 188 = .ok (.aload 4, 2) := by decide +kernel
theorem dX10_kind_190 : decode cX10_kind 190 = .ok (.getfield 282, 3) := by decide +kernel
theorem dX10_kind_193 : decode cX10_kind 193 = .ok (.invokevirtual 323, 3) := by decide +kernel
theorem dX10_kind_196 : decode cX10_kind 196 = .ok (.ireturn, 1) := by decide +kernel
theorem dX10_kind_197 : decode cX10_kind 197 = .ok (.iconst (-1), 1) := by decide +kernel
theorem dX10_kind_198 : decode cX10_kind 198 = .ok (.ireturn, 1) := by decide +kernel
theorem dX10_sum_0 : decode cX10_sum 0 = .ok (.aload_n 0, 1) := by decide +kernel
theorem dX10_sum_1 : decode cX10_sum 1 = .ok (.iload_n 1, 1) := by decide +kernel
theorem dX10_sum_2 : decode cX10_sum 2 = .ok (.invokevirtual 133, 3) := by decide +kernel
theorem dX10_sum_5 : decode cX10_sum 5 = .ok (.astore_n 2, 1) := by decide +kernel
theorem dX10_sum_6 : decode cX10_sum 6 = .ok (.aload_n 2, 1) := by decide +kernel
theorem dX10_sum_7 : decode cX10_sum 7 = .ok (.ifnonnull 9, 3) := by decide +kernel
theorem dX10_sum_10 : decode cX10_sum 10 = .ok (.ldc2_w 120, 3) := by decide +kernel
theorem dX10_sum_13 : decode cX10_sum 13 = .ok (.goto 11, 3) := by decide +kernel
theorem dX10_sum_16 : decode cX10_sum 16 = .ok (.aload_n 2, 1) := by decide +kernel
theorem dX10_sum_17 : decode cX10_sum 17 = .ok (.getfield 141, 3) := by decide +kernel
theorem dX10_sum_20 : decode cX10_sum 20 = .ok (.aload_n 2, 1) := by decide +kernel
theorem dX10_sum_21 : decode cX10_sum 21 = .ok (.invokevirtual 178, 3) := by decide +kernel
theorem dX10_sum_24 : decode cX10_sum 24 = .ok (.lreturn, 1) := by decide +kernel
theorem dX10_parcels_0 : decode cX10_parcels 0 = .ok (.aload_n 0, 1) := by decide +kernel
theorem dX10_parcels_1 : decode cX10_parcels 1 = .ok (.iload_n 1, 1) := by decide +kernel
theorem dX10_parcels_2 : decode cX10_parcels 2 = .ok (.invokevirtual 133, 3) := by decide +kernel
theorem dX10_parcels_5 : decode cX10_parcels 5 = .ok (.astore_n 2, 1) := by decide +kernel
theorem dX10_parcels_6 : decode cX10_parcels 6 = .ok (.aload_n 2, 1) := by decide +kernel
theorem dX10_parcels_7 : decode cX10_parcels 7 = .ok (.ifnonnull 5, 3) := by decide +kernel
theorem dX10_parcels_10 : decode cX10_parcels 10 = .ok (.lconst 0, 1) := by decide +kernel
theorem dX10_parcels_11 : decode cX10_parcels 11 = .ok (.lreturn, 1) := by decide +kernel
theorem dX10_parcels_12 : decode cX10_parcels 12 = .ok (.lconst 0, 1) := by decide +kernel
theorem dX10_parcels_13 : decode cX10_parcels 13 = .ok (.lstore_n 3, 1) := by decide +kernel
theorem dX10_parcels_14 : decode cX10_parcels 14 = .ok (.iconst 0, 1) := by decide +kernel
theorem dX10_parcels_15 : decode cX10_parcels 15 = .ok (.istore 5, 2) := by decide +kernel
theorem dX10_parcels_17 : decode cX10_parcels 17 = .ok (.iload 5, 2) := by decide +kernel
theorem dX10_parcels_19 : decode cX10_parcels 19 = .ok (.bipush 60, 2) := by decide +kernel
theorem dX10_parcels_21 : decode cX10_parcels 21 = .ok (.if_icmp .ge 29, 3) := by decide +kernel
theorem dX10_parcels_24 : decode cX10_parcels 24 = .ok (.aload_n 2, 1) := by decide +kernel
theorem dX10_parcels_25 : decode cX10_parcels 25 = .ok (.iload 5, 2) := by decide +kernel
theorem dX10_parcels_27 : decode cX10_parcels 27 = .ok (.aload_n 0, 1) := by decide +kernel
theorem dX10_parcels_28 : decode cX10_parcels 28 = .ok (.getfield 33, 3) := by decide +kernel
theorem dX10_parcels_31 : decode cX10_parcels 31 = .ok (.invokevirtual 377, 3) := by decide +kernel
theorem dX10_parcels_34 : decode cX10_parcels 34 = .ok (.ifCond .eq 10, 3) := by decide +kernel
theorem dX10_parcels_37 : decode cX10_parcels 37 = .ok (.lload_n 3, 1) := by decide +kernel
theorem dX10_parcels_38 : decode cX10_parcels 38 = .ok (.lconst 1, 1) := by decide +kernel
theorem dX10_parcels_39 : decode cX10_parcels 39 = .ok (.iload 5, 2) := by decide +kernel
theorem dX10_parcels_41 : decode cX10_parcels 41 = .ok (.lshl, 1) := by decide +kernel
theorem dX10_parcels_42 : decode cX10_parcels 42 = .ok (.lor, 1) := by decide +kernel
theorem dX10_parcels_43 : decode cX10_parcels 43 = .ok (.lstore_n 3, 1) := by decide +kernel
theorem dX10_parcels_44 : decode cX10_parcels 44 = .ok (.iinc 5 1, 3) := by decide +kernel
theorem dX10_parcels_47 : decode cX10_parcels 47 = .ok (.goto (-30), 3) := by decide +kernel
theorem dX10_parcels_50 : decode cX10_parcels 50 = .ok (.lload_n 3, 1) := by decide +kernel
theorem dX10_parcels_51 : decode cX10_parcels 51 = .ok (.lreturn, 1) := by decide +kernel
theorem dX10_status_0 : decode cX10_status 0 = .ok (.aload_n 0, 1) := by decide +kernel
theorem dX10_status_1 : decode cX10_status 1 = .ok (.getfield 381, 3) := by decide +kernel
theorem dX10_status_4 : decode cX10_status 4 = .ok (.ireturn, 1) := by decide +kernel
theorem dX10_count_0 : decode cX10_count 0 = .ok (.iload_n 1, 1) := by decide +kernel
theorem dX10_count_1 : decode cX10_count 1 = .ok (.tableswitch 84 0 6 #[43, 51, 56, 61, 66, 71, 76], 43) := by decide +kernel
theorem dX10_count_44 : decode cX10_count 44 = .ok (.aload_n 0, 1) := by decide +kernel
theorem dX10_count_45 : decode cX10_count 45 = .ok (.getfield 33, 3) := by decide +kernel
theorem dX10_count_48 : decode cX10_count 48 = .ok (.getfield 69, 3) := by decide +kernel
theorem dX10_count_51 : decode cX10_count 51 = .ok (.ireturn, 1) := by decide +kernel
theorem dX10_count_52 : decode cX10_count 52 = .ok (.aload_n 0, 1) := by decide +kernel
theorem dX10_count_53 : decode cX10_count 53 = .ok (.getfield 45, 3) := by decide +kernel
theorem dX10_count_56 : decode cX10_count 56 = .ok (.ireturn, 1) := by decide +kernel
theorem dX10_count_57 : decode cX10_count 57 = .ok (.aload_n 0, 1) := by decide +kernel
theorem dX10_count_58 : decode cX10_count 58 = .ok (.getfield 98, 3) := by decide +kernel
theorem dX10_count_61 : decode cX10_count 61 = .ok (.ireturn, 1) := by decide +kernel
theorem dX10_count_62 : decode cX10_count 62 = .ok (.aload_n 0, 1) := by decide +kernel
theorem dX10_count_63 : decode cX10_count 63 = .ok (.getfield 223, 3) := by decide +kernel
theorem dX10_count_66 : decode cX10_count 66 = .ok (.ireturn, 1) := by decide +kernel
theorem dX10_count_67 : decode cX10_count 67 = .ok (.aload_n 0, 1) := by decide +kernel
theorem dX10_count_68 : decode cX10_count 68 = .ok (.getfield 65, 3) := by decide +kernel
theorem dX10_count_71 : decode cX10_count 71 = .ok (.ireturn, 1) := by decide +kernel
theorem dX10_count_72 : decode cX10_count 72 = .ok (.aload_n 0, 1) := by decide +kernel
theorem dX10_count_73 : decode cX10_count 73 = .ok (.getfield 342, 3) := by decide +kernel
theorem dX10_count_76 : decode cX10_count 76 = .ok (.ireturn, 1) := by decide +kernel
theorem dX10_count_77 : decode cX10_count 77 = .ok (.aload_n 0, 1) := by decide +kernel
theorem dX10_count_78 : decode cX10_count 78 = .ok (.getfield 24, 3) := by decide +kernel
theorem dX10_count_81 : decode cX10_count 81 = .ok (.getfield 384, 3) := by decide +kernel
theorem dX10_count_84 : decode cX10_count 84 = .ok (.ireturn, 1) := by decide +kernel
theorem dX10_count_85 : decode cX10_count 85 = .ok (.iconst (-1), 1) := by decide +kernel
theorem dX10_count_86 : decode cX10_count 86 = .ok (.ireturn, 1) := by decide +kernel
theorem dX10_settle_0 : decode cX10_settle 0 = .ok (.aload_n 0, 1) := by decide +kernel
theorem dX10_settle_1 : decode cX10_settle 1 = .ok (.iload_n 1, 1) := by decide +kernel
theorem dX10_settle_2 : decode cX10_settle 2 = .ok (.putfield 381, 3) := by decide +kernel
theorem dX10_settle_5 : decode cX10_settle 5 = .ok (.iload_n 1, 1) := by decide +kernel
theorem dX10_settle_6 : decode cX10_settle 6 = .ok (.ifCond .ne 7, 3) := by decide +kernel
theorem dX10_settle_9 : decode cX10_settle 9 = .ok (.iconst 1, 1) := by decide +kernel
theorem dX10_settle_10 : decode cX10_settle 10 = .ok (.goto 4, 3) := by decide +kernel
theorem dX10_settle_13 : decode cX10_settle 13 = .ok (.iconst 0, 1) := by decide +kernel
theorem dX10_settle_14 : decode cX10_settle 14 = .ok (.ireturn, 1) := by decide +kernel
theorem dX10_newAct_0 : decode cX10_newAct 0 = .ok (.new 86, 3) := by decide +kernel
theorem dX10_newAct_3 : decode cX10_newAct 3 = .ok (.dup, 1) := by decide +kernel
theorem dX10_newAct_4 : decode cX10_newAct 4 = .ok (.aload_n 0, 1) := by decide +kernel
theorem dX10_newAct_5 : decode cX10_newAct 5 = .ok (.getfield 65, 3) := by decide +kernel
theorem dX10_newAct_8 : decode cX10_newAct 8 = .ok (.aload_n 0, 1) := by decide +kernel
theorem dX10_newAct_9 : decode cX10_newAct 9 = .ok (.getfield 33, 3) := by decide +kernel
theorem dX10_newAct_12 : decode cX10_newAct 12 = .ok (.getfield 69, 3) := by decide +kernel
theorem dX10_newAct_15 : decode cX10_newAct 15 = .ok (.invokespecial 387, 3) := by decide +kernel
theorem dX10_newAct_18 : decode cX10_newAct 18 = .ok (.areturn, 1) := by decide +kernel
theorem dX10_isPastOrToday_0 : decode cX10_isPastOrToday 0 = .ok (.iload_n 1, 1) := by decide +kernel
theorem dX10_isPastOrToday_1 : decode cX10_isPastOrToday 1 = .ok (.ifCond .lt 18, 3) := by decide +kernel
theorem dX10_isPastOrToday_4 : decode cX10_isPastOrToday 4 = .ok (.iload_n 1, 1) := by decide +kernel
theorem dX10_isPastOrToday_5 : decode cX10_isPastOrToday 5 = .ok (.aload_n 0, 1) := by decide +kernel
theorem dX10_isPastOrToday_6 : decode cX10_isPastOrToday 6 = .ok (.getfield 33, 3) := by decide +kernel
theorem dX10_isPastOrToday_9 : decode cX10_isPastOrToday 9 = .ok (.getfield 69, 3) := by decide +kernel
theorem dX10_isPastOrToday_12 : decode cX10_isPastOrToday 12 = .ok (.if_icmp .gt 7, 3) := by decide +kernel
theorem dX10_isPastOrToday_15 : decode cX10_isPastOrToday 15 = .ok (.iconst 1, 1) := by decide +kernel
theorem dX10_isPastOrToday_16 : decode cX10_isPastOrToday 16 = .ok (.goto 4, 3) := by decide +kernel
theorem dX10_isPastOrToday_19 : decode cX10_isPastOrToday 19 = .ok (.iconst 0, 1) := by decide +kernel
theorem dX10_isPastOrToday_20 : decode cX10_isPastOrToday 20 = .ok (.ireturn, 1) := by decide +kernel
theorem dX10_isSum_0 : decode cX10_isSum 0 = .ok (.lload_n 0, 1) := by decide +kernel
theorem dX10_isSum_1 : decode cX10_isSum 1 = .ok (.lconst 0, 1) := by decide +kernel
theorem dX10_isSum_2 : decode cX10_isSum 2 = .ok (.lcmp, 1) := by decide +kernel
theorem dX10_isSum_3 : decode cX10_isSum 3 = .ok (.ifCond .lt 15, 3) := by decide +kernel
theorem dX10_isSum_6 : decode cX10_isSum 6 = .ok (.lload_n 0, 1) := by decide +kernel
theorem dX10_isSum_7 : decode cX10_isSum 7 = .ok (.ldc2_w 388, 3) := by decide +kernel
theorem dX10_isSum_10 : decode cX10_isSum 10 = .ok (.lcmp, 1) := by decide +kernel
theorem dX10_isSum_11 : decode cX10_isSum 11 = .ok (.ifCond .gt 7, 3) := by decide +kernel
theorem dX10_isSum_14 : decode cX10_isSum 14 = .ok (.iconst 1, 1) := by decide +kernel
theorem dX10_isSum_15 : decode cX10_isSum 15 = .ok (.goto 4, 3) := by decide +kernel
theorem dX10_isSum_18 : decode cX10_isSum 18 = .ok (.iconst 0, 1) := by decide +kernel
theorem dX10_isSum_19 : decode cX10_isSum 19 = .ok (.ireturn, 1) := by decide +kernel
theorem dX10_liveInOneFolio_0 : decode cX10_liveInOneFolio 0 = .ok (.aload_n 1, 1) := by decide +kernel
theorem dX10_liveInOneFolio_1 : decode cX10_liveInOneFolio 1 = .ok (.aload_n 0, 1) := by decide +kernel
theorem dX10_liveInOneFolio_2 : decode cX10_liveInOneFolio 2 = .ok (.getfield 33, 3) := by decide +kernel
theorem dX10_liveInOneFolio_5 : decode cX10_liveInOneFolio 5 = .ok (.invokevirtual 174, 3) := by decide +kernel
theorem dX10_liveInOneFolio_8 : decode cX10_liveInOneFolio 8 = .ok (.ifCond .eq 29, 3) := by decide +kernel
theorem dX10_liveInOneFolio_11 : decode cX10_liveInOneFolio 11 = .ok (.aload_n 2, 1) := by decide +kernel
theorem dX10_liveInOneFolio_12 : decode cX10_liveInOneFolio 12 = .ok (.aload_n 0, 1) := by decide +kernel
theorem dX10_liveInOneFolio_13 : decode cX10_liveInOneFolio 13 = .ok (.getfield 33, 3) := by decide +kernel
theorem dX10_liveInOneFolio_16 : decode cX10_liveInOneFolio 16 = .ok (.invokevirtual 174, 3) := by decide +kernel
theorem dX10_liveInOneFolio_19 : decode cX10_liveInOneFolio 19 = .ok (.ifCond .eq 18, 3) := by decide +kernel
theorem dX10_liveInOneFolio_22 : decode cX10_liveInOneFolio 22 = .ok (.aload_n 1, 1) := by decide +kernel
theorem dX10_liveInOneFolio_23 : decode cX10_liveInOneFolio 23 = .ok (.getfield 326, 3) := by decide +kernel
theorem dX10_liveInOneFolio_26 : decode cX10_liveInOneFolio 26 = .ok (.aload_n 2, 1) := by decide +kernel
theorem dX10_liveInOneFolio_27 : decode cX10_liveInOneFolio 27 = .ok (.getfield 326, 3) := by decide +kernel
theorem dX10_liveInOneFolio_30 : decode cX10_liveInOneFolio 30 = .ok (.if_acmp .ne 7, 3) := by decide +kernel
theorem dX10_liveInOneFolio_33 : decode cX10_liveInOneFolio 33 = .ok (.iconst 1, 1) := by decide +kernel
theorem dX10_liveInOneFolio_34 : decode cX10_liveInOneFolio 34 = .ok (.goto 4, 3) := by decide +kernel
theorem dX10_liveInOneFolio_37 : decode cX10_liveInOneFolio 37 = .ok (.iconst 0, 1) := by decide +kernel
theorem dX10_liveInOneFolio_38 : decode cX10_liveInOneFolio 38 = .ok (.ireturn, 1) := by decide +kernel
theorem dX10_parcelFault_0 : decode cX10_parcelFault 0 = .ok (.aload_n 0, 1) := by decide +kernel
theorem dX10_parcelFault_1 : decode cX10_parcelFault 1 = .ok (.ifnonnull 5, 3) := by decide +kernel
theorem dX10_parcelFault_4 : decode cX10_parcelFault 4 = .ok (.iconst 1, 1) := by decide +kernel
theorem dX10_parcelFault_5 : decode cX10_parcelFault 5 = .ok (.ireturn, 1) := by decide +kernel
theorem dX10_parcelFault_6 : decode cX10_parcelFault 6 = .ok (.aload_n 0, 1) := by decide +kernel
theorem dX10_parcelFault_7 : decode cX10_parcelFault 7 = .ok (.iload_n 1, 1) := by decide +kernel
theorem dX10_parcelFault_8 : decode cX10_parcelFault 8 = .ok (.invokevirtual 390, 3) := by decide +kernel
theorem dX10_parcelFault_11 : decode cX10_parcelFault 11 = .ok (.ifCond .ne 5, 3) := by decide +kernel
theorem dX10_parcelFault_14 : decode cX10_parcelFault 14 = .ok (.iconst 2, 1) := by decide +kernel
theorem dX10_parcelFault_15 : decode cX10_parcelFault 15 = .ok (.ireturn, 1) := by decide +kernel
theorem dX10_parcelFault_16 : decode cX10_parcelFault 16 = .ok (.aload_n 0, 1) := by decide +kernel
theorem dX10_parcelFault_17 : decode cX10_parcelFault 17 = .ok (.iload_n 1, 1) := by decide +kernel
theorem dX10_parcelFault_18 : decode cX10_parcelFault 18 = .ok (.invokevirtual 393, 3) := by decide +kernel
theorem dX10_parcelFault_21 : decode cX10_parcelFault 21 = .ok (.ifCond .eq 7, 3) := by decide +kernel
theorem dX10_parcelFault_24 : decode cX10_parcelFault 24 = .ok (.iconst 3, 1) := by decide +kernel
theorem dX10_parcelFault_25 : decode cX10_parcelFault 25 = .ok (.goto 4, 3) := by decide +kernel
theorem dX10_parcelFault_28 : decode cX10_parcelFault 28 = .ok (.iconst 0, 1) := by decide +kernel
theorem dX10_parcelFault_29 : decode cX10_parcelFault 29 = .ok (.ireturn, 1) := by decide +kernel
theorem dX10_lieFault_0 : decode cX10_lieFault 0 = .ok (.aload_n 1, 1) := by decide +kernel
theorem dX10_lieFault_1 : decode cX10_lieFault 1 = .ok (.ifnonnull 5, 3) := by decide +kernel
theorem dX10_lieFault_4 : decode cX10_lieFault 4 = .ok (.iconst 1, 1) := by decide +kernel
theorem dX10_lieFault_5 : decode cX10_lieFault 5 = .ok (.ireturn, 1) := by decide +kernel
theorem dX10_lieFault_6 : decode cX10_lieFault 6 = .ok (.aload_n 1, 1) := by decide +kernel
theorem dX10_lieFault_7 : decode cX10_lieFault 7 = .ok (.getfield 141, 3) := by decide +kernel
theorem dX10_lieFault_10 : decode cX10_lieFault 10 = .ok (.getfield 326, 3) := by decide +kernel
theorem dX10_lieFault_13 : decode cX10_lieFault 13 = .ok (.iload_n 2, 1) := by decide +kernel
theorem dX10_lieFault_14 : decode cX10_lieFault 14 = .ok (.invokestatic 54, 3) := by decide +kernel
theorem dX10_lieFault_17 : decode cX10_lieFault 17 = .ok (.istore_n 3, 1) := by decide +kernel
theorem dX10_lieFault_18 : decode cX10_lieFault 18 = .ok (.iload_n 3, 1) := by decide +kernel
theorem dX10_lieFault_19 : decode cX10_lieFault 19 = .ok (.ifCond .eq 5, 3) := by decide +kernel
theorem dX10_lieFault_22 : decode cX10_lieFault 22 = .ok (.iload_n 3, 1) := by decide +kernel
theorem dX10_lieFault_23 : decode cX10_lieFault 23 = .ok (.ireturn, 1) := by decide +kernel
theorem dX10_lieFault_24 : decode cX10_lieFault 24 = .ok (.aload_n 1, 1) := by decide +kernel
theorem dX10_lieFault_25 : decode cX10_lieFault 25 = .ok (.iload_n 2, 1) := by decide +kernel
theorem dX10_lieFault_26 : decode cX10_lieFault 26 = .ok (.aload_n 0, 1) := by decide +kernel
theorem dX10_lieFault_27 : decode cX10_lieFault 27 = .ok (.getfield 33, 3) := by decide +kernel
theorem dX10_lieFault_30 : decode cX10_lieFault 30 = .ok (.invokevirtual 377, 3) := by decide +kernel
theorem dX10_lieFault_33 : decode cX10_lieFault 33 = .ok (.ifCond .eq 7, 3) := by decide +kernel
theorem dX10_lieFault_36 : decode cX10_lieFault 36 = .ok (.iconst 0, 1) := by decide +kernel
theorem dX10_lieFault_37 : decode cX10_lieFault 37 = .ok (.goto 5, 3) := by decide +kernel
theorem dX10_lieFault_40 : decode cX10_lieFault 40 = .ok (.bipush 6, 2) := by decide +kernel
theorem dX10_lieFault_42 : decode cX10_lieFault 42 = .ok (.ireturn, 1) := by decide +kernel
theorem dX10_folioAt_0 : decode cX10_folioAt 0 = .ok (.iload_n 1, 1) := by decide +kernel
theorem dX10_folioAt_1 : decode cX10_folioAt 1 = .ok (.ifCond .lt 20, 3) := by decide +kernel
theorem dX10_folioAt_4 : decode cX10_folioAt 4 = .ok (.iload_n 1, 1) := by decide +kernel
theorem dX10_folioAt_5 : decode cX10_folioAt 5 = .ok (.aload_n 0, 1) := by decide +kernel
theorem dX10_folioAt_6 : decode cX10_folioAt 6 = .ok (.getfield 45, 3) := by decide +kernel
theorem dX10_folioAt_9 : decode cX10_folioAt 9 = .ok (.if_icmp .ge 12, 3) := by decide +kernel
theorem dX10_folioAt_12 : decode cX10_folioAt 12 = .ok (.aload_n 0, 1) := by decide +kernel
theorem dX10_folioAt_13 : decode cX10_folioAt 13 = .ok (.getfield 11, 3) := by decide +kernel
theorem dX10_folioAt_16 : decode cX10_folioAt 16 = .ok (.iload_n 1, 1) := by decide +kernel
theorem dX10_folioAt_17 : decode cX10_folioAt 17 = .ok (.aaload, 1) := by decide +kernel
theorem dX10_folioAt_18 : decode cX10_folioAt 18 = .ok (.goto 4, 3) := by decide +kernel
theorem dX10_folioAt_21 : decode cX10_folioAt 21 = .ok (.aconst_null, 1) := by decide +kernel
theorem dX10_folioAt_22 : decode cX10_folioAt 22 = .ok (.areturn, 1) := by decide +kernel
theorem dX10_entryAt_0 : decode cX10_entryAt 0 = .ok (.iload_n 1, 1) := by decide +kernel
theorem dX10_entryAt_1 : decode cX10_entryAt 1 = .ok (.iconst 1, 1) := by decide +kernel
theorem dX10_entryAt_2 : decode cX10_entryAt 2 = .ok (.if_icmp .lt 22, 3) := by decide +kernel
theorem dX10_entryAt_5 : decode cX10_entryAt 5 = .ok (.iload_n 1, 1) := by decide +kernel
theorem dX10_entryAt_6 : decode cX10_entryAt 6 = .ok (.aload_n 0, 1) := by decide +kernel
theorem dX10_entryAt_7 : decode cX10_entryAt 7 = .ok (.getfield 98, 3) := by decide +kernel
theorem dX10_entryAt_10 : decode cX10_entryAt 10 = .ok (.if_icmp .gt 14, 3) := by decide +kernel
theorem dX10_entryAt_13 : decode cX10_entryAt 13 = .ok (.aload_n 0, 1) := by decide +kernel
theorem dX10_entryAt_14 : decode cX10_entryAt 14 = .ok (.getfield 17, 3) := by decide +kernel
theorem dX10_entryAt_17 : decode cX10_entryAt 17 = .ok (.iload_n 1, 1) := by decide +kernel
theorem dX10_entryAt_18 : decode cX10_entryAt 18 = .ok (.iconst 1, 1) := by decide +kernel
theorem dX10_entryAt_19 : decode cX10_entryAt 19 = .ok (.isub, 1) := by decide +kernel
theorem dX10_entryAt_20 : decode cX10_entryAt 20 = .ok (.aaload, 1) := by decide +kernel
theorem dX10_entryAt_21 : decode cX10_entryAt 21 = .ok (.goto 4, 3) := by decide +kernel
theorem dX10_entryAt_24 : decode cX10_entryAt 24 = .ok (.aconst_null, 1) := by decide +kernel
theorem dX10_entryAt_25 : decode cX10_entryAt 25 = .ok (.areturn, 1) := by decide +kernel
theorem dX10_postAt_0 : decode cX10_postAt 0 = .ok (.aload_n 0, 1) := by decide +kernel
theorem dX10_postAt_1 : decode cX10_postAt 1 = .ok (.getfield 233, 3) := by decide +kernel
theorem dX10_postAt_4 : decode cX10_postAt 4 = .ok (.astore_n 2, 1) := by decide +kernel
theorem dX10_postAt_5 : decode cX10_postAt 5 = .ok (.aload_n 2, 1) := by decide +kernel
theorem dX10_postAt_6 : decode cX10_postAt 6 = .ok (.ifnull 21, 3) := by decide +kernel
theorem dX10_postAt_9 : decode cX10_postAt 9 = .ok (.aload_n 2, 1) := by decide +kernel
theorem dX10_postAt_10 : decode cX10_postAt 10 = .ok (.getfield 239, 3) := by decide +kernel
theorem dX10_postAt_13 : decode cX10_postAt 13 = .ok (.iload_n 1, 1) := by decide +kernel
theorem dX10_postAt_14 : decode cX10_postAt 14 = .ok (.if_icmp .ne 5, 3) := by decide +kernel
theorem dX10_postAt_17 : decode cX10_postAt 17 = .ok (.aload_n 2, 1) := by decide +kernel
theorem dX10_postAt_18 : decode cX10_postAt 18 = .ok (.areturn, 1) := by decide +kernel
theorem dX10_postAt_19 : decode cX10_postAt 19 = .ok (.aload_n 2, 1) := by decide +kernel
theorem dX10_postAt_20 : decode cX10_postAt 20 = .ok (.getfield 236, 3) := by decide +kernel
theorem dX10_postAt_23 : decode cX10_postAt 23 = .ok (.astore_n 2, 1) := by decide +kernel
theorem dX10_postAt_24 : decode cX10_postAt 24 = .ok (.goto (-19), 3) := by decide +kernel
theorem dX10_postAt_27 : decode cX10_postAt 27 = .ok (.aconst_null, 1) := by decide +kernel
theorem dX10_postAt_28 : decode cX10_postAt 28 = .ok (.areturn, 1) := by decide +kernel
theorem dX10_addEntry_0 : decode cX10_addEntry 0 = .ok (.aload_n 0, 1) := by decide +kernel
theorem dX10_addEntry_1 : decode cX10_addEntry 1 = .ok (.getfield 98, 3) := by decide +kernel
theorem dX10_addEntry_4 : decode cX10_addEntry 4 = .ok (.aload_n 0, 1) := by decide +kernel
theorem dX10_addEntry_5 : decode cX10_addEntry 5 = .ok (.getfield 17, 3) := by decide +kernel
theorem dX10_addEntry_8 : decode cX10_addEntry 8 = .ok (.arraylength, 1) := by decide +kernel
theorem dX10_addEntry_9 : decode cX10_addEntry 9 = .ok (.if_icmp .lt 5, 3) := by decide +kernel
theorem dX10_addEntry_12 : decode cX10_addEntry 12 = .ok (.iconst (-1), 1) := by decide +kernel
theorem dX10_addEntry_13 : decode cX10_addEntry 13 = .ok (.ireturn, 1) := by decide +kernel
theorem dX10_addEntry_14 : decode cX10_addEntry 14 = .ok (.aload_n 0, 1) := by decide +kernel
theorem dX10_addEntry_15 : decode cX10_addEntry 15 = .ok (.getfield 17, 3) := by decide +kernel
theorem dX10_addEntry_18 : decode cX10_addEntry 18 = .ok (.aload_n 0, 1) := by decide +kernel
theorem dX10_addEntry_19 : decode cX10_addEntry 19 = .ok (.getfield 98, 3) := by decide +kernel
theorem dX10_addEntry_22 : decode cX10_addEntry 22 = .ok (.aload_n 1, 1) := by decide +kernel
theorem dX10_addEntry_23 : decode cX10_addEntry 23 = .ok (.aastore, 1) := by decide +kernel
theorem dX10_addEntry_24 : decode cX10_addEntry 24 = .ok (.aload_n 0, 1) := by decide +kernel
theorem dX10_addEntry_25 : decode cX10_addEntry 25 = .ok (.dup, 1) := by decide +kernel
theorem dX10_addEntry_26 : decode cX10_addEntry 26 = .ok (.getfield 98, 3) := by decide +kernel
theorem dX10_addEntry_29 : decode cX10_addEntry 29 = .ok (.iconst 1, 1) := by decide +kernel
theorem dX10_addEntry_30 : decode cX10_addEntry 30 = .ok (.iadd, 1) := by decide +kernel
theorem dX10_addEntry_31 : decode cX10_addEntry 31 = .ok (.putfield 98, 3) := by decide +kernel
theorem dX10_addEntry_34 : decode cX10_addEntry 34 = .ok (.aload_n 1, 1) := by decide +kernel
theorem dX10_addEntry_35 : decode cX10_addEntry 35 = .ok (.getfield 364, 3) := by decide +kernel
theorem dX10_addEntry_38 : decode cX10_addEntry 38 = .ok (.ireturn, 1) := by decide +kernel
end
section
theorem dX11_init_0 : decode cX11_init 0 = .ok (.aload_n 0, 1) := by decide +kernel
theorem dX11_init_1 : decode cX11_init 1 = .ok (.invokespecial 1, 3) := by decide +kernel
theorem dX11_init_4 : decode cX11_init 4 = .ok (.aload_n 0, 1) := by decide +kernel
theorem dX11_init_5 : decode cX11_init 5 = .ok (.bipush 40, 2) := by decide +kernel
theorem dX11_init_7 : decode cX11_init 7 = .ok (.newarray .int, 2) := by decide +kernel
theorem dX11_init_9 : decode cX11_init 9 = .ok (.putfield 7, 3) := by decide +kernel
theorem dX11_init_12 : decode cX11_init 12 = .ok (.aload_n 0, 1) := by decide +kernel
theorem dX11_init_13 : decode cX11_init 13 = .ok (.sipush 2400, 3) := by decide +kernel
theorem dX11_init_16 : decode cX11_init 16 = .ok (.newarray .boolean, 2) := by decide +kernel
theorem dX11_init_18 : decode cX11_init 18 = .ok (.putfield 13, 3) := by decide +kernel
theorem dX11_init_21 : decode cX11_init 21 = .ok (.aload_n 0, 1) := by decide +kernel
theorem dX11_init_22 : decode cX11_init 22 = .ok (.sipush 301, 3) := by decide +kernel
theorem dX11_init_25 : decode cX11_init 25 = .ok (.newarray .int, 2) := by decide +kernel
theorem dX11_init_27 : decode cX11_init 27 = .ok (.putfield 17, 3) := by decide +kernel
theorem dX11_init_30 : decode cX11_init 30 = .ok (.aload_n 0, 1) := by decide +kernel
theorem dX11_init_31 : decode cX11_init 31 = .ok (.sipush 301, 3) := by decide +kernel
theorem dX11_init_34 : decode cX11_init 34 = .ok (.newarray .int, 2) := by decide +kernel
theorem dX11_init_36 : decode cX11_init 36 = .ok (.putfield 20, 3) := by decide +kernel
theorem dX11_init_39 : decode cX11_init 39 = .ok (.aload_n 0, 1) := by decide +kernel
theorem dX11_init_40 : decode cX11_init 40 = .ok (.sipush 301, 3) := by decide +kernel
theorem dX11_init_43 : decode cX11_init 43 = .ok (.newarray .int, 2) := by decide +kernel
theorem dX11_init_45 : decode cX11_init 45 = .ok (.putfield 23, 3) := by decide +kernel
theorem dX11_init_48 : decode cX11_init 48 = .ok (.aload_n 0, 1) := by decide +kernel
theorem dX11_init_49 : decode cX11_init 49 = .ok (.sipush 301, 3) := by decide +kernel
theorem dX11_init_52 : decode cX11_init 52 = .ok (.newarray .int, 2) := by decide +kernel
theorem dX11_init_54 : decode cX11_init 54 = .ok (.putfield 26, 3) := by decide +kernel
theorem dX11_init_57 : decode cX11_init 57 = .ok (.aload_n 0, 1) := by decide +kernel
theorem dX11_init_58 : decode cX11_init 58 = .ok (.sipush 301, 3) := by decide +kernel
theorem dX11_init_61 : decode cX11_init 61 = .ok (.newarray .int, 2) := by decide +kernel
theorem dX11_init_63 : decode cX11_init 63 = .ok (.putfield 29, 3) := by decide +kernel
theorem dX11_init_66 : decode cX11_init 66 = .ok (.aload_n 0, 1) := by decide +kernel
theorem dX11_init_67 : decode cX11_init 67 = .ok (.sipush 301, 3) := by decide +kernel
theorem dX11_init_70 : decode cX11_init 70 = .ok (.newarray .long, 2) := by decide +kernel
theorem dX11_init_72 : decode cX11_init 72 = .ok (.putfield 32, 3) := by decide +kernel
theorem dX11_init_75 : decode cX11_init 75 = .ok (.aload_n 0, 1) := by decide +kernel
theorem dX11_init_76 : decode cX11_init 76 = .ok (.sipush 301, 3) := by decide +kernel
theorem dX11_init_79 : decode cX11_init 79 = .ok (.newarray .int, 2) := by decide +kernel
theorem dX11_init_81 : decode cX11_init 81 = .ok (.putfield 36, 3) := by decide +kernel
theorem dX11_init_84 : decode cX11_init 84 = .ok (.aload_n 0, 1) := by decide +kernel
theorem dX11_init_85 : decode cX11_init 85 = .ok (.sipush 301, 3) := by decide +kernel
theorem dX11_init_88 : decode cX11_init 88 = .ok (.newarray .long, 2) := by decide +kernel
theorem dX11_init_90 : decode cX11_init 90 = .ok (.putfield 39, 3) := by decide +kernel
theorem dX11_init_93 : decode cX11_init 93 = .ok (.aload_n 0, 1) := by decide +kernel
theorem dX11_init_94 : decode cX11_init 94 = .ok (.sipush 301, 3) := by decide +kernel
theorem dX11_init_97 : decode cX11_init 97 = .ok (.newarray .int, 2) := by decide +kernel
theorem dX11_init_99 : decode cX11_init 99 = .ok (.putfield 42, 3) := by decide +kernel
theorem dX11_init_102 : decode cX11_init 102 = .ok (.aload_n 0, 1) := by decide +kernel
theorem dX11_init_103 : decode cX11_init 103 = .ok (.sipush 301, 3) := by decide +kernel
theorem dX11_init_106 : decode cX11_init 106 = .ok (.newarray .long, 2) := by decide +kernel
theorem dX11_init_108 : decode cX11_init 108 = .ok (.putfield 45, 3) := by decide +kernel
theorem dX11_init_111 : decode cX11_init 111 = .ok (.aload_n 0, 1) := by decide +kernel
theorem dX11_init_112 : decode cX11_init 112 = .ok (.sipush 301, 3) := by decide +kernel
theorem dX11_init_115 : decode cX11_init 115 = .ok (.newarray .int, 2) := by decide +kernel
theorem dX11_init_117 : decode cX11_init 117 = .ok (.putfield 48, 3) := by decide +kernel
theorem dX11_init_120 : decode cX11_init 120 = .ok (.aload_n 0, 1) := by decide +kernel
theorem dX11_init_121 : decode cX11_init 121 = .ok (.sipush 301, 3) := by decide +kernel
theorem dX11_init_124 : decode cX11_init 124 = .ok (.newarray .int, 2) := by decide +kernel
theorem dX11_init_126 : decode cX11_init 126 = .ok (.putfield 51, 3) := by decide +kernel
theorem dX11_init_129 : decode cX11_init 129 = .ok (.aload_n 0, 1) := by decide +kernel
theorem dX11_init_130 : decode cX11_init 130 = .ok (.sipush 301, 3) := by decide +kernel
theorem dX11_init_133 : decode cX11_init 133 = .ok (.newarray .int, 2) := by decide +kernel
theorem dX11_init_135 : decode cX11_init 135 = .ok (.putfield 54, 3) := by decide +kernel
theorem dX11_init_138 : decode cX11_init 138 = .ok (.aload_n 0, 1) := by decide +kernel
theorem dX11_init_139 : decode cX11_init 139 = .ok (.sipush 301, 3) := by decide +kernel
theorem dX11_init_142 : decode cX11_init 142 = .ok (.newarray .int, 2) := by decide +kernel
theorem dX11_init_144 : decode cX11_init 144 = .ok (.putfield 57, 3) := by decide +kernel
theorem dX11_init_147 : decode cX11_init 147 = .ok (.aload_n 0, 1) := by decide +kernel
theorem dX11_init_148 : decode cX11_init 148 = .ok (.sipush 301, 3) := by decide +kernel
theorem dX11_init_151 : decode cX11_init 151 = .ok (.newarray .int, 2) := by decide +kernel
theorem dX11_init_153 : decode cX11_init 153 = .ok (.putfield 60, 3) := by decide +kernel
theorem dX11_init_156 : decode cX11_init 156 = .ok (.aload_n 0, 1) := by decide +kernel
theorem dX11_init_157 : decode cX11_init 157 = .ok (.sipush 301, 3) := by decide +kernel
theorem dX11_init_160 : decode cX11_init 160 = .ok (.newarray .boolean, 2) := by decide +kernel
theorem dX11_init_162 : decode cX11_init 162 = .ok (.putfield 63, 3) := by decide +kernel
theorem dX11_init_165 : decode cX11_init 165 = .ok (.aload_n 0, 1) := by decide +kernel
theorem dX11_init_166 : decode cX11_init 166 = .ok (.sipush 301, 3) := by decide +kernel
theorem dX11_init_169 : decode cX11_init 169 = .ok (.newarray .boolean, 2) := by decide +kernel
theorem dX11_init_171 : decode cX11_init 171 = .ok (.putfield 66, 3) := by decide +kernel
theorem dX11_init_174 : decode cX11_init 174 = .ok (.aload_n 0, 1) := by decide +kernel
theorem dX11_init_175 : decode cX11_init 175 = .ok (.sipush 301, 3) := by decide +kernel
theorem dX11_init_178 : decode cX11_init 178 = .ok (.newarray .int, 2) := by decide +kernel
theorem dX11_init_180 : decode cX11_init 180 = .ok (.putfield 69, 3) := by decide +kernel
theorem dX11_init_183 : decode cX11_init 183 = .ok (.aload_n 0, 1) := by decide +kernel
theorem dX11_init_184 : decode cX11_init 184 = .ok (.sipush 301, 3) := by decide +kernel
theorem dX11_init_187 : decode cX11_init 187 = .ok (.newarray .int, 2) := by decide +kernel
theorem dX11_init_189 : decode cX11_init 189 = .ok (.putfield 72, 3) := by decide +kernel
theorem dX11_init_192 : decode cX11_init 192 = .ok (.aload_n 0, 1) := by decide +kernel
theorem dX11_init_193 : decode cX11_init 193 = .ok (.sipush 301, 3) := by decide +kernel
theorem dX11_init_196 : decode cX11_init 196 = .ok (.newarray .int, 2) := by decide +kernel
theorem dX11_init_198 : decode cX11_init 198 = .ok (.putfield 75, 3) := by decide +kernel
theorem dX11_init_201 : decode cX11_init 201 = .ok (.aload_n 0, 1) := by decide +kernel
theorem dX11_init_202 : decode cX11_init 202 = .ok (.sipush 301, 3) := by decide +kernel
theorem dX11_init_205 : decode cX11_init 205 = .ok (.newarray .int, 2) := by decide +kernel
theorem dX11_init_207 : decode cX11_init 207 = .ok (.putfield 78, 3) := by decide +kernel
theorem dX11_init_210 : decode cX11_init 210 = .ok (.aload_n 0, 1) := by decide +kernel
theorem dX11_init_211 : decode cX11_init 211 = .ok (.sipush 301, 3) := by decide +kernel
theorem dX11_init_214 : decode cX11_init 214 = .ok (.newarray .int, 2) := by decide +kernel
theorem dX11_init_216 : decode cX11_init 216 = .ok (.putfield 81, 3) := by decide +kernel
theorem dX11_init_219 : decode cX11_init 219 = .ok (.aload_n 0, 1) := by decide +kernel
theorem dX11_init_220 : decode cX11_init 220 = .ok (.sipush 301, 3) := by decide +kernel
theorem dX11_init_223 : decode cX11_init 223 = .ok (.newarray .int, 2) := by decide +kernel
theorem dX11_init_225 : decode cX11_init 225 = .ok (.putfield 84, 3) := by decide +kernel
theorem dX11_init_228 : decode cX11_init 228 = .ok (.aload_n 0, 1) := by decide +kernel
theorem dX11_init_229 : decode cX11_init 229 = .ok (.sipush 301, 3) := by decide +kernel
theorem dX11_init_232 : decode cX11_init 232 = .ok (.newarray .int, 2) := by decide +kernel
theorem dX11_init_234 : decode cX11_init 234 = .ok (.putfield 87, 3) := by decide +kernel
theorem dX11_init_237 : decode cX11_init 237 = .ok (.aload_n 0, 1) := by decide +kernel
theorem dX11_init_238 : decode cX11_init 238 = .ok (.sipush 301, 3) := by decide +kernel
theorem dX11_init_241 : decode cX11_init 241 = .ok (.newarray .int, 2) := by decide +kernel
theorem dX11_init_243 : decode cX11_init 243 = .ok (.putfield 90, 3) := by decide +kernel
theorem dX11_init_246 : decode cX11_init 246 = .ok (.aload_n 0, 1) := by decide +kernel
theorem dX11_init_247 : decode cX11_init 247 = .ok (.sipush 18060, 3) := by decide +kernel
theorem dX11_init_250 : decode cX11_init 250 = .ok (.newarray .int, 2) := by decide +kernel
theorem dX11_init_252 : decode cX11_init 252 = .ok (.putfield 93, 3) := by decide +kernel
theorem dX11_init_255 : decode cX11_init 255 = .ok (.aload_n 0, 1) := by decide +kernel
theorem dX11_init_256 : decode cX11_init 256 = .ok (.sipush 18060, 3) := by decide +kernel
theorem dX11_init_259 : decode cX11_init 259 = .ok (.newarray .int, 2) := by decide +kernel
theorem dX11_init_261 : decode cX11_init 261 = .ok (.putfield 96, 3) := by decide +kernel
theorem dX11_init_264 : decode cX11_init 264 = .ok (.aload_n 0, 1) := by decide +kernel
theorem dX11_init_265 : decode cX11_init 265 = .ok (.bipush 101, 2) := by decide +kernel
theorem dX11_init_267 : decode cX11_init 267 = .ok (.newarray .int, 2) := by decide +kernel
theorem dX11_init_269 : decode cX11_init 269 = .ok (.putfield 99, 3) := by decide +kernel
theorem dX11_init_272 : decode cX11_init 272 = .ok (.aload_n 0, 1) := by decide +kernel
theorem dX11_init_273 : decode cX11_init 273 = .ok (.bipush 101, 2) := by decide +kernel
theorem dX11_init_275 : decode cX11_init 275 = .ok (.newarray .int, 2) := by decide +kernel
theorem dX11_init_277 : decode cX11_init 277 = .ok (.putfield 102, 3) := by decide +kernel
theorem dX11_init_280 : decode cX11_init 280 = .ok (.aload_n 0, 1) := by decide +kernel
theorem dX11_init_281 : decode cX11_init 281 = .ok (.bipush 101, 2) := by decide +kernel
theorem dX11_init_283 : decode cX11_init 283 = .ok (.newarray .long, 2) := by decide +kernel
theorem dX11_init_285 : decode cX11_init 285 = .ok (.putfield 105, 3) := by decide +kernel
theorem dX11_init_288 : decode cX11_init 288 = .ok (.aload_n 0, 1) := by decide +kernel
theorem dX11_init_289 : decode cX11_init 289 = .ok (.bipush 101, 2) := by decide +kernel
theorem dX11_init_291 : decode cX11_init 291 = .ok (.newarray .int, 2) := by decide +kernel
theorem dX11_init_293 : decode cX11_init 293 = .ok (.putfield 108, 3) := by decide +kernel
theorem dX11_init_296 : decode cX11_init 296 = .ok (.aload_n 0, 1) := by decide +kernel
theorem dX11_init_297 : decode cX11_init 297 = .ok (.bipush 101, 2) := by decide +kernel
theorem dX11_init_299 : decode cX11_init 299 = .ok (.newarray .int, 2) := by decide +kernel
theorem dX11_init_301 : decode cX11_init 301 = .ok (.putfield 111, 3) := by decide +kernel
theorem dX11_init_304 : decode cX11_init 304 = .ok (.aload_n 0, 1) := by decide +kernel
theorem dX11_init_305 : decode cX11_init 305 = .ok (.bipush 101, 2) := by decide +kernel
theorem dX11_init_307 : decode cX11_init 307 = .ok (.newarray .int, 2) := by decide +kernel
theorem dX11_init_309 : decode cX11_init 309 = .ok (.putfield 114, 3) := by decide +kernel
theorem dX11_init_312 : decode cX11_init 312 = .ok (.aload_n 0, 1) := by decide +kernel
theorem dX11_init_313 : decode cX11_init 313 = .ok (.bipush 101, 2) := by decide +kernel
theorem dX11_init_315 : decode cX11_init 315 = .ok (.newarray .int, 2) := by decide +kernel
theorem dX11_init_317 : decode cX11_init 317 = .ok (.putfield 117, 3) := by decide +kernel
theorem dX11_init_320 : decode cX11_init 320 = .ok (.aload_n 0, 1) := by decide +kernel
theorem dX11_init_321 : decode cX11_init 321 = .ok (.iconst (-1), 1) := by decide +kernel
theorem dX11_init_322 : decode cX11_init 322 = .ok (.putfield 120, 3) := by decide +kernel
theorem dX11_init_325 : decode cX11_init 325 = .ok (.aload_n 0, 1) := by decide +kernel
theorem dX11_init_326 : decode cX11_init 326 = .ok (.sipush 301, 3) := by decide +kernel
theorem dX11_init_329 : decode cX11_init 329 = .ok (.newarray .int, 2) := by decide +kernel
theorem dX11_init_331 : decode cX11_init 331 = .ok (.putfield 124, 3) := by decide +kernel
theorem dX11_init_334 : decode cX11_init 334 = .ok (.aload_n 0, 1) := by decide +kernel
theorem dX11_init_335 : decode cX11_init 335 = .ok (.sipush 301, 3) := by decide +kernel
theorem dX11_init_338 : decode cX11_init 338 = .ok (.newarray .long, 2) := by decide +kernel
theorem dX11_init_340 : decode cX11_init 340 = .ok (.putfield 127, 3) := by decide +kernel
theorem dX11_init_343 : decode cX11_init 343 = .ok (.aload_n 0, 1) := by decide +kernel
theorem dX11_init_344 : decode cX11_init 344 = .ok (.sipush 301, 3) := by decide +kernel
theorem dX11_init_347 : decode cX11_init 347 = .ok (.newarray .int, 2) := by decide +kernel
theorem dX11_init_349 : decode cX11_init 349 = .ok (.putfield 130, 3) := by decide +kernel
theorem dX11_init_352 : decode cX11_init 352 = .ok (.aload_n 0, 1) := by decide +kernel
theorem dX11_init_353 : decode cX11_init 353 = .ok (.sipush 301, 3) := by decide +kernel
theorem dX11_init_356 : decode cX11_init 356 = .ok (.newarray .int, 2) := by decide +kernel
theorem dX11_init_358 : decode cX11_init 358 = .ok (.putfield 133, 3) := by decide +kernel
theorem dX11_init_361 : decode cX11_init 361 = .ok (.aload_n 0, 1) := by decide +kernel
theorem dX11_init_362 : decode cX11_init 362 = .ok (.sipush 602, 3) := by decide +kernel
theorem dX11_init_365 : decode cX11_init 365 = .ok (.newarray .int, 2) := by decide +kernel
theorem dX11_init_367 : decode cX11_init 367 = .ok (.putfield 136, 3) := by decide +kernel
theorem dX11_init_370 : decode cX11_init 370 = .ok (.aload_n 0, 1) := by decide +kernel
theorem dX11_init_371 : decode cX11_init 371 = .ok (.sipush 602, 3) := by decide +kernel
theorem dX11_init_374 : decode cX11_init 374 = .ok (.newarray .boolean, 2) := by decide +kernel
theorem dX11_init_376 : decode cX11_init 376 = .ok (.putfield 139, 3) := by decide +kernel
theorem dX11_init_379 : decode cX11_init 379 = .ok (.aload_n 0, 1) := by decide +kernel
theorem dX11_init_380 : decode cX11_init 380 = .ok (.sipush 301, 3) := by decide +kernel
theorem dX11_init_383 : decode cX11_init 383 = .ok (.newarray .int, 2) := by decide +kernel
theorem dX11_init_385 : decode cX11_init 385 = .ok (.putfield 142, 3) := by decide +kernel
theorem dX11_init_388 : decode cX11_init 388 = .ok (.aload_n 0, 1) := by decide +kernel
theorem dX11_init_389 : decode cX11_init 389 = .ok (.sipush 301, 3) := by decide +kernel
theorem dX11_init_392 : decode cX11_init 392 = .ok (.newarray .int, 2) := by decide +kernel
theorem dX11_init_394 : decode cX11_init 394 = .ok (.putfield 145, 3) := by decide +kernel
theorem dX11_init_397 : decode cX11_init 397 = .ok (.aload_n 0, 1) := by decide +kernel
theorem dX11_init_398 : decode cX11_init 398 = .ok (.sipush 301, 3) := by decide +kernel
theorem dX11_init_401 : decode cX11_init 401 = .ok (.newarray .long, 2) := by decide +kernel
theorem dX11_init_403 : decode cX11_init 403 = .ok (.putfield 148, 3) := by decide +kernel
theorem dX11_init_406 : decode cX11_init 406 = .ok (.aload_n 0, 1) := by decide +kernel
theorem dX11_init_407 : decode cX11_init 407 = .ok (.sipush 301, 3) := by decide +kernel
theorem dX11_init_410 : decode cX11_init 410 = .ok (.newarray .long, 2) := by decide +kernel
theorem dX11_init_412 : decode cX11_init 412 = .ok (.putfield 151, 3) := by decide +kernel
theorem dX11_init_415 : decode cX11_init 415 = .ok (.aload_n 0, 1) := by decide +kernel
theorem dX11_init_416 : decode cX11_init 416 = .ok (.sipush 301, 3) := by decide +kernel
theorem dX11_init_419 : decode cX11_init 419 = .ok (.newarray .boolean, 2) := by decide +kernel
theorem dX11_init_421 : decode cX11_init 421 = .ok (.putfield 154, 3) := by decide +kernel
theorem dX11_init_424 : decode cX11_init 424 = .ok (.aload_n 0, 1) := by decide +kernel
theorem dX11_init_425 : decode cX11_init 425 = .ok (.sipush 301, 3) := by decide +kernel
theorem dX11_init_428 : decode cX11_init 428 = .ok (.newarray .long, 2) := by decide +kernel
theorem dX11_init_430 : decode cX11_init 430 = .ok (.putfield 157, 3) := by decide +kernel
theorem dX11_init_433 : decode cX11_init 433 = .ok (.aload_n 0, 1) := by decide +kernel
theorem dX11_init_434 : decode cX11_init 434 = .ok (.sipush 301, 3) := by decide +kernel
theorem dX11_init_437 : decode cX11_init 437 = .ok (.newarray .long, 2) := by decide +kernel
theorem dX11_init_439 : decode cX11_init 439 = .ok (.putfield 160, 3) := by decide +kernel
theorem dX11_init_442 : decode cX11_init 442 = .ok (.return_, 1) := by decide +kernel
theorem dX11_refuse_0 : decode cX11_refuse 0 = .ok (.aload_n 0, 1) := by decide +kernel
theorem dX11_refuse_1 : decode cX11_refuse 1 = .ok (.iload_n 1, 1) := by decide +kernel
theorem dX11_refuse_2 : decode cX11_refuse 2 = .ok (.putfield 163, 3) := by decide +kernel
theorem dX11_refuse_5 : decode cX11_refuse 5 = .ok (.iconst (-1), 1) := by decide +kernel
theorem dX11_refuse_6 : decode cX11_refuse 6 = .ok (.ireturn, 1) := by decide +kernel
theorem dX11_no_0 : decode cX11_no 0 = .ok (.aload_n 0, 1) := by decide +kernel
theorem dX11_no_1 : decode cX11_no 1 = .ok (.iload_n 1, 1) := by decide +kernel
theorem dX11_no_2 : decode cX11_no 2 = .ok (.putfield 163, 3) := by decide +kernel
theorem dX11_no_5 : decode cX11_no 5 = .ok (.iconst 0, 1) := by decide +kernel
theorem dX11_no_6 : decode cX11_no 6 = .ok (.ireturn, 1) := by decide +kernel
theorem dX11_dateNow_0 : decode cX11_dateNow 0 = .ok (.aload_n 0, 1) := by decide +kernel
theorem dX11_dateNow_1 : decode cX11_dateNow 1 = .ok (.getfield 120, 3) := by decide +kernel
theorem dX11_dateNow_4 : decode cX11_dateNow 4 = .ok (.iconst (-1), 1) := by decide +kernel
theorem dX11_dateNow_5 : decode cX11_dateNow 5 = .ok (.if_icmp .ne 10, 3) := by decide +kernel
theorem dX11_dateNow_8 : decode cX11_dateNow 8 = .ok (.aload_n 0, 1) := by decide +kernel
theorem dX11_dateNow_9 : decode cX11_dateNow 9 = .ok (.getfield 166, 3) := by decide +kernel
theorem dX11_dateNow_12 : decode cX11_dateNow 12 = .ok (.goto 7, 3) := by decide +kernel
theorem dX11_dateNow_15 : decode cX11_dateNow 15 = .ok (.aload_n 0, 1) := by decide +kernel
theorem dX11_dateNow_16 : decode cX11_dateNow 16 = .ok (.getfield 120, 3) := by decide +kernel
theorem dX11_dateNow_19 : decode cX11_dateNow 19 = .ok (.ireturn, 1) := by decide +kernel
theorem dX11_isEntry_0 : decode cX11_isEntry 0 = .ok (.iload_n 1, 1) := by decide +kernel
theorem dX11_isEntry_1 : decode cX11_isEntry 1 = .ok (.iconst 1, 1) := by decide +kernel
theorem dX11_isEntry_2 : decode cX11_isEntry 2 = .ok (.if_icmp .lt 15, 3) := by decide +kernel
theorem dX11_isEntry_5 : decode cX11_isEntry 5 = .ok (.iload_n 1, 1) := by decide +kernel
theorem dX11_isEntry_6 : decode cX11_isEntry 6 = .ok (.aload_n 0, 1) := by decide +kernel
theorem dX11_isEntry_7 : decode cX11_isEntry 7 = .ok (.getfield 169, 3) := by decide +kernel
theorem dX11_isEntry_10 : decode cX11_isEntry 10 = .ok (.if_icmp .gt 7, 3) := by decide +kernel
theorem dX11_isEntry_13 : decode cX11_isEntry 13 = .ok (.iconst 1, 1) := by decide +kernel
theorem dX11_isEntry_14 : decode cX11_isEntry 14 = .ok (.goto 4, 3) := by decide +kernel
theorem dX11_isEntry_17 : decode cX11_isEntry 17 = .ok (.iconst 0, 1) := by decide +kernel
theorem dX11_isEntry_18 : decode cX11_isEntry 18 = .ok (.ireturn, 1) := by decide +kernel
theorem dX11_wrong_0 : decode cX11_wrong 0 = .ok (.iload_n 1, 1) := by decide +kernel
theorem dX11_wrong_1 : decode cX11_wrong 1 = .ok (.ifCond .lt 11, 3) := by decide +kernel
theorem dX11_wrong_4 : decode cX11_wrong 4 = .ok (.iload_n 1, 1) := by decide +kernel
theorem dX11_wrong_5 : decode cX11_wrong 5 = .ok (.aload_n 0, 1) := by decide +kernel
theorem dX11_wrong_6 : decode cX11_wrong 6 = .ok (.getfield 172, 3) := by decide +kernel
theorem dX11_wrong_9 : decode cX11_wrong 9 = .ok (.if_icmp .lt 5, 3) := by decide +kernel
theorem dX11_wrong_12 : decode cX11_wrong 12 = .ok (.iconst 1, 1) := by decide +kernel
theorem dX11_wrong_13 : decode cX11_wrong 13 = .ok (.ireturn, 1) := by decide +kernel
theorem dX11_wrong_14 : decode cX11_wrong 14 = .ok (.iload_n 2, 1) := by decide +kernel
theorem dX11_wrong_15 : decode cX11_wrong 15 = .ok (.ifCond .lt 13, 3) := by decide +kernel
theorem dX11_wrong_18 : decode cX11_wrong 18 = .ok (.iload_n 2, 1) := by decide +kernel
theorem dX11_wrong_19 : decode cX11_wrong 19 = .ok (.aload_n 0, 1) := by decide +kernel
theorem dX11_wrong_20 : decode cX11_wrong 20 = .ok (.getfield 7, 3) := by decide +kernel
theorem dX11_wrong_23 : decode cX11_wrong 23 = .ok (.iload_n 1, 1) := by decide +kernel
theorem dX11_wrong_24 : decode cX11_wrong 24 = .ok (.iaload, 1) := by decide +kernel
theorem dX11_wrong_25 : decode cX11_wrong 25 = .ok (.if_icmp .lt 5, 3) := by decide +kernel
theorem dX11_wrong_28 : decode cX11_wrong 28 = .ok (.iconst 2, 1) := by decide +kernel
theorem dX11_wrong_29 : decode cX11_wrong 29 = .ok (.ireturn, 1) := by decide +kernel
theorem dX11_wrong_30 : decode cX11_wrong 30 = .ok (.aload_n 0, 1) := by decide +kernel
theorem dX11_wrong_31 : decode cX11_wrong 31 = .ok (.getfield 13, 3) := by decide +kernel
theorem dX11_wrong_34 : decode cX11_wrong 34 = .ok (.bipush 60, 2) := by decide +kernel
theorem dX11_wrong_36 : decode cX11_wrong 36 = .ok (.iload_n 1, 1) := by decide +kernel
theorem dX11_wrong_37 : decode cX11_wrong 37 = .ok (.imul, 1) := by decide +kernel
theorem dX11_wrong_38 : decode cX11_wrong 38 = .ok (.iload_n 2, 1) := by decide +kernel
theorem dX11_wrong_39 : decode cX11_wrong 39 = .ok (.iadd, 1) := by decide +kernel
theorem dX11_wrong_40 : decode cX11_wrong 40 = .ok (.baload, 1) := by decide +kernel
theorem dX11_wrong_41 : decode cX11_wrong 41 = .ok (.ifCond .eq 7, 3) := by decide +kernel
theorem dX11_wrong_44 : decode cX11_wrong 44 = .ok (.iconst 3, 1) := by decide +kernel
theorem dX11_wrong_45 : decode cX11_wrong 45 = .ok (.goto 4, 3) := by decide +kernel
theorem dX11_wrong_48 : decode cX11_wrong 48 = .ok (.iconst 0, 1) := by decide +kernel
theorem dX11_wrong_49 : decode cX11_wrong 49 = .ok (.ireturn, 1) := by decide +kernel
theorem dX11_view_0 : decode cX11_view 0 = .ok (.aload_n 0, 1) := by decide +kernel
theorem dX11_view_1 : decode cX11_view 1 = .ok (.iload_n 1, 1) := by decide +kernel
theorem dX11_view_2 : decode cX11_view 2 = .ok (.putfield 175, 3) := by decide +kernel
theorem dX11_view_5 : decode cX11_view 5 = .ok (.aload_n 0, 1) := by decide +kernel
theorem dX11_view_6 : decode cX11_view 6 = .ok (.iload_n 2, 1) := by decide +kernel
theorem dX11_view_7 : decode cX11_view 7 = .ok (.putfield 178, 3) := by decide +kernel
theorem dX11_view_10 : decode cX11_view 10 = .ok (.return_, 1) := by decide +kernel
theorem dX11_now_0 : decode cX11_now 0 = .ok (.aload_n 0, 1) := by decide +kernel
theorem dX11_now_1 : decode cX11_now 1 = .ok (.aload_n 0, 1) := by decide +kernel
theorem dX11_now_2 : decode cX11_now 2 = .ok (.getfield 166, 3) := by decide +kernel
theorem dX11_now_5 : decode cX11_now 5 = .ok (.aload_n 0, 1) := by decide +kernel
theorem dX11_now_6 : decode cX11_now 6 = .ok (.getfield 166, 3) := by decide +kernel
theorem dX11_now_9 : decode cX11_now 9 = .ok (.invokevirtual 181, 3) := by decide +kernel
theorem dX11_now_12 : decode cX11_now 12 = .ok (.return_, 1) := by decide +kernel
theorem dX11_counts_0 : decode cX11_counts 0 = .ok (.iload_n 2, 1) := by decide +kernel
theorem dX11_counts_1 : decode cX11_counts 1 = .ok (.iconst (-1), 1) := by decide +kernel
theorem dX11_counts_2 : decode cX11_counts 2 = .ok (.if_icmp .eq 23, 3) := by decide +kernel
theorem dX11_counts_5 : decode cX11_counts 5 = .ok (.iload_n 1, 1) := by decide +kernel
theorem dX11_counts_6 : decode cX11_counts 6 = .ok (.aload_n 0, 1) := by decide +kernel
theorem dX11_counts_7 : decode cX11_counts 7 = .ok (.getfield 175, 3) := by decide +kernel
theorem dX11_counts_10 : decode cX11_counts 10 = .ok (.if_icmp .gt 15, 3) := by decide +kernel
theorem dX11_counts_13 : decode cX11_counts 13 = .ok (.iload_n 2, 1) := by decide +kernel
theorem dX11_counts_14 : decode cX11_counts 14 = .ok (.aload_n 0, 1) := by decide +kernel
theorem dX11_counts_15 : decode cX11_counts 15 = .ok (.getfield 178, 3) := by decide +kernel
theorem dX11_counts_18 : decode cX11_counts 18 = .ok (.if_icmp .gt 7, 3) := by decide +kernel
theorem dX11_counts_21 : decode cX11_counts 21 = .ok (.iconst 1, 1) := by decide +kernel
theorem dX11_counts_22 : decode cX11_counts 22 = .ok (.goto 4, 3) := by decide +kernel
theorem dX11_counts_25 : decode cX11_counts 25 = .ok (.iconst 0, 1) := by decide +kernel
theorem dX11_counts_26 : decode cX11_counts 26 = .ok (.ireturn, 1) := by decide +kernel
theorem dX11_lives_0 : decode cX11_lives 0 = .ok (.aload_n 0, 1) := by decide +kernel
theorem dX11_lives_1 : decode cX11_lives 1 = .ok (.getfield 23, 3) := by decide +kernel
theorem dX11_lives_4 : decode cX11_lives 4 = .ok (.iload_n 1, 1) := by decide +kernel
theorem dX11_lives_5 : decode cX11_lives 5 = .ok (.iaload, 1) := by decide +kernel
theorem dX11_lives_6 : decode cX11_lives 6 = .ok (.istore_n 2, 1) := by decide +kernel
theorem dX11_lives_7 : decode cX11_lives 7 = .ok (.aload_n 0, 1) := by decide +kernel
theorem dX11_lives_8 : decode cX11_lives 8 = .ok (.aload_n 0, 1) := by decide +kernel
theorem dX11_lives_9 : decode cX11_lives 9 = .ok (.getfield 48, 3) := by decide +kernel
theorem dX11_lives_12 : decode cX11_lives 12 = .ok (.iload_n 2, 1) := by decide +kernel
theorem dX11_lives_13 : decode cX11_lives 13 = .ok (.iaload, 1) := by decide +kernel
theorem dX11_lives_14 : decode cX11_lives 14 = .ok (.aload_n 0, 1) := by decide +kernel
theorem dX11_lives_15 : decode cX11_lives 15 = .ok (.getfield 51, 3) := by decide +kernel
theorem dX11_lives_18 : decode cX11_lives 18 = .ok (.iload_n 2, 1) := by decide +kernel
theorem dX11_lives_19 : decode cX11_lives 19 = .ok (.iaload, 1) := by decide +kernel
theorem dX11_lives_20 : decode cX11_lives 20 = .ok (.invokevirtual 185, 3) := by decide +kernel
theorem dX11_lives_23 : decode cX11_lives 23 = .ok (.ifCond .eq 26, 3) := by decide +kernel
theorem dX11_lives_26 : decode cX11_lives 26 = .ok (.aload_n 0, 1) := by decide +kernel
theorem dX11_lives_27 : decode cX11_lives 27 = .ok (.aload_n 0, 1) := by decide +kernel
theorem dX11_lives_28 : decode cX11_lives 28 = .ok (.getfield 54, 3) := by decide +kernel
theorem dX11_lives_31 : decode cX11_lives 31 = .ok (.iload_n 2, 1) := by decide +kernel
theorem dX11_lives_32 : decode cX11_lives 32 = .ok (.iaload, 1) := by decide +kernel
theorem dX11_lives_33 : decode cX11_lives 33 = .ok (.aload_n 0, 1) := by decide +kernel
theorem dX11_lives_34 : decode cX11_lives 34 = .ok (.getfield 57, 3) := by decide +kernel
theorem dX11_lives_37 : decode cX11_lives 37 = .ok (.iload_n 2, 1) := by decide +kernel
theorem dX11_lives_38 : decode cX11_lives 38 = .ok (.iaload, 1) := by decide +kernel
theorem dX11_lives_39 : decode cX11_lives 39 = .ok (.invokevirtual 185, 3) := by decide +kernel
theorem dX11_lives_42 : decode cX11_lives 42 = .ok (.ifCond .ne 7, 3) := by decide +kernel
theorem dX11_lives_45 : decode cX11_lives 45 = .ok (.iconst 1, 1) := by decide +kernel
theorem dX11_lives_46 : decode cX11_lives 46 = .ok (.goto 4, 3) := by decide +kernel
theorem dX11_lives_49 : decode cX11_lives 49 = .ok (.iconst 0, 1) := by decide +kernel
theorem dX11_lives_50 : decode cX11_lives 50 = .ok (.ireturn, 1) := by decide +kernel
theorem dX11_isOff_0 : decode cX11_isOff 0 = .ok (.iload_n 1, 1) := by decide +kernel
theorem dX11_isOff_1 : decode cX11_isOff 1 = .ok (.istore_n 3, 1) := by decide +kernel
theorem dX11_isOff_2 : decode cX11_isOff 2 = .ok (.iload_n 3, 1) := by decide +kernel
theorem dX11_isOff_3 : decode cX11_isOff 3 = .ok (.ifCond .eq 44, 3) := by decide +kernel
theorem dX11_isOff_6 : decode cX11_isOff 6 = .ok (.aload_n 0, 1) := by decide +kernel
theorem dX11_isOff_7 : decode cX11_isOff 7 = .ok (.aload_n 0, 1) := by decide +kernel
theorem dX11_isOff_8 : decode cX11_isOff 8 = .ok (.getfield 93, 3) := by decide +kernel
theorem dX11_isOff_11 : decode cX11_isOff 11 = .ok (.bipush 60, 2) := by decide +kernel
theorem dX11_isOff_13 : decode cX11_isOff 13 = .ok (.iload_n 3, 1) := by decide +kernel
theorem dX11_isOff_14 : decode cX11_isOff 14 = .ok (.imul, 1) := by decide +kernel
theorem dX11_isOff_15 : decode cX11_isOff 15 = .ok (.iload_n 2, 1) := by decide +kernel
theorem dX11_isOff_16 : decode cX11_isOff 16 = .ok (.iadd, 1) := by decide +kernel
theorem dX11_isOff_17 : decode cX11_isOff 17 = .ok (.iaload, 1) := by decide +kernel
theorem dX11_isOff_18 : decode cX11_isOff 18 = .ok (.aload_n 0, 1) := by decide +kernel
theorem dX11_isOff_19 : decode cX11_isOff 19 = .ok (.getfield 96, 3) := by decide +kernel
theorem dX11_isOff_22 : decode cX11_isOff 22 = .ok (.bipush 60, 2) := by decide +kernel
theorem dX11_isOff_24 : decode cX11_isOff 24 = .ok (.iload_n 3, 1) := by decide +kernel
theorem dX11_isOff_25 : decode cX11_isOff 25 = .ok (.imul, 1) := by decide +kernel
theorem dX11_isOff_26 : decode cX11_isOff 26 = .ok (.iload_n 2, 1) := by decide +kernel
theorem dX11_isOff_27 : decode cX11_isOff 27 = .ok (.iadd, 1) := by decide +kernel
theorem dX11_isOff_28 : decode cX11_isOff 28 = .ok (.iaload, 1) := by decide +kernel
theorem dX11_isOff_29 : decode cX11_isOff 29 = .ok (.invokevirtual 185, 3) := by decide +kernel
theorem dX11_isOff_32 : decode cX11_isOff 32 = .ok (.ifCond .eq 5, 3) := by decide +kernel
theorem dX11_isOff_35 : decode cX11_isOff 35 = .ok (.iconst 1, 1) := by decide +kernel
theorem dX11_isOff_36 : decode cX11_isOff 36 = .ok (.ireturn, 1) := by decide +kernel
theorem dX11_isOff_37 : decode cX11_isOff 37 = .ok (.aload_n 0, 1) := by decide +kernel
theorem dX11_isOff_38 : decode cX11_isOff 38 = .ok (.getfield 26, 3) := by decide +kernel
theorem dX11_isOff_41 : decode cX11_isOff 41 = .ok (.iload_n 3, 1) := by decide +kernel
theorem dX11_isOff_42 : decode cX11_isOff 42 = .ok (.iaload, 1) := by decide +kernel
theorem dX11_isOff_43 : decode cX11_isOff 43 = .ok (.istore_n 3, 1) := by decide +kernel
theorem dX11_isOff_44 : decode cX11_isOff 44 = .ok (.goto (-42), 3) := by decide +kernel
theorem dX11_isOff_47 : decode cX11_isOff 47 = .ok (.iconst 0, 1) := by decide +kernel
theorem dX11_isOff_48 : decode cX11_isOff 48 = .ok (.ireturn, 1) := by decide +kernel
theorem dX11_hasLeafOn_0 : decode cX11_hasLeafOn 0 = .ok (.aload_n 0, 1) := by decide +kernel
theorem dX11_hasLeafOn_1 : decode cX11_hasLeafOn 1 = .ok (.getfield 36, 3) := by decide +kernel
theorem dX11_hasLeafOn_4 : decode cX11_hasLeafOn 4 = .ok (.iload_n 1, 1) := by decide +kernel
theorem dX11_hasLeafOn_5 : decode cX11_hasLeafOn 5 = .ok (.iaload, 1) := by decide +kernel
theorem dX11_hasLeafOn_6 : decode cX11_hasLeafOn 6 = .ok (.ifCond .ne 18, 3) := by decide +kernel
theorem dX11_hasLeafOn_9 : decode cX11_hasLeafOn 9 = .ok (.aload_n 0, 1) := by decide +kernel
theorem dX11_hasLeafOn_10 : decode cX11_hasLeafOn 10 = .ok (.iload_n 1, 1) := by decide +kernel
theorem dX11_hasLeafOn_11 : decode cX11_hasLeafOn 11 = .ok (.iload_n 2, 1) := by decide +kernel
theorem dX11_hasLeafOn_12 : decode cX11_hasLeafOn 12 = .ok (.invokevirtual 189, 3) := by decide +kernel
theorem dX11_hasLeafOn_15 : decode cX11_hasLeafOn 15 = .ok (.ifCond .ne 7, 3) := by decide +kernel
theorem dX11_hasLeafOn_18 : decode cX11_hasLeafOn 18 = .ok (.iconst 1, 1) := by decide +kernel
theorem dX11_hasLeafOn_19 : decode cX11_hasLeafOn 19 = .ok (.goto 4, 3) := by decide +kernel
theorem dX11_hasLeafOn_22 : decode cX11_hasLeafOn 22 = .ok (.iconst 0, 1) := by decide +kernel
theorem dX11_hasLeafOn_23 : decode cX11_hasLeafOn 23 = .ok (.ireturn, 1) := by decide +kernel
theorem dX11_hasLeafOn_24 : decode cX11_hasLeafOn 24 = .ok (.aload_n 0, 1) := by decide +kernel
theorem dX11_hasLeafOn_25 : decode cX11_hasLeafOn 25 = .ok (.aload_n 0, 1) := by decide +kernel
theorem dX11_hasLeafOn_26 : decode cX11_hasLeafOn 26 = .ok (.getfield 36, 3) := by decide +kernel
theorem dX11_hasLeafOn_29 : decode cX11_hasLeafOn 29 = .ok (.iload_n 1, 1) := by decide +kernel
theorem dX11_hasLeafOn_30 : decode cX11_hasLeafOn 30 = .ok (.iaload, 1) := by decide +kernel
theorem dX11_hasLeafOn_31 : decode cX11_hasLeafOn 31 = .ok (.iload_n 2, 1) := by decide +kernel
theorem dX11_hasLeafOn_32 : decode cX11_hasLeafOn 32 = .ok (.invokevirtual 192, 3) := by decide +kernel
theorem dX11_hasLeafOn_35 : decode cX11_hasLeafOn 35 = .ok (.ifCond .ne 19, 3) := by decide +kernel
theorem dX11_hasLeafOn_38 : decode cX11_hasLeafOn 38 = .ok (.aload_n 0, 1) := by decide +kernel
theorem dX11_hasLeafOn_39 : decode cX11_hasLeafOn 39 = .ok (.aload_n 0, 1) := by decide +kernel
theorem dX11_hasLeafOn_40 : decode cX11_hasLeafOn 40 = .ok (.getfield 36, 3) := by decide +kernel
theorem dX11_hasLeafOn_43 : decode cX11_hasLeafOn 43 = .ok (.iload_n 1, 1) := by decide +kernel
theorem dX11_hasLeafOn_44 : decode cX11_hasLeafOn 44 = .ok (.iaload, 1) := by decide +kernel
theorem dX11_hasLeafOn_45 : decode cX11_hasLeafOn 45 = .ok (.iconst 1, 1) := by decide +kernel
theorem dX11_hasLeafOn_46 : decode cX11_hasLeafOn 46 = .ok (.iadd, 1) := by decide +kernel
theorem dX11_hasLeafOn_47 : decode cX11_hasLeafOn 47 = .ok (.iload_n 2, 1) := by decide +kernel
theorem dX11_hasLeafOn_48 : decode cX11_hasLeafOn 48 = .ok (.invokevirtual 192, 3) := by decide +kernel
theorem dX11_hasLeafOn_51 : decode cX11_hasLeafOn 51 = .ok (.ifCond .eq 7, 3) := by decide +kernel
theorem dX11_hasLeafOn_54 : decode cX11_hasLeafOn 54 = .ok (.iconst 1, 1) := by decide +kernel
theorem dX11_hasLeafOn_55 : decode cX11_hasLeafOn 55 = .ok (.goto 4, 3) := by decide +kernel
theorem dX11_hasLeafOn_58 : decode cX11_hasLeafOn 58 = .ok (.iconst 0, 1) := by decide +kernel
theorem dX11_hasLeafOn_59 : decode cX11_hasLeafOn 59 = .ok (.ireturn, 1) := by decide +kernel
theorem dX11_lies_0 : decode cX11_lies 0 = .ok (.aload_n 0, 1) := by decide +kernel
theorem dX11_lies_1 : decode cX11_lies 1 = .ok (.getfield 23, 3) := by decide +kernel
theorem dX11_lies_4 : decode cX11_lies 4 = .ok (.iload_n 1, 1) := by decide +kernel
theorem dX11_lies_5 : decode cX11_lies 5 = .ok (.iaload, 1) := by decide +kernel
theorem dX11_lies_6 : decode cX11_lies 6 = .ok (.istore_n 3, 1) := by decide +kernel
theorem dX11_lies_7 : decode cX11_lies 7 = .ok (.aload_n 0, 1) := by decide +kernel
theorem dX11_lies_8 : decode cX11_lies 8 = .ok (.getfield 20, 3) := by decide +kernel
theorem dX11_lies_11 : decode cX11_lies 11 = .ok (.iload_n 1, 1) := by decide +kernel
theorem dX11_lies_12 : decode cX11_lies 12 = .ok (.iaload, 1) := by decide +kernel
theorem dX11_lies_13 : decode cX11_lies 13 = .ok (.istore 4, 2) := by decide +kernel
theorem dX11_lies_15 : decode cX11_lies 15 = .ok (.aload_n 0, 1) := by decide +kernel
theorem dX11_lies_16 : decode cX11_lies 16 = .ok (.getfield 39, 3) := by decide +kernel
theorem dX11_lies_19 : decode cX11_lies 19 = .ok (.iload_n 3, 1) := by decide +kernel
theorem dX11_lies_20 : decode cX11_lies 20 = .ok (.laload, 1) := by decide +kernel
theorem dX11_lies_21 : decode cX11_lies 21 = .ok (.iload_n 2, 1) := by decide +kernel
theorem dX11_lies_22 : decode cX11_lies 22 = .ok (.lshr, 1) := by decide +kernel
theorem dX11_lies_23 : decode cX11_lies 23 = .ok (.lconst 1, 1) := by decide +kernel
theorem dX11_lies_24 : decode cX11_lies 24 = .ok (.land, 1) := by decide +kernel
theorem dX11_lies_25 : decode cX11_lies 25 = .ok (.lconst 0, 1) := by decide +kernel
theorem dX11_lies_26 : decode cX11_lies 26 = .ok (.lcmp, 1) := by decide +kernel
theorem dX11_lies_27 : decode cX11_lies 27 = .ok (.ifCond .eq 18, 3) := by decide +kernel
theorem dX11_lies_30 : decode cX11_lies 30 = .ok (.aload_n 0, 1) := by decide +kernel
theorem dX11_lies_31 : decode cX11_lies 31 = .ok (.getfield 13, 3) := by decide +kernel
theorem dX11_lies_34 : decode cX11_lies 34 = .ok (.bipush 60, 2) := by decide +kernel
theorem dX11_lies_36 : decode cX11_lies 36 = .ok (.iload 4, 2) := by decide +kernel
theorem dX11_lies_38 : decode cX11_lies 38 = .ok (.imul, 1) := by decide +kernel
theorem dX11_lies_39 : decode cX11_lies 39 = .ok (.iload_n 2, 1) := by decide +kernel
theorem dX11_lies_40 : decode cX11_lies 40 = .ok (.iadd, 1) := by decide +kernel
theorem dX11_lies_41 : decode cX11_lies 41 = .ok (.baload, 1) := by decide +kernel
theorem dX11_lies_42 : decode cX11_lies 42 = .ok (.ifCond .eq 5, 3) := by decide +kernel
theorem dX11_lies_45 : decode cX11_lies 45 = .ok (.iconst 0, 1) := by decide +kernel
theorem dX11_lies_46 : decode cX11_lies 46 = .ok (.ireturn, 1) := by decide +kernel
theorem dX11_lies_47 : decode cX11_lies 47 = .ok (.aload_n 0, 1) := by decide +kernel
theorem dX11_lies_48 : decode cX11_lies 48 = .ok (.iload_n 1, 1) := by decide +kernel
theorem dX11_lies_49 : decode cX11_lies 49 = .ok (.invokevirtual 195, 3) := by decide +kernel
theorem dX11_lies_52 : decode cX11_lies 52 = .ok (.ifCond .eq 16, 3) := by decide +kernel
theorem dX11_lies_55 : decode cX11_lies 55 = .ok (.aload_n 0, 1) := by decide +kernel
theorem dX11_lies_56 : decode cX11_lies 56 = .ok (.iload_n 1, 1) := by decide +kernel
theorem dX11_lies_57 : decode cX11_lies 57 = .ok (.iload_n 2, 1) := by decide +kernel
theorem dX11_lies_58 : decode cX11_lies 58 = .ok (.invokevirtual 192, 3) := by decide +kernel
theorem dX11_lies_61 : decode cX11_lies 61 = .ok (.ifCond .eq 7, 3) := by decide +kernel
theorem dX11_lies_64 : decode cX11_lies 64 = .ok (.iconst 1, 1) := by decide +kernel
theorem dX11_lies_65 : decode cX11_lies 65 = .ok (.goto 4, 3) := by decide +kernel
theorem dX11_lies_68 : decode cX11_lies 68 = .ok (.iconst 0, 1) := by decide +kernel
theorem dX11_lies_69 : decode cX11_lies 69 = .ok (.ireturn, 1) := by decide +kernel
theorem dX11_gather_0 : decode cX11_gather 0 = .ok (.aload_n 0, 1) := by decide +kernel
theorem dX11_gather_1 : decode cX11_gather 1 = .ok (.getfield 36, 3) := by decide +kernel
theorem dX11_gather_4 : decode cX11_gather 4 = .ok (.iload_n 1, 1) := by decide +kernel
theorem dX11_gather_5 : decode cX11_gather 5 = .ok (.iaload, 1) := by decide +kernel
theorem dX11_gather_6 : decode cX11_gather 6 = .ok (.ifCond .ne 24, 3) := by decide +kernel
theorem dX11_gather_9 : decode cX11_gather 9 = .ok (.aload_n 0, 1) := by decide +kernel
theorem dX11_gather_10 : decode cX11_gather 10 = .ok (.getfield 124, 3) := by decide +kernel
theorem dX11_gather_13 : decode cX11_gather 13 = .ok (.aload_n 0, 1) := by decide +kernel
theorem dX11_gather_14 : decode cX11_gather 14 = .ok (.getfield 199, 3) := by decide +kernel
theorem dX11_gather_17 : decode cX11_gather 17 = .ok (.iload_n 1, 1) := by decide +kernel
theorem dX11_gather_18 : decode cX11_gather 18 = .ok (.iastore, 1) := by decide +kernel
theorem dX11_gather_19 : decode cX11_gather 19 = .ok (.aload_n 0, 1) := by decide +kernel
theorem dX11_gather_20 : decode cX11_gather 20 = .ok (.dup, 1) := by decide +kernel
theorem dX11_gather_21 : decode cX11_gather 21 = .ok (.getfield 199, 3) := by decide +kernel
theorem dX11_gather_24 : decode cX11_gather 24 = .ok (.iconst 1, 1) := by decide +kernel
theorem dX11_gather_25 : decode cX11_gather 25 = .ok (.iadd, 1) := by decide +kernel
theorem dX11_gather_26 : decode cX11_gather 26 = .ok (.putfield 199, 3) := by decide +kernel
theorem dX11_gather_29 : decode cX11_gather 29 = .ok (.return_, 1) := by decide +kernel
theorem dX11_gather_30 : decode cX11_gather 30 = .ok (.aload_n 0, 1) := by decide +kernel
theorem dX11_gather_31 : decode cX11_gather 31 = .ok (.aload_n 0, 1) := by decide +kernel
theorem dX11_gather_32 : decode cX11_gather 32 = .ok (.getfield 36, 3) := by decide +kernel
theorem dX11_gather_35 : decode cX11_gather 35 = .ok (.iload_n 1, 1) := by decide +kernel
theorem dX11_gather_36 : decode cX11_gather 36 = .ok (.iaload, 1) := by decide +kernel
theorem dX11_gather_37 : decode cX11_gather 37 = .ok (.invokevirtual 202, 3) := by decide +kernel
theorem dX11_gather_40 : decode cX11_gather 40 = .ok (.aload_n 0, 1) := by decide +kernel
theorem dX11_gather_41 : decode cX11_gather 41 = .ok (.aload_n 0, 1) := by decide +kernel
theorem dX11_gather_42 : decode cX11_gather 42 = .ok (.getfield 36, 3) := by decide +kernel
theorem dX11_gather_45 : decode cX11_gather 45 = .ok (.iload_n 1, 1) := by decide +kernel
theorem dX11_gather_46 : decode cX11_gather 46 = .ok (.iaload, 1) := by decide +kernel
theorem dX11_gather_47 : decode cX11_gather 47 = .ok (.iconst 1, 1) := by decide +kernel
theorem dX11_gather_48 : decode cX11_gather 48 = .ok (.iadd, 1) := by decide +kernel
theorem dX11_gather_49 : decode cX11_gather 49 = .ok (.invokevirtual 202, 3) := by decide +kernel
theorem dX11_gather_52 : decode cX11_gather 52 = .ok (.return_, 1) := by decide +kernel
theorem dX11_leavesOf_0 : decode cX11_leavesOf 0 = .ok (.aload_n 0, 1) := by decide +kernel
theorem dX11_leavesOf_1 : decode cX11_leavesOf 1 = .ok (.iconst 0, 1) := by decide +kernel
theorem dX11_leavesOf_2 : decode cX11_leavesOf 2 = .ok (.putfield 199, 3) := by decide +kernel
theorem dX11_leavesOf_5 : decode cX11_leavesOf 5 = .ok (.aload_n 0, 1) := by decide +kernel
theorem dX11_leavesOf_6 : decode cX11_leavesOf 6 = .ok (.iload_n 1, 1) := by decide +kernel
theorem dX11_leavesOf_7 : decode cX11_leavesOf 7 = .ok (.invokevirtual 202, 3) := by decide +kernel
theorem dX11_leavesOf_10 : decode cX11_leavesOf 10 = .ok (.return_, 1) := by decide +kernel
theorem dX11_sumBelow_0 : decode cX11_sumBelow 0 = .ok (.aload_n 0, 1) := by decide +kernel
theorem dX11_sumBelow_1 : decode cX11_sumBelow 1 = .ok (.iload_n 1, 1) := by decide +kernel
theorem dX11_sumBelow_2 : decode cX11_sumBelow 2 = .ok (.invokevirtual 206, 3) := by decide +kernel
theorem dX11_sumBelow_5 : decode cX11_sumBelow 5 = .ok (.lconst 0, 1) := by decide +kernel
theorem dX11_sumBelow_6 : decode cX11_sumBelow 6 = .ok (.lstore_n 2, 1) := by decide +kernel
theorem dX11_sumBelow_7 : decode cX11_sumBelow 7 = .ok (.iconst 0, 1) := by decide +kernel
theorem dX11_sumBelow_8 : decode cX11_sumBelow 8 = .ok (.istore 4, 2) := by decide +kernel
theorem dX11_sumBelow_10 : decode cX11_sumBelow 10 = .ok (.iload 4, 2) := by decide +kernel
theorem dX11_sumBelow_12 : decode cX11_sumBelow 12 = .ok (.aload_n 0, 1) := by decide +kernel
theorem dX11_sumBelow_13 : decode cX11_sumBelow 13 = .ok (.getfield 199, 3) := by decide +kernel
theorem dX11_sumBelow_16 : decode cX11_sumBelow 16 = .ok (.if_icmp .ge 24, 3) := by decide +kernel
theorem dX11_sumBelow_19 : decode cX11_sumBelow 19 = .ok (.lload_n 2, 1) := by decide +kernel
theorem dX11_sumBelow_20 : decode cX11_sumBelow 20 = .ok (.aload_n 0, 1) := by decide +kernel
theorem dX11_sumBelow_21 : decode cX11_sumBelow 21 = .ok (.getfield 32, 3) := by decide +kernel
theorem dX11_sumBelow_24 : decode cX11_sumBelow 24 = .ok (.aload_n 0, 1) := by decide +kernel
theorem dX11_sumBelow_25 : decode cX11_sumBelow 25 = .ok (.getfield 124, 3) := by decide +kernel
theorem dX11_sumBelow_28 : decode cX11_sumBelow 28 = .ok (.iload 4, 2) := by decide +kernel
theorem dX11_sumBelow_30 : decode cX11_sumBelow 30 = .ok (.iaload, 1) := by decide +kernel
theorem dX11_sumBelow_31 : decode cX11_sumBelow 31 = .ok (.laload, 1) := by decide +kernel
theorem dX11_sumBelow_32 : decode cX11_sumBelow 32 = .ok (.ladd, 1) := by decide +kernel
theorem dX11_sumBelow_33 : decode cX11_sumBelow 33 = .ok (.lstore_n 2, 1) := by decide +kernel
theorem dX11_sumBelow_34 : decode cX11_sumBelow 34 = .ok (.iinc 4 1, 3) := by decide +kernel
theorem dX11_sumBelow_37 : decode cX11_sumBelow 37 = .ok (.goto (-27), 3) := by decide +kernel
theorem dX11_sumBelow_40 : decode cX11_sumBelow 40 = .ok (.lload_n 2, 1) := by decide +kernel
theorem dX11_sumBelow_41 : decode cX11_sumBelow 41 = .ok (.lreturn, 1) := by decide +kernel
theorem dX11_dueOfSum_0 : decode cX11_dueOfSum 0 = .ok (.aload_n 0, 1) := by decide +kernel
theorem dX11_dueOfSum_1 : decode cX11_dueOfSum 1 = .ok (.getfield 17, 3) := by decide +kernel
theorem dX11_dueOfSum_4 : decode cX11_dueOfSum 4 = .ok (.iload_n 1, 1) := by decide +kernel
theorem dX11_dueOfSum_5 : decode cX11_dueOfSum 5 = .ok (.iaload, 1) := by decide +kernel
theorem dX11_dueOfSum_6 : decode cX11_dueOfSum 6 = .ok (.istore 4, 2) := by decide +kernel
theorem dX11_dueOfSum_8 : decode cX11_dueOfSum 8 = .ok (.iload 4, 2) := by decide +kernel
theorem dX11_dueOfSum_10 : decode cX11_dueOfSum 10 = .ok (.bipush 6, 2) := by decide +kernel
theorem dX11_dueOfSum_12 : decode cX11_dueOfSum 12 = .ok (.if_icmp .ne 5, 3) := by decide +kernel
theorem dX11_dueOfSum_15 : decode cX11_dueOfSum 15 = .ok (.lconst 0, 1) := by decide +kernel
theorem dX11_dueOfSum_16 : decode cX11_dueOfSum 16 = .ok (.lreturn, 1) := by decide +kernel
theorem dX11_dueOfSum_17 : decode cX11_dueOfSum 17 = .ok (.iload 4, 2) := by decide +kernel
theorem dX11_dueOfSum_19 : decode cX11_dueOfSum 19 = .ok (.iconst 4, 1) := by decide +kernel
theorem dX11_dueOfSum_20 : decode cX11_dueOfSum 20 = .ok (.if_icmp .ne 75, 3) := by decide +kernel
theorem dX11_dueOfSum_23 : decode cX11_dueOfSum 23 = .ok (.aload_n 0, 1) := by decide +kernel
theorem dX11_dueOfSum_24 : decode cX11_dueOfSum 24 = .ok (.getfield 42, 3) := by decide +kernel
theorem dX11_dueOfSum_27 : decode cX11_dueOfSum 27 = .ok (.iload_n 1, 1) := by decide +kernel
theorem dX11_dueOfSum_28 : decode cX11_dueOfSum 28 = .ok (.iaload, 1) := by decide +kernel
theorem dX11_dueOfSum_29 : decode cX11_dueOfSum 29 = .ok (.ifCond .ne 8, 3) := by decide +kernel
theorem dX11_dueOfSum_32 : decode cX11_dueOfSum 32 = .ok (.bipush 20, 2) := by decide +kernel
theorem dX11_dueOfSum_34 : decode cX11_dueOfSum 34 = .ok (.goto 35, 3) := by decide +kernel
theorem dX11_dueOfSum_37 : decode cX11_dueOfSum 37 = .ok (.aload_n 0, 1) := by decide +kernel
theorem dX11_dueOfSum_38 : decode cX11_dueOfSum 38 = .ok (.getfield 42, 3) := by decide +kernel
theorem dX11_dueOfSum_41 : decode cX11_dueOfSum 41 = .ok (.iload_n 1, 1) := by decide +kernel
theorem dX11_dueOfSum_42 : decode cX11_dueOfSum 42 = .ok (.iaload, 1) := by decide +kernel
theorem dX11_dueOfSum_43 : decode cX11_dueOfSum 43 = .ok (.aload_n 0, 1) := by decide +kernel
theorem dX11_dueOfSum_44 : decode cX11_dueOfSum 44 = .ok (.getfield 166, 3) := by decide +kernel
theorem dX11_dueOfSum_47 : decode cX11_dueOfSum 47 = .ok (.if_icmp .gt 7, 3) := by decide +kernel
theorem dX11_dueOfSum_50 : decode cX11_dueOfSum 50 = .ok (.iconst 0, 1) := by decide +kernel
theorem dX11_dueOfSum_51 : decode cX11_dueOfSum 51 = .ok (.goto 18, 3) := by decide +kernel
theorem dX11_dueOfSum_54 : decode cX11_dueOfSum 54 = .ok (.aload_n 0, 1) := by decide +kernel
theorem dX11_dueOfSum_55 : decode cX11_dueOfSum 55 = .ok (.getfield 42, 3) := by decide +kernel
theorem dX11_dueOfSum_58 : decode cX11_dueOfSum 58 = .ok (.iload_n 1, 1) := by decide +kernel
theorem dX11_dueOfSum_59 : decode cX11_dueOfSum 59 = .ok (.iaload, 1) := by decide +kernel
theorem dX11_dueOfSum_60 : decode cX11_dueOfSum 60 = .ok (.aload_n 0, 1) := by decide +kernel
theorem dX11_dueOfSum_61 : decode cX11_dueOfSum 61 = .ok (.getfield 166, 3) := by decide +kernel
theorem dX11_dueOfSum_64 : decode cX11_dueOfSum 64 = .ok (.isub, 1) := by decide +kernel
theorem dX11_dueOfSum_65 : decode cX11_dueOfSum 65 = .ok (.sipush 365, 3) := by decide +kernel
theorem dX11_dueOfSum_68 : decode cX11_dueOfSum 68 = .ok (.idiv, 1) := by decide +kernel
theorem dX11_dueOfSum_69 : decode cX11_dueOfSum 69 = .ok (.istore 5, 2) := by decide +kernel
theorem dX11_dueOfSum_71 : decode cX11_dueOfSum 71 = .ok (.aload_n 0, 1) := by decide +kernel
theorem dX11_dueOfSum_72 : decode cX11_dueOfSum 72 = .ok (.getfield 63, 3) := by decide +kernel
theorem dX11_dueOfSum_75 : decode cX11_dueOfSum 75 = .ok (.iload_n 1, 1) := by decide +kernel
theorem dX11_dueOfSum_76 : decode cX11_dueOfSum 76 = .ok (.baload, 1) := by decide +kernel
theorem dX11_dueOfSum_77 : decode cX11_dueOfSum 77 = .ok (.ifCond .eq 7, 3) := by decide +kernel
theorem dX11_dueOfSum_80 : decode cX11_dueOfSum 80 = .ok (.lload_n 2, 1) := by decide +kernel
theorem dX11_dueOfSum_81 : decode cX11_dueOfSum 81 = .ok (.goto 13, 3) := by decide +kernel
theorem dX11_dueOfSum_84 : decode cX11_dueOfSum 84 = .ok (.lload_n 2, 1) := by decide +kernel
theorem dX11_dueOfSum_85 : decode cX11_dueOfSum 85 = .ok (.bipush 20, 2) := by decide +kernel
theorem dX11_dueOfSum_87 : decode cX11_dueOfSum 87 = .ok (.iload 5, 2) := by decide +kernel
theorem dX11_dueOfSum_89 : decode cX11_dueOfSum 89 = .ok (.invokestatic 209, 3) := by decide +kernel
theorem dX11_dueOfSum_92 : decode cX11_dueOfSum 92 = .ok (.i2l, 1) := by decide +kernel
theorem dX11_dueOfSum_93 : decode cX11_dueOfSum 93 = .ok (.lmul, 1) := by decide +kernel
theorem dX11_dueOfSum_94 : decode cX11_dueOfSum 94 = .ok (.lreturn, 1) := by decide +kernel
theorem dX11_dueOfSum_95 : decode cX11_dueOfSum 95 = .ok (.iload 4, 2) := by decide +kernel
theorem dX11_dueOfSum_97 : decode cX11_dueOfSum 97 = .ok (.iconst 5, 1) := by decide +kernel
theorem dX11_dueOfSum_98 : decode cX11_dueOfSum 98 = .ok (.if_icmp .ne 16, 3) := by decide +kernel
theorem dX11_dueOfSum_101 : decode cX11_dueOfSum 101 = .ok (.sipush 365, 3) := by decide +kernel
theorem dX11_dueOfSum_104 : decode cX11_dueOfSum 104 = .ok (.aload_n 0, 1) := by decide +kernel
theorem dX11_dueOfSum_105 : decode cX11_dueOfSum 105 = .ok (.getfield 72, 3) := by decide +kernel
theorem dX11_dueOfSum_108 : decode cX11_dueOfSum 108 = .ok (.iload_n 1, 1) := by decide +kernel
theorem dX11_dueOfSum_109 : decode cX11_dueOfSum 109 = .ok (.iaload, 1) := by decide +kernel
theorem dX11_dueOfSum_110 : decode cX11_dueOfSum 110 = .ok (.imul, 1) := by decide +kernel
theorem dX11_dueOfSum_111 : decode cX11_dueOfSum 111 = .ok (.goto 6, 3) := by decide +kernel
theorem dX11_dueOfSum_114 : decode cX11_dueOfSum 114 = .ok (.sipush 730, 3) := by decide +kernel
theorem dX11_dueOfSum_117 : decode cX11_dueOfSum 117 = .ok (.istore 5, 2) := by decide +kernel
theorem dX11_dueOfSum_119 : decode cX11_dueOfSum 119 = .ok (.iload 5, 2) := by decide +kernel
theorem dX11_dueOfSum_121 : decode cX11_dueOfSum 121 = .ok (.aload_n 0, 1) := by decide +kernel
theorem dX11_dueOfSum_122 : decode cX11_dueOfSum 122 = .ok (.getfield 166, 3) := by decide +kernel
theorem dX11_dueOfSum_125 : decode cX11_dueOfSum 125 = .ok (.aload_n 0, 1) := by decide +kernel
theorem dX11_dueOfSum_126 : decode cX11_dueOfSum 126 = .ok (.getfield 60, 3) := by decide +kernel
theorem dX11_dueOfSum_129 : decode cX11_dueOfSum 129 = .ok (.iload_n 1, 1) := by decide +kernel
theorem dX11_dueOfSum_130 : decode cX11_dueOfSum 130 = .ok (.iaload, 1) := by decide +kernel
theorem dX11_dueOfSum_131 : decode cX11_dueOfSum 131 = .ok (.isub, 1) := by decide +kernel
theorem dX11_dueOfSum_132 : decode cX11_dueOfSum 132 = .ok (.invokestatic 209, 3) := by decide +kernel
theorem dX11_dueOfSum_135 : decode cX11_dueOfSum 135 = .ok (.i2l, 1) := by decide +kernel
theorem dX11_dueOfSum_136 : decode cX11_dueOfSum 136 = .ok (.lstore 6, 2) := by decide +kernel
theorem dX11_dueOfSum_138 : decode cX11_dueOfSum 138 = .ok (.lload_n 2, 1) := by decide +kernel
theorem dX11_dueOfSum_139 : decode cX11_dueOfSum 139 = .ok (.lload_n 2, 1) := by decide +kernel
theorem dX11_dueOfSum_140 : decode cX11_dueOfSum 140 = .ok (.aload_n 0, 1) := by decide +kernel
theorem dX11_dueOfSum_141 : decode cX11_dueOfSum 141 = .ok (.getfield 42, 3) := by decide +kernel
theorem dX11_dueOfSum_144 : decode cX11_dueOfSum 144 = .ok (.iload_n 1, 1) := by decide +kernel
theorem dX11_dueOfSum_145 : decode cX11_dueOfSum 145 = .ok (.iaload, 1) := by decide +kernel
theorem dX11_dueOfSum_146 : decode cX11_dueOfSum 146 = .ok (.i2l, 1) := by decide +kernel
theorem dX11_dueOfSum_147 : decode cX11_dueOfSum 147 = .ok (.lmul, 1) := by decide +kernel
theorem dX11_dueOfSum_148 : decode cX11_dueOfSum 148 = .ok (.lload 6, 2) := by decide +kernel
theorem dX11_dueOfSum_150 : decode cX11_dueOfSum 150 = .ok (.lmul, 1) := by decide +kernel
theorem dX11_dueOfSum_151 : decode cX11_dueOfSum 151 = .ok (.ldc2_w 215, 3) := by decide +kernel
theorem dX11_dueOfSum_154 : decode cX11_dueOfSum 154 = .ok (.ldiv, 1) := by decide +kernel
theorem dX11_dueOfSum_155 : decode cX11_dueOfSum 155 = .ok (.ladd, 1) := by decide +kernel
theorem dX11_dueOfSum_156 : decode cX11_dueOfSum 156 = .ok (.lstore 8, 2) := by decide +kernel
theorem dX11_dueOfSum_158 : decode cX11_dueOfSum 158 = .ok (.iload 4, 2) := by decide +kernel
theorem dX11_dueOfSum_160 : decode cX11_dueOfSum 160 = .ok (.iconst 3, 1) := by decide +kernel
theorem dX11_dueOfSum_161 : decode cX11_dueOfSum 161 = .ok (.if_icmp .ne 17, 3) := by decide +kernel
theorem dX11_dueOfSum_164 : decode cX11_dueOfSum 164 = .ok (.aload_n 0, 1) := by decide +kernel
theorem dX11_dueOfSum_165 : decode cX11_dueOfSum 165 = .ok (.getfield 45, 3) := by decide +kernel
theorem dX11_dueOfSum_168 : decode cX11_dueOfSum 168 = .ok (.iload_n 1, 1) := by decide +kernel
theorem dX11_dueOfSum_169 : decode cX11_dueOfSum 169 = .ok (.laload, 1) := by decide +kernel
theorem dX11_dueOfSum_170 : decode cX11_dueOfSum 170 = .ok (.lload 8, 2) := by decide +kernel
theorem dX11_dueOfSum_172 : decode cX11_dueOfSum 172 = .ok (.invokestatic 217, 3) := by decide +kernel
theorem dX11_dueOfSum_175 : decode cX11_dueOfSum 175 = .ok (.goto 5, 3) := by decide +kernel
theorem dX11_dueOfSum_178 : decode cX11_dueOfSum 178 = .ok (.lload 8, 2) := by decide +kernel
theorem dX11_dueOfSum_180 : decode cX11_dueOfSum 180 = .ok (.lreturn, 1) := by decide +kernel
theorem dX11_dues_0 : decode cX11_dues 0 = .ok (.aload_n 0, 1) := by decide +kernel
theorem dX11_dues_1 : decode cX11_dues 1 = .ok (.iload_n 1, 1) := by decide +kernel
theorem dX11_dues_2 : decode cX11_dues 2 = .ok (.invokevirtual 206, 3) := by decide +kernel
theorem dX11_dues_5 : decode cX11_dues 5 = .ok (.lconst 0, 1) := by decide +kernel
theorem dX11_dues_6 : decode cX11_dues 6 = .ok (.lstore_n 2, 1) := by decide +kernel
theorem dX11_dues_7 : decode cX11_dues 7 = .ok (.lconst 0, 1) := by decide +kernel
theorem dX11_dues_8 : decode cX11_dues 8 = .ok (.lstore 4, 2) := by decide +kernel
theorem dX11_dues_10 : decode cX11_dues 10 = .ok (.iconst 0, 1) := by decide +kernel
theorem dX11_dues_11 : decode cX11_dues 11 = .ok (.istore 6, 2) := by decide +kernel
theorem dX11_dues_13 : decode cX11_dues 13 = .ok (.iload 6, 2) := by decide +kernel
theorem dX11_dues_15 : decode cX11_dues 15 = .ok (.aload_n 0, 1) := by decide +kernel
theorem dX11_dues_16 : decode cX11_dues 16 = .ok (.getfield 199, 3) := by decide +kernel
theorem dX11_dues_19 : decode cX11_dues 19 = .ok (.if_icmp .ge 53, 3) := by decide +kernel
theorem dX11_dues_22 : decode cX11_dues 22 = .ok (.lload_n 2, 1) := by decide +kernel
theorem dX11_dues_23 : decode cX11_dues 23 = .ok (.aload_n 0, 1) := by decide +kernel
theorem dX11_dues_24 : decode cX11_dues 24 = .ok (.getfield 32, 3) := by decide +kernel
theorem dX11_dues_27 : decode cX11_dues 27 = .ok (.aload_n 0, 1) := by decide +kernel
theorem dX11_dues_28 : decode cX11_dues 28 = .ok (.getfield 124, 3) := by decide +kernel
theorem dX11_dues_31 : decode cX11_dues 31 = .ok (.iload 6, 2) := by decide +kernel
theorem dX11_dues_33 : decode cX11_dues 33 = .ok (.iaload, 1) := by decide +kernel
theorem dX11_dues_34 : decode cX11_dues 34 = .ok (.laload, 1) := by decide +kernel
theorem dX11_dues_35 : decode cX11_dues 35 = .ok (.ladd, 1) := by decide +kernel
theorem dX11_dues_36 : decode cX11_dues 36 = .ok (.lstore_n 2, 1) := by decide +kernel
theorem dX11_dues_37 : decode cX11_dues 37 = .ok (.aload_n 0, 1) := by decide +kernel
theorem dX11_dues_38 : decode cX11_dues 38 = .ok (.iload_n 1, 1) := by decide +kernel
theorem dX11_dues_39 : decode cX11_dues 39 = .ok (.lload_n 2, 1) := by decide +kernel
theorem dX11_dues_40 : decode cX11_dues 40 = .ok (.invokevirtual 220, 3) := by decide +kernel
theorem dX11_dues_43 : decode cX11_dues 43 = .ok (.lstore 7, 2) := by decide +kernel
theorem dX11_dues_45 : decode cX11_dues 45 = .ok (.aload_n 0, 1) := by decide +kernel
theorem dX11_dues_46 : decode cX11_dues 46 = .ok (.getfield 127, 3) := by decide +kernel
theorem dX11_dues_49 : decode cX11_dues 49 = .ok (.aload_n 0, 1) := by decide +kernel
theorem dX11_dues_50 : decode cX11_dues 50 = .ok (.getfield 124, 3) := by decide +kernel
theorem dX11_dues_53 : decode cX11_dues 53 = .ok (.iload 6, 2) := by decide +kernel
theorem dX11_dues_55 : decode cX11_dues 55 = .ok (.iaload, 1) := by decide +kernel
theorem dX11_dues_56 : decode cX11_dues 56 = .ok (.lload 7, 2) := by decide +kernel
theorem dX11_dues_58 : decode cX11_dues 58 = .ok (.lload 4, 2) := by decide +kernel
theorem dX11_dues_60 : decode cX11_dues 60 = .ok (.lsub, 1) := by decide +kernel
theorem dX11_dues_61 : decode cX11_dues 61 = .ok (.lastore, 1) := by decide +kernel
theorem dX11_dues_62 : decode cX11_dues 62 = .ok (.lload 7, 2) := by decide +kernel
theorem dX11_dues_64 : decode cX11_dues 64 = .ok (.lstore 4, 2) := by decide +kernel
theorem dX11_dues_66 : decode cX11_dues 66 = .ok (.iinc 6 1, 3) := by decide +kernel
theorem dX11_dues_69 : decode cX11_dues 69 = .ok (.goto (-56), 3) := by decide +kernel
theorem dX11_dues_72 : decode cX11_dues 72 = .ok (.return_, 1) := by decide +kernel
theorem dX11_due_0 : decode cX11_due 0 = .ok (.aload_n 0, 1) := by decide +kernel
theorem dX11_due_1 : decode cX11_due 1 = .ok (.iload_n 1, 1) := by decide +kernel
theorem dX11_due_2 : decode cX11_due 2 = .ok (.invokevirtual 224, 3) := by decide +kernel
theorem dX11_due_5 : decode cX11_due 5 = .ok (.ifCond .ne 7, 3) := by decide +kernel
theorem dX11_due_8 : decode cX11_due 8 = .ok (.ldc2_w 227, 3) := by decide +kernel
theorem dX11_due_11 : decode cX11_due 11 = .ok (.lreturn, 1) := by decide +kernel
theorem dX11_due_12 : decode cX11_due 12 = .ok (.aload_n 0, 1) := by decide +kernel
theorem dX11_due_13 : decode cX11_due 13 = .ok (.aload_n 0, 1) := by decide +kernel
theorem dX11_due_14 : decode cX11_due 14 = .ok (.getfield 23, 3) := by decide +kernel
theorem dX11_due_17 : decode cX11_due 17 = .ok (.iload_n 1, 1) := by decide +kernel
theorem dX11_due_18 : decode cX11_due 18 = .ok (.iaload, 1) := by decide +kernel
theorem dX11_due_19 : decode cX11_due 19 = .ok (.invokevirtual 229, 3) := by decide +kernel
theorem dX11_due_22 : decode cX11_due 22 = .ok (.aload_n 0, 1) := by decide +kernel
theorem dX11_due_23 : decode cX11_due 23 = .ok (.iload_n 1, 1) := by decide +kernel
theorem dX11_due_24 : decode cX11_due 24 = .ok (.invokevirtual 206, 3) := by decide +kernel
theorem dX11_due_27 : decode cX11_due 27 = .ok (.lconst 0, 1) := by decide +kernel
theorem dX11_due_28 : decode cX11_due 28 = .ok (.lstore_n 2, 1) := by decide +kernel
theorem dX11_due_29 : decode cX11_due 29 = .ok (.iconst 0, 1) := by decide +kernel
theorem dX11_due_30 : decode cX11_due 30 = .ok (.istore 4, 2) := by decide +kernel
theorem dX11_due_32 : decode cX11_due 32 = .ok (.iload 4, 2) := by decide +kernel
theorem dX11_due_34 : decode cX11_due 34 = .ok (.aload_n 0, 1) := by decide +kernel
theorem dX11_due_35 : decode cX11_due 35 = .ok (.getfield 199, 3) := by decide +kernel
theorem dX11_due_38 : decode cX11_due 38 = .ok (.if_icmp .ge 24, 3) := by decide +kernel
theorem dX11_due_41 : decode cX11_due 41 = .ok (.lload_n 2, 1) := by decide +kernel
theorem dX11_due_42 : decode cX11_due 42 = .ok (.aload_n 0, 1) := by decide +kernel
theorem dX11_due_43 : decode cX11_due 43 = .ok (.getfield 127, 3) := by decide +kernel
theorem dX11_due_46 : decode cX11_due 46 = .ok (.aload_n 0, 1) := by decide +kernel
theorem dX11_due_47 : decode cX11_due 47 = .ok (.getfield 124, 3) := by decide +kernel
theorem dX11_due_50 : decode cX11_due 50 = .ok (.iload 4, 2) := by decide +kernel
theorem dX11_due_52 : decode cX11_due 52 = .ok (.iaload, 1) := by decide +kernel
theorem dX11_due_53 : decode cX11_due 53 = .ok (.laload, 1) := by decide +kernel
theorem dX11_due_54 : decode cX11_due 54 = .ok (.ladd, 1) := by decide +kernel
theorem dX11_due_55 : decode cX11_due 55 = .ok (.lstore_n 2, 1) := by decide +kernel
theorem dX11_due_56 : decode cX11_due 56 = .ok (.iinc 4 1, 3) := by decide +kernel
theorem dX11_due_59 : decode cX11_due 59 = .ok (.goto (-27), 3) := by decide +kernel
theorem dX11_due_62 : decode cX11_due 62 = .ok (.lload_n 2, 1) := by decide +kernel
theorem dX11_due_63 : decode cX11_due 63 = .ok (.lreturn, 1) := by decide +kernel
theorem dX11_folio_0 : decode cX11_folio 0 = .ok (.iload_n 1, 1) := by decide +kernel
theorem dX11_folio_1 : decode cX11_folio 1 = .ok (.iconst 1, 1) := by decide +kernel
theorem dX11_folio_2 : decode cX11_folio 2 = .ok (.if_icmp .lt 9, 3) := by decide +kernel
theorem dX11_folio_5 : decode cX11_folio 5 = .ok (.iload_n 1, 1) := by decide +kernel
theorem dX11_folio_6 : decode cX11_folio 6 = .ok (.bipush 60, 2) := by decide +kernel
theorem dX11_folio_8 : decode cX11_folio 8 = .ok (.if_icmp .le 9, 3) := by decide +kernel
theorem dX11_folio_11 : decode cX11_folio 11 = .ok (.aload_n 0, 1) := by decide +kernel
theorem dX11_folio_12 : decode cX11_folio 12 = .ok (.iconst 5, 1) := by decide +kernel
theorem dX11_folio_13 : decode cX11_folio 13 = .ok (.invokevirtual 231, 3) := by decide +kernel
theorem dX11_folio_16 : decode cX11_folio 16 = .ok (.ireturn, 1) := by decide +kernel
theorem dX11_folio_17 : decode cX11_folio 17 = .ok (.aload_n 0, 1) := by decide +kernel
theorem dX11_folio_18 : decode cX11_folio 18 = .ok (.getfield 172, 3) := by decide +kernel
theorem dX11_folio_21 : decode cX11_folio 21 = .ok (.bipush 40, 2) := by decide +kernel
theorem dX11_folio_23 : decode cX11_folio 23 = .ok (.if_icmp .ne 10, 3) := by decide +kernel
theorem dX11_folio_26 : decode cX11_folio 26 = .ok (.aload_n 0, 1) := by decide +kernel
theorem dX11_folio_27 : decode cX11_folio 27 = .ok (.bipush 10, 2) := by decide +kernel
theorem dX11_folio_29 : decode cX11_folio 29 = .ok (.invokevirtual 231, 3) := by decide +kernel
theorem dX11_folio_32 : decode cX11_folio 32 = .ok (.ireturn, 1) := by decide +kernel
theorem dX11_folio_33 : decode cX11_folio 33 = .ok (.aload_n 0, 1) := by decide +kernel
theorem dX11_folio_34 : decode cX11_folio 34 = .ok (.getfield 7, 3) := by decide +kernel
theorem dX11_folio_37 : decode cX11_folio 37 = .ok (.aload_n 0, 1) := by decide +kernel
theorem dX11_folio_38 : decode cX11_folio 38 = .ok (.getfield 172, 3) := by decide +kernel
theorem dX11_folio_41 : decode cX11_folio 41 = .ok (.iload_n 1, 1) := by decide +kernel
theorem dX11_folio_42 : decode cX11_folio 42 = .ok (.iastore, 1) := by decide +kernel
theorem dX11_folio_43 : decode cX11_folio 43 = .ok (.aload_n 0, 1) := by decide +kernel
theorem dX11_folio_44 : decode cX11_folio 44 = .ok (.dup, 1) := by decide +kernel
theorem dX11_folio_45 : decode cX11_folio 45 = .ok (.getfield 172, 3) := by decide +kernel
theorem dX11_folio_48 : decode cX11_folio 48 = .ok (.iconst 1, 1) := by decide +kernel
theorem dX11_folio_49 : decode cX11_folio 49 = .ok (.iadd, 1) := by decide +kernel
theorem dX11_folio_50 : decode cX11_folio 50 = .ok (.putfield 172, 3) := by decide +kernel
theorem dX11_folio_53 : decode cX11_folio 53 = .ok (.aload_n 0, 1) := by decide +kernel
theorem dX11_folio_54 : decode cX11_folio 54 = .ok (.iconst 0, 1) := by decide +kernel
theorem dX11_folio_55 : decode cX11_folio 55 = .ok (.putfield 163, 3) := by decide +kernel
theorem dX11_folio_58 : decode cX11_folio 58 = .ok (.aload_n 0, 1) := by decide +kernel
theorem dX11_folio_59 : decode cX11_folio 59 = .ok (.getfield 172, 3) := by decide +kernel
theorem dX11_folio_62 : decode cX11_folio 62 = .ok (.iconst 1, 1) := by decide +kernel
theorem dX11_folio_63 : decode cX11_folio 63 = .ok (.isub, 1) := by decide +kernel
theorem dX11_folio_64 : decode cX11_folio 64 = .ok (.ireturn, 1) := by decide +kernel
theorem dX11_tear_0 : decode cX11_tear 0 = .ok (.aload_n 0, 1) := by decide +kernel
theorem dX11_tear_1 : decode cX11_tear 1 = .ok (.iload_n 1, 1) := by decide +kernel
theorem dX11_tear_2 : decode cX11_tear 2 = .ok (.iload_n 2, 1) := by decide +kernel
theorem dX11_tear_3 : decode cX11_tear 3 = .ok (.invokevirtual 235, 3) := by decide +kernel
theorem dX11_tear_6 : decode cX11_tear 6 = .ok (.istore_n 3, 1) := by decide +kernel
theorem dX11_tear_7 : decode cX11_tear 7 = .ok (.iload_n 3, 1) := by decide +kernel
theorem dX11_tear_8 : decode cX11_tear 8 = .ok (.ifCond .le 9, 3) := by decide +kernel
theorem dX11_tear_11 : decode cX11_tear 11 = .ok (.aload_n 0, 1) := by decide +kernel
theorem dX11_tear_12 : decode cX11_tear 12 = .ok (.iload_n 3, 1) := by decide +kernel
theorem dX11_tear_13 : decode cX11_tear 13 = .ok (.invokevirtual 238, 3) := by decide +kernel
theorem dX11_tear_16 : decode cX11_tear 16 = .ok (.ireturn, 1) := by decide +kernel
theorem dX11_tear_17 : decode cX11_tear 17 = .ok (.aload_n 0, 1) := by decide +kernel
theorem dX11_tear_18 : decode cX11_tear 18 = .ok (.getfield 13, 3) := by decide +kernel
theorem dX11_tear_21 : decode cX11_tear 21 = .ok (.bipush 60, 2) := by decide +kernel
theorem dX11_tear_23 : decode cX11_tear 23 = .ok (.iload_n 1, 1) := by decide +kernel
theorem dX11_tear_24 : decode cX11_tear 24 = .ok (.imul, 1) := by decide +kernel
theorem dX11_tear_25 : decode cX11_tear 25 = .ok (.iload_n 2, 1) := by decide +kernel
theorem dX11_tear_26 : decode cX11_tear 26 = .ok (.iadd, 1) := by decide +kernel
theorem dX11_tear_27 : decode cX11_tear 27 = .ok (.iconst 1, 1) := by decide +kernel
theorem dX11_tear_28 : decode cX11_tear 28 = .ok (.bastore, 1) := by decide +kernel
theorem dX11_tear_29 : decode cX11_tear 29 = .ok (.aload_n 0, 1) := by decide +kernel
theorem dX11_tear_30 : decode cX11_tear 30 = .ok (.iconst 0, 1) := by decide +kernel
theorem dX11_tear_31 : decode cX11_tear 31 = .ok (.putfield 163, 3) := by decide +kernel
theorem dX11_tear_34 : decode cX11_tear 34 = .ok (.iconst 1, 1) := by decide +kernel
theorem dX11_tear_35 : decode cX11_tear 35 = .ok (.ireturn, 1) := by decide +kernel
theorem dX11_day_0 : decode cX11_day 0 = .ok (.iload_n 1, 1) := by decide +kernel
theorem dX11_day_1 : decode cX11_day 1 = .ok (.ldc 241, 2) := by decide +kernel
theorem dX11_day_3 : decode cX11_day 3 = .ok (.if_icmp .le 9, 3) := by decide +kernel
theorem dX11_day_6 : decode cX11_day 6 = .ok (.aload_n 0, 1) := by decide +kernel
theorem dX11_day_7 : decode cX11_day 7 = .ok (.iconst 5, 1) := by decide +kernel
theorem dX11_day_8 : decode cX11_day 8 = .ok (.invokevirtual 238, 3) := by decide +kernel
theorem dX11_day_11 : decode cX11_day 11 = .ok (.ireturn, 1) := by decide +kernel
theorem dX11_day_12 : decode cX11_day 12 = .ok (.iload_n 1, 1) := by decide +kernel
theorem dX11_day_13 : decode cX11_day 13 = .ok (.aload_n 0, 1) := by decide +kernel
theorem dX11_day_14 : decode cX11_day 14 = .ok (.getfield 166, 3) := by decide +kernel
theorem dX11_day_17 : decode cX11_day 17 = .ok (.if_icmp .ge 10, 3) := by decide +kernel
theorem dX11_day_20 : decode cX11_day 20 = .ok (.aload_n 0, 1) := by decide +kernel
theorem dX11_day_21 : decode cX11_day 21 = .ok (.bipush 8, 2) := by decide +kernel
theorem dX11_day_23 : decode cX11_day 23 = .ok (.invokevirtual 238, 3) := by decide +kernel
theorem dX11_day_26 : decode cX11_day 26 = .ok (.ireturn, 1) := by decide +kernel
theorem dX11_day_27 : decode cX11_day 27 = .ok (.aload_n 0, 1) := by decide +kernel
theorem dX11_day_28 : decode cX11_day 28 = .ok (.iload_n 1, 1) := by decide +kernel
theorem dX11_day_29 : decode cX11_day 29 = .ok (.putfield 166, 3) := by decide +kernel
theorem dX11_day_32 : decode cX11_day 32 = .ok (.aload_n 0, 1) := by decide +kernel
theorem dX11_day_33 : decode cX11_day 33 = .ok (.iconst (-1), 1) := by decide +kernel
theorem dX11_day_34 : decode cX11_day 34 = .ok (.putfield 120, 3) := by decide +kernel
theorem dX11_day_37 : decode cX11_day 37 = .ok (.aload_n 0, 1) := by decide +kernel
theorem dX11_day_38 : decode cX11_day 38 = .ok (.iconst 0, 1) := by decide +kernel
theorem dX11_day_39 : decode cX11_day 39 = .ok (.putfield 163, 3) := by decide +kernel
theorem dX11_day_42 : decode cX11_day 42 = .ok (.iconst 1, 1) := by decide +kernel
theorem dX11_day_43 : decode cX11_day 43 = .ok (.ireturn, 1) := by decide +kernel
theorem dX11_since_0 : decode cX11_since 0 = .ok (.iload_n 1, 1) := by decide +kernel
theorem dX11_since_1 : decode cX11_since 1 = .ok (.ifCond .lt 11, 3) := by decide +kernel
theorem dX11_since_4 : decode cX11_since 4 = .ok (.iload_n 1, 1) := by decide +kernel
theorem dX11_since_5 : decode cX11_since 5 = .ok (.aload_n 0, 1) := by decide +kernel
theorem dX11_since_6 : decode cX11_since 6 = .ok (.getfield 166, 3) := by decide +kernel
theorem dX11_since_9 : decode cX11_since 9 = .ok (.if_icmp .le 9, 3) := by decide +kernel
theorem dX11_since_12 : decode cX11_since 12 = .ok (.aload_n 0, 1) := by decide +kernel
theorem dX11_since_13 : decode cX11_since 13 = .ok (.iconst 5, 1) := by decide +kernel
theorem dX11_since_14 : decode cX11_since 14 = .ok (.invokevirtual 238, 3) := by decide +kernel
theorem dX11_since_17 : decode cX11_since 17 = .ok (.ireturn, 1) := by decide +kernel
theorem dX11_since_18 : decode cX11_since 18 = .ok (.aload_n 0, 1) := by decide +kernel
theorem dX11_since_19 : decode cX11_since 19 = .ok (.iload_n 1, 1) := by decide +kernel
theorem dX11_since_20 : decode cX11_since 20 = .ok (.putfield 120, 3) := by decide +kernel
theorem dX11_since_23 : decode cX11_since 23 = .ok (.aload_n 0, 1) := by decide +kernel
theorem dX11_since_24 : decode cX11_since 24 = .ok (.iconst 0, 1) := by decide +kernel
theorem dX11_since_25 : decode cX11_since 25 = .ok (.putfield 163, 3) := by decide +kernel
theorem dX11_since_28 : decode cX11_since 28 = .ok (.iconst 1, 1) := by decide +kernel
theorem dX11_since_29 : decode cX11_since 29 = .ok (.ireturn, 1) := by decide +kernel
theorem dX11_make_0 : decode cX11_make 0 = .ok (.aload_n 0, 1) := by decide +kernel
theorem dX11_make_1 : decode cX11_make 1 = .ok (.dup, 1) := by decide +kernel
theorem dX11_make_2 : decode cX11_make 2 = .ok (.getfield 169, 3) := by decide +kernel
theorem dX11_make_5 : decode cX11_make 5 = .ok (.iconst 1, 1) := by decide +kernel
theorem dX11_make_6 : decode cX11_make 6 = .ok (.iadd, 1) := by decide +kernel
theorem dX11_make_7 : decode cX11_make 7 = .ok (.putfield 169, 3) := by decide +kernel
theorem dX11_make_10 : decode cX11_make 10 = .ok (.aload_n 0, 1) := by decide +kernel
theorem dX11_make_11 : decode cX11_make 11 = .ok (.getfield 169, 3) := by decide +kernel
theorem dX11_make_14 : decode cX11_make 14 = .ok (.istore 8, 2) := by decide +kernel
theorem dX11_make_16 : decode cX11_make 16 = .ok (.aload_n 0, 1) := by decide +kernel
theorem dX11_make_17 : decode cX11_make 17 = .ok (.getfield 17, 3) := by decide +kernel
theorem dX11_make_20 : decode cX11_make 20 = .ok (.iload 8, 2) := by decide +kernel
theorem dX11_make_22 : decode cX11_make 22 = .ok (.iload_n 2, 1) := by decide +kernel
theorem dX11_make_23 : decode cX11_make 23 = .ok (.iastore, 1) := by decide +kernel
theorem dX11_make_24 : decode cX11_make 24 = .ok (.aload_n 0, 1) := by decide +kernel
theorem dX11_make_25 : decode cX11_make 25 = .ok (.getfield 20, 3) := by decide +kernel
theorem dX11_make_28 : decode cX11_make 28 = .ok (.iload 8, 2) := by decide +kernel
theorem dX11_make_30 : decode cX11_make 30 = .ok (.iload_n 1, 1) := by decide +kernel
theorem dX11_make_31 : decode cX11_make 31 = .ok (.iastore, 1) := by decide +kernel
theorem dX11_make_32 : decode cX11_make 32 = .ok (.aload_n 0, 1) := by decide +kernel
theorem dX11_make_33 : decode cX11_make 33 = .ok (.getfield 23, 3) := by decide +kernel
theorem dX11_make_36 : decode cX11_make 36 = .ok (.iload 8, 2) := by decide +kernel
theorem dX11_make_38 : decode cX11_make 38 = .ok (.iload_n 3, 1) := by decide +kernel
theorem dX11_make_39 : decode cX11_make 39 = .ok (.ifCond .ne 8, 3) := by decide +kernel
theorem dX11_make_42 : decode cX11_make 42 = .ok (.iload 8, 2) := by decide +kernel
theorem dX11_make_44 : decode cX11_make 44 = .ok (.goto 4, 3) := by decide +kernel
theorem dX11_make_47 : decode cX11_make 47 = .ok (.iload_n 3, 1) := by decide +kernel
theorem dX11_make_48 : decode cX11_make 48 = .ok (.iastore, 1) := by decide +kernel
theorem dX11_make_49 : decode cX11_make 49 = .ok (.aload_n 0, 1) := by decide +kernel
theorem dX11_make_50 : decode cX11_make 50 = .ok (.getfield 26, 3) := by decide +kernel
theorem dX11_make_53 : decode cX11_make 53 = .ok (.iload 8, 2) := by decide +kernel
theorem dX11_make_55 : decode cX11_make 55 = .ok (.iload 4, 2) := by decide +kernel
theorem dX11_make_57 : decode cX11_make 57 = .ok (.iastore, 1) := by decide +kernel
theorem dX11_make_58 : decode cX11_make 58 = .ok (.aload_n 0, 1) := by decide +kernel
theorem dX11_make_59 : decode cX11_make 59 = .ok (.getfield 29, 3) := by decide +kernel
theorem dX11_make_62 : decode cX11_make 62 = .ok (.iload 8, 2) := by decide +kernel
theorem dX11_make_64 : decode cX11_make 64 = .ok (.iload 5, 2) := by decide +kernel
theorem dX11_make_66 : decode cX11_make 66 = .ok (.iastore, 1) := by decide +kernel
theorem dX11_make_67 : decode cX11_make 67 = .ok (.aload_n 0, 1) := by decide +kernel
theorem dX11_make_68 : decode cX11_make 68 = .ok (.getfield 32, 3) := by decide +kernel
theorem dX11_make_71 : decode cX11_make 71 = .ok (.iload 8, 2) := by decide +kernel
theorem dX11_make_73 : decode cX11_make 73 = .ok (.lload 6, 2) := by decide +kernel
theorem dX11_make_75 : decode cX11_make 75 = .ok (.lastore, 1) := by decide +kernel
theorem dX11_make_76 : decode cX11_make 76 = .ok (.aload_n 0, 1) := by decide +kernel
theorem dX11_make_77 : decode cX11_make 77 = .ok (.getfield 36, 3) := by decide +kernel
theorem dX11_make_80 : decode cX11_make 80 = .ok (.iload 8, 2) := by decide +kernel
theorem dX11_make_82 : decode cX11_make 82 = .ok (.iconst 0, 1) := by decide +kernel
theorem dX11_make_83 : decode cX11_make 83 = .ok (.iastore, 1) := by decide +kernel
theorem dX11_make_84 : decode cX11_make 84 = .ok (.aload_n 0, 1) := by decide +kernel
theorem dX11_make_85 : decode cX11_make 85 = .ok (.getfield 57, 3) := by decide +kernel
theorem dX11_make_88 : decode cX11_make 88 = .ok (.iload 8, 2) := by decide +kernel
theorem dX11_make_90 : decode cX11_make 90 = .ok (.iconst (-1), 1) := by decide +kernel
theorem dX11_make_91 : decode cX11_make 91 = .ok (.iastore, 1) := by decide +kernel
theorem dX11_make_92 : decode cX11_make 92 = .ok (.aload_n 0, 1) := by decide +kernel
theorem dX11_make_93 : decode cX11_make 93 = .ok (.getfield 78, 3) := by decide +kernel
theorem dX11_make_96 : decode cX11_make 96 = .ok (.iload 8, 2) := by decide +kernel
theorem dX11_make_98 : decode cX11_make 98 = .ok (.iconst (-1), 1) := by decide +kernel
theorem dX11_make_99 : decode cX11_make 99 = .ok (.iastore, 1) := by decide +kernel
theorem dX11_make_100 : decode cX11_make 100 = .ok (.aload_n 0, 1) := by decide +kernel
theorem dX11_make_101 : decode cX11_make 101 = .ok (.getfield 90, 3) := by decide +kernel
theorem dX11_make_104 : decode cX11_make 104 = .ok (.iload 8, 2) := by decide +kernel
theorem dX11_make_106 : decode cX11_make 106 = .ok (.iconst (-1), 1) := by decide +kernel
theorem dX11_make_107 : decode cX11_make 107 = .ok (.iastore, 1) := by decide +kernel
theorem dX11_make_108 : decode cX11_make 108 = .ok (.iconst 0, 1) := by decide +kernel
theorem dX11_make_109 : decode cX11_make 109 = .ok (.istore 9, 2) := by decide +kernel
theorem dX11_make_111 : decode cX11_make 111 = .ok (.iload 9, 2) := by decide +kernel
theorem dX11_make_113 : decode cX11_make 113 = .ok (.bipush 60, 2) := by decide +kernel
theorem dX11_make_115 : decode cX11_make 115 = .ok (.if_icmp .ge 23, 3) := by decide +kernel
theorem dX11_make_118 : decode cX11_make 118 = .ok (.aload_n 0, 1) := by decide +kernel
theorem dX11_make_119 : decode cX11_make 119 = .ok (.getfield 96, 3) := by decide +kernel
theorem dX11_make_122 : decode cX11_make 122 = .ok (.bipush 60, 2) := by decide +kernel
theorem dX11_make_124 : decode cX11_make 124 = .ok (.iload 8, 2) := by decide +kernel
theorem dX11_make_126 : decode cX11_make 126 = .ok (.imul, 1) := by decide +kernel
theorem dX11_make_127 : decode cX11_make 127 = .ok (.iload 9, 2) := by decide +kernel
theorem dX11_make_129 : decode cX11_make 129 = .ok (.iadd, 1) := by decide +kernel
theorem dX11_make_130 : decode cX11_make 130 = .ok (.iconst (-1), 1) := by decide +kernel
theorem dX11_make_131 : decode cX11_make 131 = .ok (.iastore, 1) := by decide +kernel
theorem dX11_make_132 : decode cX11_make 132 = .ok (.iinc 9 1, 3) := by decide +kernel
theorem dX11_make_135 : decode cX11_make 135 = .ok (.goto (-24), 3) := by decide +kernel
theorem dX11_make_138 : decode cX11_make 138 = .ok (.iload 8, 2) := by decide +kernel
theorem dX11_make_140 : decode cX11_make 140 = .ok (.ireturn, 1) := by decide +kernel
theorem dX11_wrongBits_0 : decode cX11_wrongBits 0 = .ok (.lload_n 2, 1) := by decide +kernel
theorem dX11_wrongBits_1 : decode cX11_wrongBits 1 = .ok (.lconst 0, 1) := by decide +kernel
theorem dX11_wrongBits_2 : decode cX11_wrongBits 2 = .ok (.lcmp, 1) := by decide +kernel
theorem dX11_wrongBits_3 : decode cX11_wrongBits 3 = .ok (.ifCond .eq 16, 3) := by decide +kernel
theorem dX11_wrongBits_6 : decode cX11_wrongBits 6 = .ok (.lload_n 2, 1) := by decide +kernel
theorem dX11_wrongBits_7 : decode cX11_wrongBits 7 = .ok (.aload_n 0, 1) := by decide +kernel
theorem dX11_wrongBits_8 : decode cX11_wrongBits 8 = .ok (.getfield 7, 3) := by decide +kernel
theorem dX11_wrongBits_11 : decode cX11_wrongBits 11 = .ok (.iload_n 1, 1) := by decide +kernel
theorem dX11_wrongBits_12 : decode cX11_wrongBits 12 = .ok (.iaload, 1) := by decide +kernel
theorem dX11_wrongBits_13 : decode cX11_wrongBits 13 = .ok (.lshr, 1) := by decide +kernel
theorem dX11_wrongBits_14 : decode cX11_wrongBits 14 = .ok (.lconst 0, 1) := by decide +kernel
theorem dX11_wrongBits_15 : decode cX11_wrongBits 15 = .ok (.lcmp, 1) := by decide +kernel
theorem dX11_wrongBits_16 : decode cX11_wrongBits 16 = .ok (.ifCond .eq 5, 3) := by decide +kernel
theorem dX11_wrongBits_19 : decode cX11_wrongBits 19 = .ok (.iconst 2, 1) := by decide +kernel
theorem dX11_wrongBits_20 : decode cX11_wrongBits 20 = .ok (.ireturn, 1) := by decide +kernel
theorem dX11_wrongBits_21 : decode cX11_wrongBits 21 = .ok (.iconst 0, 1) := by decide +kernel
theorem dX11_wrongBits_22 : decode cX11_wrongBits 22 = .ok (.istore 4, 2) := by decide +kernel
theorem dX11_wrongBits_24 : decode cX11_wrongBits 24 = .ok (.iload 4, 2) := by decide +kernel
theorem dX11_wrongBits_26 : decode cX11_wrongBits 26 = .ok (.aload_n 0, 1) := by decide +kernel
theorem dX11_wrongBits_27 : decode cX11_wrongBits 27 = .ok (.getfield 7, 3) := by decide +kernel
theorem dX11_wrongBits_30 : decode cX11_wrongBits 30 = .ok (.iload_n 1, 1) := by decide +kernel
theorem dX11_wrongBits_31 : decode cX11_wrongBits 31 = .ok (.iaload, 1) := by decide +kernel
theorem dX11_wrongBits_32 : decode cX11_wrongBits 32 = .ok (.if_icmp .ge 37, 3) := by decide +kernel
theorem dX11_wrongBits_35 : decode cX11_wrongBits 35 = .ok (.lload_n 2, 1) := by decide +kernel
theorem dX11_wrongBits_36 : decode cX11_wrongBits 36 = .ok (.iload 4, 2) := by decide +kernel
theorem dX11_wrongBits_38 : decode cX11_wrongBits 38 = .ok (.lshr, 1) := by decide +kernel
theorem dX11_wrongBits_39 : decode cX11_wrongBits 39 = .ok (.lconst 1, 1) := by decide +kernel
theorem dX11_wrongBits_40 : decode cX11_wrongBits 40 = .ok (.land, 1) := by decide +kernel
theorem dX11_wrongBits_41 : decode cX11_wrongBits 41 = .ok (.lconst 1, 1) := by decide +kernel
theorem dX11_wrongBits_42 : decode cX11_wrongBits 42 = .ok (.lcmp, 1) := by decide +kernel
theorem dX11_wrongBits_43 : decode cX11_wrongBits 43 = .ok (.ifCond .ne 20, 3) := by decide +kernel
theorem dX11_wrongBits_46 : decode cX11_wrongBits 46 = .ok (.aload_n 0, 1) := by decide +kernel
theorem dX11_wrongBits_47 : decode cX11_wrongBits 47 = .ok (.getfield 13, 3) := by decide +kernel
theorem dX11_wrongBits_50 : decode cX11_wrongBits 50 = .ok (.bipush 60, 2) := by decide +kernel
theorem dX11_wrongBits_52 : decode cX11_wrongBits 52 = .ok (.iload_n 1, 1) := by decide +kernel
theorem dX11_wrongBits_53 : decode cX11_wrongBits 53 = .ok (.imul, 1) := by decide +kernel
theorem dX11_wrongBits_54 : decode cX11_wrongBits 54 = .ok (.iload 4, 2) := by decide +kernel
theorem dX11_wrongBits_56 : decode cX11_wrongBits 56 = .ok (.iadd, 1) := by decide +kernel
theorem dX11_wrongBits_57 : decode cX11_wrongBits 57 = .ok (.baload, 1) := by decide +kernel
theorem dX11_wrongBits_58 : decode cX11_wrongBits 58 = .ok (.ifCond .eq 5, 3) := by decide +kernel
theorem dX11_wrongBits_61 : decode cX11_wrongBits 61 = .ok (.iconst 3, 1) := by decide +kernel
theorem dX11_wrongBits_62 : decode cX11_wrongBits 62 = .ok (.ireturn, 1) := by decide +kernel
theorem dX11_wrongBits_63 : decode cX11_wrongBits 63 = .ok (.iinc 4 1, 3) := by decide +kernel
theorem dX11_wrongBits_66 : decode cX11_wrongBits 66 = .ok (.goto (-42), 3) := by decide +kernel
theorem dX11_wrongBits_69 : decode cX11_wrongBits 69 = .ok (.iconst 0, 1) := by decide +kernel
theorem dX11_wrongBits_70 : decode cX11_wrongBits 70 = .ok (.ireturn, 1) := by decide +kernel
theorem dX11_enter_0 : decode cX11_enter 0 = .ok (.iload_n 1, 1) := by decide +kernel
theorem dX11_enter_1 : decode cX11_enter 1 = .ok (.ifCond .lt 11, 3) := by decide +kernel
theorem dX11_enter_4 : decode cX11_enter 4 = .ok (.iload_n 1, 1) := by decide +kernel
theorem dX11_enter_5 : decode cX11_enter 5 = .ok (.aload_n 0, 1) := by decide +kernel
theorem dX11_enter_6 : decode cX11_enter 6 = .ok (.getfield 172, 3) := by decide +kernel
theorem dX11_enter_9 : decode cX11_enter 9 = .ok (.if_icmp .lt 9, 3) := by decide +kernel
theorem dX11_enter_12 : decode cX11_enter 12 = .ok (.aload_n 0, 1) := by decide +kernel
theorem dX11_enter_13 : decode cX11_enter 13 = .ok (.iconst 1, 1) := by decide +kernel
theorem dX11_enter_14 : decode cX11_enter 14 = .ok (.invokevirtual 231, 3) := by decide +kernel
theorem dX11_enter_17 : decode cX11_enter 17 = .ok (.ireturn, 1) := by decide +kernel
theorem dX11_enter_18 : decode cX11_enter 18 = .ok (.aload_n 0, 1) := by decide +kernel
theorem dX11_enter_19 : decode cX11_enter 19 = .ok (.iload_n 1, 1) := by decide +kernel
theorem dX11_enter_20 : decode cX11_enter 20 = .ok (.lload 6, 2) := by decide +kernel
theorem dX11_enter_22 : decode cX11_enter 22 = .ok (.invokevirtual 242, 3) := by decide +kernel
theorem dX11_enter_25 : decode cX11_enter 25 = .ok (.istore 8, 2) := by decide +kernel
theorem dX11_enter_27 : decode cX11_enter 27 = .ok (.iload 8, 2) := by decide +kernel
theorem dX11_enter_29 : decode cX11_enter 29 = .ok (.ifCond .le 10, 3) := by decide +kernel
theorem dX11_enter_32 : decode cX11_enter 32 = .ok (.aload_n 0, 1) := by decide +kernel
theorem dX11_enter_33 : decode cX11_enter 33 = .ok (.iload 8, 2) := by decide +kernel
theorem dX11_enter_35 : decode cX11_enter 35 = .ok (.invokevirtual 231, 3) := by decide +kernel
theorem dX11_enter_38 : decode cX11_enter 38 = .ok (.ireturn, 1) := by decide +kernel
theorem dX11_enter_39 : decode cX11_enter 39 = .ok (.iload_n 2, 1) := by decide +kernel
theorem dX11_enter_40 : decode cX11_enter 40 = .ok (.iconst 4, 1) := by decide +kernel
theorem dX11_enter_41 : decode cX11_enter 41 = .ok (.if_icmp .eq 9, 3) := by decide +kernel
theorem dX11_enter_44 : decode cX11_enter 44 = .ok (.iload_n 2, 1) := by decide +kernel
theorem dX11_enter_45 : decode cX11_enter 45 = .ok (.bipush 6, 2) := by decide +kernel
theorem dX11_enter_47 : decode cX11_enter 47 = .ok (.if_icmp .ne 8, 3) := by decide +kernel
theorem dX11_enter_50 : decode cX11_enter 50 = .ok (.ldc 241, 2) := by decide +kernel
theorem dX11_enter_52 : decode cX11_enter 52 = .ok (.goto 6, 3) := by decide +kernel
theorem dX11_enter_55 : decode cX11_enter 55 = .ok (.sipush 200, 3) := by decide +kernel
theorem dX11_enter_58 : decode cX11_enter 58 = .ok (.istore 9, 2) := by decide +kernel
theorem dX11_enter_60 : decode cX11_enter 60 = .ok (.iload_n 2, 1) := by decide +kernel
theorem dX11_enter_61 : decode cX11_enter 61 = .ok (.iconst 1, 1) := by decide +kernel
theorem dX11_enter_62 : decode cX11_enter 62 = .ok (.if_icmp .lt 35, 3) := by decide +kernel
theorem dX11_enter_65 : decode cX11_enter 65 = .ok (.iload_n 2, 1) := by decide +kernel
theorem dX11_enter_66 : decode cX11_enter 66 = .ok (.bipush 6, 2) := by decide +kernel
theorem dX11_enter_68 : decode cX11_enter 68 = .ok (.if_icmp .gt 29, 3) := by decide +kernel
theorem dX11_enter_71 : decode cX11_enter 71 = .ok (.lload_n 3, 1) := by decide +kernel
theorem dX11_enter_72 : decode cX11_enter 72 = .ok (.lconst 0, 1) := by decide +kernel
theorem dX11_enter_73 : decode cX11_enter 73 = .ok (.lcmp, 1) := by decide +kernel
theorem dX11_enter_74 : decode cX11_enter 74 = .ok (.ifCond .lt 23, 3) := by decide +kernel
theorem dX11_enter_77 : decode cX11_enter 77 = .ok (.lload_n 3, 1) := by decide +kernel
theorem dX11_enter_78 : decode cX11_enter 78 = .ok (.ldc2_w 246, 3) := by decide +kernel
theorem dX11_enter_81 : decode cX11_enter 81 = .ok (.lcmp, 1) := by decide +kernel
theorem dX11_enter_82 : decode cX11_enter 82 = .ok (.ifCond .gt 15, 3) := by decide +kernel
theorem dX11_enter_85 : decode cX11_enter 85 = .ok (.iload 5, 2) := by decide +kernel
theorem dX11_enter_87 : decode cX11_enter 87 = .ok (.ifCond .lt 10, 3) := by decide +kernel
theorem dX11_enter_90 : decode cX11_enter 90 = .ok (.iload 5, 2) := by decide +kernel
theorem dX11_enter_92 : decode cX11_enter 92 = .ok (.iload 9, 2) := by decide +kernel
theorem dX11_enter_94 : decode cX11_enter 94 = .ok (.if_icmp .le 9, 3) := by decide +kernel
theorem dX11_enter_97 : decode cX11_enter 97 = .ok (.aload_n 0, 1) := by decide +kernel
theorem dX11_enter_98 : decode cX11_enter 98 = .ok (.iconst 5, 1) := by decide +kernel
theorem dX11_enter_99 : decode cX11_enter 99 = .ok (.invokevirtual 231, 3) := by decide +kernel
theorem dX11_enter_102 : decode cX11_enter 102 = .ok (.ireturn, 1) := by decide +kernel
theorem dX11_enter_103 : decode cX11_enter 103 = .ok (.aload_n 0, 1) := by decide +kernel
theorem dX11_enter_104 : decode cX11_enter 104 = .ok (.getfield 169, 3) := by decide +kernel
theorem dX11_enter_107 : decode cX11_enter 107 = .ok (.sipush 300, 3) := by decide +kernel
theorem dX11_enter_110 : decode cX11_enter 110 = .ok (.if_icmp .ne 10, 3) := by decide +kernel
theorem dX11_enter_113 : decode cX11_enter 113 = .ok (.aload_n 0, 1) := by decide +kernel
theorem dX11_enter_114 : decode cX11_enter 114 = .ok (.bipush 10, 2) := by decide +kernel
theorem dX11_enter_116 : decode cX11_enter 116 = .ok (.invokevirtual 231, 3) := by decide +kernel
theorem dX11_enter_119 : decode cX11_enter 119 = .ok (.ireturn, 1) := by decide +kernel
theorem dX11_enter_120 : decode cX11_enter 120 = .ok (.aload_n 0, 1) := by decide +kernel
theorem dX11_enter_121 : decode cX11_enter 121 = .ok (.iload_n 1, 1) := by decide +kernel
theorem dX11_enter_122 : decode cX11_enter 122 = .ok (.iload_n 2, 1) := by decide +kernel
theorem dX11_enter_123 : decode cX11_enter 123 = .ok (.iconst 0, 1) := by decide +kernel
theorem dX11_enter_124 : decode cX11_enter 124 = .ok (.iconst 0, 1) := by decide +kernel
theorem dX11_enter_125 : decode cX11_enter 125 = .ok (.iconst 0, 1) := by decide +kernel
theorem dX11_enter_126 : decode cX11_enter 126 = .ok (.iload_n 2, 1) := by decide +kernel
theorem dX11_enter_127 : decode cX11_enter 127 = .ok (.iconst 3, 1) := by decide +kernel
theorem dX11_enter_128 : decode cX11_enter 128 = .ok (.if_icmp .ne 7, 3) := by decide +kernel
theorem dX11_enter_131 : decode cX11_enter 131 = .ok (.lconst 0, 1) := by decide +kernel
theorem dX11_enter_132 : decode cX11_enter 132 = .ok (.goto 4, 3) := by decide +kernel
theorem dX11_enter_135 : decode cX11_enter 135 = .ok (.lload_n 3, 1) := by decide +kernel
theorem dX11_enter_136 : decode cX11_enter 136 = .ok (.invokevirtual 248, 3) := by decide +kernel
theorem dX11_enter_139 : decode cX11_enter 139 = .ok (.istore 10, 2) := by decide +kernel
theorem dX11_enter_141 : decode cX11_enter 141 = .ok (.aload_n 0, 1) := by decide +kernel
theorem dX11_enter_142 : decode cX11_enter 142 = .ok (.getfield 39, 3) := by decide +kernel
theorem dX11_enter_145 : decode cX11_enter 145 = .ok (.iload 10, 2) := by decide +kernel
theorem dX11_enter_147 : decode cX11_enter 147 = .ok (.lload 6, 2) := by decide +kernel
theorem dX11_enter_149 : decode cX11_enter 149 = .ok (.lastore, 1) := by decide +kernel
theorem dX11_enter_150 : decode cX11_enter 150 = .ok (.aload_n 0, 1) := by decide +kernel
theorem dX11_enter_151 : decode cX11_enter 151 = .ok (.getfield 42, 3) := by decide +kernel
theorem dX11_enter_154 : decode cX11_enter 154 = .ok (.iload 10, 2) := by decide +kernel
theorem dX11_enter_156 : decode cX11_enter 156 = .ok (.iload 5, 2) := by decide +kernel
theorem dX11_enter_158 : decode cX11_enter 158 = .ok (.iastore, 1) := by decide +kernel
theorem dX11_enter_159 : decode cX11_enter 159 = .ok (.aload_n 0, 1) := by decide +kernel
theorem dX11_enter_160 : decode cX11_enter 160 = .ok (.getfield 45, 3) := by decide +kernel
theorem dX11_enter_163 : decode cX11_enter 163 = .ok (.iload 10, 2) := by decide +kernel
theorem dX11_enter_165 : decode cX11_enter 165 = .ok (.lload_n 3, 1) := by decide +kernel
theorem dX11_enter_166 : decode cX11_enter 166 = .ok (.lastore, 1) := by decide +kernel
theorem dX11_enter_167 : decode cX11_enter 167 = .ok (.aload_n 0, 1) := by decide +kernel
theorem dX11_enter_168 : decode cX11_enter 168 = .ok (.getfield 48, 3) := by decide +kernel
theorem dX11_enter_171 : decode cX11_enter 171 = .ok (.iload 10, 2) := by decide +kernel
theorem dX11_enter_173 : decode cX11_enter 173 = .ok (.aload_n 0, 1) := by decide +kernel
theorem dX11_enter_174 : decode cX11_enter 174 = .ok (.invokevirtual 252, 3) := by decide +kernel
theorem dX11_enter_177 : decode cX11_enter 177 = .ok (.iastore, 1) := by decide +kernel
theorem dX11_enter_178 : decode cX11_enter 178 = .ok (.aload_n 0, 1) := by decide +kernel
theorem dX11_enter_179 : decode cX11_enter 179 = .ok (.getfield 51, 3) := by decide +kernel
theorem dX11_enter_182 : decode cX11_enter 182 = .ok (.iload 10, 2) := by decide +kernel
theorem dX11_enter_184 : decode cX11_enter 184 = .ok (.aload_n 0, 1) := by decide +kernel
theorem dX11_enter_185 : decode cX11_enter 185 = .ok (.getfield 166, 3) := by decide +kernel
theorem dX11_enter_188 : decode cX11_enter 188 = .ok (.iastore, 1) := by decide +kernel
theorem dX11_enter_189 : decode cX11_enter 189 = .ok (.aload_n 0, 1) := by decide +kernel
theorem dX11_enter_190 : decode cX11_enter 190 = .ok (.getfield 60, 3) := by decide +kernel
theorem dX11_enter_193 : decode cX11_enter 193 = .ok (.iload 10, 2) := by decide +kernel
theorem dX11_enter_195 : decode cX11_enter 195 = .ok (.aload_n 0, 1) := by decide +kernel
theorem dX11_enter_196 : decode cX11_enter 196 = .ok (.getfield 48, 3) := by decide +kernel
theorem dX11_enter_199 : decode cX11_enter 199 = .ok (.iload 10, 2) := by decide +kernel
theorem dX11_enter_201 : decode cX11_enter 201 = .ok (.iaload, 1) := by decide +kernel
theorem dX11_enter_202 : decode cX11_enter 202 = .ok (.iastore, 1) := by decide +kernel
theorem dX11_enter_203 : decode cX11_enter 203 = .ok (.aload_n 0, 1) := by decide +kernel
theorem dX11_enter_204 : decode cX11_enter 204 = .ok (.getfield 69, 3) := by decide +kernel
theorem dX11_enter_207 : decode cX11_enter 207 = .ok (.iload 10, 2) := by decide +kernel
theorem dX11_enter_209 : decode cX11_enter 209 = .ok (.ldc_w 256, 3) := by decide +kernel
theorem dX11_enter_212 : decode cX11_enter 212 = .ok (.iastore, 1) := by decide +kernel
theorem dX11_enter_213 : decode cX11_enter 213 = .ok (.aload_n 0, 1) := by decide +kernel
theorem dX11_enter_214 : decode cX11_enter 214 = .ok (.getfield 72, 3) := by decide +kernel
theorem dX11_enter_217 : decode cX11_enter 217 = .ok (.iload 10, 2) := by decide +kernel
theorem dX11_enter_219 : decode cX11_enter 219 = .ok (.iconst 2, 1) := by decide +kernel
theorem dX11_enter_220 : decode cX11_enter 220 = .ok (.iastore, 1) := by decide +kernel
theorem dX11_enter_221 : decode cX11_enter 221 = .ok (.aload_n 0, 1) := by decide +kernel
theorem dX11_enter_222 : decode cX11_enter 222 = .ok (.iconst 0, 1) := by decide +kernel
theorem dX11_enter_223 : decode cX11_enter 223 = .ok (.putfield 163, 3) := by decide +kernel
theorem dX11_enter_226 : decode cX11_enter 226 = .ok (.iload 10, 2) := by decide +kernel
theorem dX11_enter_228 : decode cX11_enter 228 = .ok (.ireturn, 1) := by decide +kernel
theorem dX11_claim_0 : decode cX11_claim 0 = .ok (.aload_n 0, 1) := by decide +kernel
theorem dX11_claim_1 : decode cX11_claim 1 = .ok (.iload_n 1, 1) := by decide +kernel
theorem dX11_claim_2 : decode cX11_claim 2 = .ok (.invokevirtual 224, 3) := by decide +kernel
theorem dX11_claim_5 : decode cX11_claim 5 = .ok (.ifCond .ne 9, 3) := by decide +kernel
theorem dX11_claim_8 : decode cX11_claim 8 = .ok (.aload_n 0, 1) := by decide +kernel
theorem dX11_claim_9 : decode cX11_claim 9 = .ok (.iconst 1, 1) := by decide +kernel
theorem dX11_claim_10 : decode cX11_claim 10 = .ok (.invokevirtual 238, 3) := by decide +kernel
theorem dX11_claim_13 : decode cX11_claim 13 = .ok (.ireturn, 1) := by decide +kernel
theorem dX11_claim_14 : decode cX11_claim 14 = .ok (.aload_n 0, 1) := by decide +kernel
theorem dX11_claim_15 : decode cX11_claim 15 = .ok (.getfield 17, 3) := by decide +kernel
theorem dX11_claim_18 : decode cX11_claim 18 = .ok (.iload_n 1, 1) := by decide +kernel
theorem dX11_claim_19 : decode cX11_claim 19 = .ok (.iaload, 1) := by decide +kernel
theorem dX11_claim_20 : decode cX11_claim 20 = .ok (.iconst 5, 1) := by decide +kernel
theorem dX11_claim_21 : decode cX11_claim 21 = .ok (.if_icmp .ne 12, 3) := by decide +kernel
theorem dX11_claim_24 : decode cX11_claim 24 = .ok (.aload_n 0, 1) := by decide +kernel
theorem dX11_claim_25 : decode cX11_claim 25 = .ok (.getfield 26, 3) := by decide +kernel
theorem dX11_claim_28 : decode cX11_claim 28 = .ok (.iload_n 1, 1) := by decide +kernel
theorem dX11_claim_29 : decode cX11_claim 29 = .ok (.iaload, 1) := by decide +kernel
theorem dX11_claim_30 : decode cX11_claim 30 = .ok (.ifCond .eq 9, 3) := by decide +kernel
theorem dX11_claim_33 : decode cX11_claim 33 = .ok (.aload_n 0, 1) := by decide +kernel
theorem dX11_claim_34 : decode cX11_claim 34 = .ok (.iconst 4, 1) := by decide +kernel
theorem dX11_claim_35 : decode cX11_claim 35 = .ok (.invokevirtual 238, 3) := by decide +kernel
theorem dX11_claim_38 : decode cX11_claim 38 = .ok (.ireturn, 1) := by decide +kernel
theorem dX11_claim_39 : decode cX11_claim 39 = .ok (.iload_n 2, 1) := by decide +kernel
theorem dX11_claim_40 : decode cX11_claim 40 = .ok (.ifCond .lt 20, 3) := by decide +kernel
theorem dX11_claim_43 : decode cX11_claim 43 = .ok (.iload_n 2, 1) := by decide +kernel
theorem dX11_claim_44 : decode cX11_claim 44 = .ok (.ldc 241, 2) := by decide +kernel
theorem dX11_claim_46 : decode cX11_claim 46 = .ok (.if_icmp .gt 14, 3) := by decide +kernel
theorem dX11_claim_49 : decode cX11_claim 49 = .ok (.iload_n 3, 1) := by decide +kernel
theorem dX11_claim_50 : decode cX11_claim 50 = .ok (.iconst 1, 1) := by decide +kernel
theorem dX11_claim_51 : decode cX11_claim 51 = .ok (.if_icmp .lt 9, 3) := by decide +kernel
theorem dX11_claim_54 : decode cX11_claim 54 = .ok (.iload_n 3, 1) := by decide +kernel
theorem dX11_claim_55 : decode cX11_claim 55 = .ok (.bipush 30, 2) := by decide +kernel
theorem dX11_claim_57 : decode cX11_claim 57 = .ok (.if_icmp .le 9, 3) := by decide +kernel
theorem dX11_claim_60 : decode cX11_claim 60 = .ok (.aload_n 0, 1) := by decide +kernel
theorem dX11_claim_61 : decode cX11_claim 61 = .ok (.iconst 5, 1) := by decide +kernel
theorem dX11_claim_62 : decode cX11_claim 62 = .ok (.invokevirtual 238, 3) := by decide +kernel
theorem dX11_claim_65 : decode cX11_claim 65 = .ok (.ireturn, 1) := by decide +kernel
theorem dX11_claim_66 : decode cX11_claim 66 = .ok (.aload_n 0, 1) := by decide +kernel
theorem dX11_claim_67 : decode cX11_claim 67 = .ok (.getfield 78, 3) := by decide +kernel
theorem dX11_claim_70 : decode cX11_claim 70 = .ok (.iload_n 1, 1) := by decide +kernel
theorem dX11_claim_71 : decode cX11_claim 71 = .ok (.iaload, 1) := by decide +kernel
theorem dX11_claim_72 : decode cX11_claim 72 = .ok (.iconst (-1), 1) := by decide +kernel
theorem dX11_claim_73 : decode cX11_claim 73 = .ok (.if_icmp .eq 10, 3) := by decide +kernel
theorem dX11_claim_76 : decode cX11_claim 76 = .ok (.aload_n 0, 1) := by decide +kernel
theorem dX11_claim_77 : decode cX11_claim 77 = .ok (.bipush 8, 2) := by decide +kernel
theorem dX11_claim_79 : decode cX11_claim 79 = .ok (.invokevirtual 238, 3) := by decide +kernel
theorem dX11_claim_82 : decode cX11_claim 82 = .ok (.ireturn, 1) := by decide +kernel
theorem dX11_claim_83 : decode cX11_claim 83 = .ok (.aload_n 0, 1) := by decide +kernel
theorem dX11_claim_84 : decode cX11_claim 84 = .ok (.getfield 69, 3) := by decide +kernel
theorem dX11_claim_87 : decode cX11_claim 87 = .ok (.iload_n 1, 1) := by decide +kernel
theorem dX11_claim_88 : decode cX11_claim 88 = .ok (.iload_n 2, 1) := by decide +kernel
theorem dX11_claim_89 : decode cX11_claim 89 = .ok (.iastore, 1) := by decide +kernel
theorem dX11_claim_90 : decode cX11_claim 90 = .ok (.aload_n 0, 1) := by decide +kernel
theorem dX11_claim_91 : decode cX11_claim 91 = .ok (.getfield 72, 3) := by decide +kernel
theorem dX11_claim_94 : decode cX11_claim 94 = .ok (.iload_n 1, 1) := by decide +kernel
theorem dX11_claim_95 : decode cX11_claim 95 = .ok (.iload_n 3, 1) := by decide +kernel
theorem dX11_claim_96 : decode cX11_claim 96 = .ok (.iastore, 1) := by decide +kernel
theorem dX11_claim_97 : decode cX11_claim 97 = .ok (.aload_n 0, 1) := by decide +kernel
theorem dX11_claim_98 : decode cX11_claim 98 = .ok (.getfield 75, 3) := by decide +kernel
theorem dX11_claim_101 : decode cX11_claim 101 = .ok (.iload_n 1, 1) := by decide +kernel
theorem dX11_claim_102 : decode cX11_claim 102 = .ok (.aload_n 0, 1) := by decide +kernel
theorem dX11_claim_103 : decode cX11_claim 103 = .ok (.invokevirtual 252, 3) := by decide +kernel
theorem dX11_claim_106 : decode cX11_claim 106 = .ok (.iastore, 1) := by decide +kernel
theorem dX11_claim_107 : decode cX11_claim 107 = .ok (.aload_n 0, 1) := by decide +kernel
theorem dX11_claim_108 : decode cX11_claim 108 = .ok (.getfield 78, 3) := by decide +kernel
theorem dX11_claim_111 : decode cX11_claim 111 = .ok (.iload_n 1, 1) := by decide +kernel
theorem dX11_claim_112 : decode cX11_claim 112 = .ok (.aload_n 0, 1) := by decide +kernel
theorem dX11_claim_113 : decode cX11_claim 113 = .ok (.getfield 166, 3) := by decide +kernel
theorem dX11_claim_116 : decode cX11_claim 116 = .ok (.iastore, 1) := by decide +kernel
theorem dX11_claim_117 : decode cX11_claim 117 = .ok (.aload_n 0, 1) := by decide +kernel
theorem dX11_claim_118 : decode cX11_claim 118 = .ok (.iconst 0, 1) := by decide +kernel
theorem dX11_claim_119 : decode cX11_claim 119 = .ok (.putfield 163, 3) := by decide +kernel
theorem dX11_claim_122 : decode cX11_claim 122 = .ok (.iconst 1, 1) := by decide +kernel
theorem dX11_claim_123 : decode cX11_claim 123 = .ok (.ireturn, 1) := by decide +kernel
theorem dX11_livesNow_0 : decode cX11_livesNow 0 = .ok (.aload_n 0, 1) := by decide +kernel
theorem dX11_livesNow_1 : decode cX11_livesNow 1 = .ok (.invokevirtual 257, 3) := by decide +kernel
theorem dX11_livesNow_4 : decode cX11_livesNow 4 = .ok (.aload_n 0, 1) := by decide +kernel
theorem dX11_livesNow_5 : decode cX11_livesNow 5 = .ok (.iload_n 1, 1) := by decide +kernel
theorem dX11_livesNow_6 : decode cX11_livesNow 6 = .ok (.invokevirtual 195, 3) := by decide +kernel
theorem dX11_livesNow_9 : decode cX11_livesNow 9 = .ok (.ireturn, 1) := by decide +kernel
theorem dX11_owe_0 : decode cX11_owe 0 = .ok (.aload_n 0, 1) := by decide +kernel
theorem dX11_owe_1 : decode cX11_owe 1 = .ok (.iload_n 1, 1) := by decide +kernel
theorem dX11_owe_2 : decode cX11_owe 2 = .ok (.invokevirtual 224, 3) := by decide +kernel
theorem dX11_owe_5 : decode cX11_owe 5 = .ok (.ifCond .ne 9, 3) := by decide +kernel
theorem dX11_owe_8 : decode cX11_owe 8 = .ok (.aload_n 0, 1) := by decide +kernel
theorem dX11_owe_9 : decode cX11_owe 9 = .ok (.iconst 1, 1) := by decide +kernel
theorem dX11_owe_10 : decode cX11_owe 10 = .ok (.invokevirtual 238, 3) := by decide +kernel
theorem dX11_owe_13 : decode cX11_owe 13 = .ok (.ireturn, 1) := by decide +kernel
theorem dX11_owe_14 : decode cX11_owe 14 = .ok (.aload_n 0, 1) := by decide +kernel
theorem dX11_owe_15 : decode cX11_owe 15 = .ok (.getfield 23, 3) := by decide +kernel
theorem dX11_owe_18 : decode cX11_owe 18 = .ok (.iload_n 1, 1) := by decide +kernel
theorem dX11_owe_19 : decode cX11_owe 19 = .ok (.iaload, 1) := by decide +kernel
theorem dX11_owe_20 : decode cX11_owe 20 = .ok (.istore 4, 2) := by decide +kernel
theorem dX11_owe_22 : decode cX11_owe 22 = .ok (.aload_n 0, 1) := by decide +kernel
theorem dX11_owe_23 : decode cX11_owe 23 = .ok (.getfield 17, 3) := by decide +kernel
theorem dX11_owe_26 : decode cX11_owe 26 = .ok (.iload_n 1, 1) := by decide +kernel
theorem dX11_owe_27 : decode cX11_owe 27 = .ok (.iaload, 1) := by decide +kernel
theorem dX11_owe_28 : decode cX11_owe 28 = .ok (.iconst 3, 1) := by decide +kernel
theorem dX11_owe_29 : decode cX11_owe 29 = .ok (.if_icmp .eq 9, 3) := by decide +kernel
theorem dX11_owe_32 : decode cX11_owe 32 = .ok (.aload_n 0, 1) := by decide +kernel
theorem dX11_owe_33 : decode cX11_owe 33 = .ok (.iconst 4, 1) := by decide +kernel
theorem dX11_owe_34 : decode cX11_owe 34 = .ok (.invokevirtual 238, 3) := by decide +kernel
theorem dX11_owe_37 : decode cX11_owe 37 = .ok (.ireturn, 1) := by decide +kernel
theorem dX11_owe_38 : decode cX11_owe 38 = .ok (.lload_n 2, 1) := by decide +kernel
theorem dX11_owe_39 : decode cX11_owe 39 = .ok (.lconst 0, 1) := by decide +kernel
theorem dX11_owe_40 : decode cX11_owe 40 = .ok (.lcmp, 1) := by decide +kernel
theorem dX11_owe_41 : decode cX11_owe 41 = .ok (.ifCond .lt 15, 3) := by decide +kernel
theorem dX11_owe_44 : decode cX11_owe 44 = .ok (.lload_n 2, 1) := by decide +kernel
theorem dX11_owe_45 : decode cX11_owe 45 = .ok (.aload_n 0, 1) := by decide +kernel
theorem dX11_owe_46 : decode cX11_owe 46 = .ok (.getfield 45, 3) := by decide +kernel
theorem dX11_owe_49 : decode cX11_owe 49 = .ok (.iload 4, 2) := by decide +kernel
theorem dX11_owe_51 : decode cX11_owe 51 = .ok (.laload, 1) := by decide +kernel
theorem dX11_owe_52 : decode cX11_owe 52 = .ok (.lcmp, 1) := by decide +kernel
theorem dX11_owe_53 : decode cX11_owe 53 = .ok (.ifCond .le 9, 3) := by decide +kernel
theorem dX11_owe_56 : decode cX11_owe 56 = .ok (.aload_n 0, 1) := by decide +kernel
theorem dX11_owe_57 : decode cX11_owe 57 = .ok (.iconst 5, 1) := by decide +kernel
theorem dX11_owe_58 : decode cX11_owe 58 = .ok (.invokevirtual 238, 3) := by decide +kernel
theorem dX11_owe_61 : decode cX11_owe 61 = .ok (.ireturn, 1) := by decide +kernel
theorem dX11_owe_62 : decode cX11_owe 62 = .ok (.aload_n 0, 1) := by decide +kernel
theorem dX11_owe_63 : decode cX11_owe 63 = .ok (.iload_n 1, 1) := by decide +kernel
theorem dX11_owe_64 : decode cX11_owe 64 = .ok (.invokevirtual 260, 3) := by decide +kernel
theorem dX11_owe_67 : decode cX11_owe 67 = .ok (.ifCond .ne 10, 3) := by decide +kernel
theorem dX11_owe_70 : decode cX11_owe 70 = .ok (.aload_n 0, 1) := by decide +kernel
theorem dX11_owe_71 : decode cX11_owe 71 = .ok (.bipush 6, 2) := by decide +kernel
theorem dX11_owe_73 : decode cX11_owe 73 = .ok (.invokevirtual 238, 3) := by decide +kernel
theorem dX11_owe_76 : decode cX11_owe 76 = .ok (.ireturn, 1) := by decide +kernel
theorem dX11_owe_77 : decode cX11_owe 77 = .ok (.aload_n 0, 1) := by decide +kernel
theorem dX11_owe_78 : decode cX11_owe 78 = .ok (.getfield 36, 3) := by decide +kernel
theorem dX11_owe_81 : decode cX11_owe 81 = .ok (.iload_n 1, 1) := by decide +kernel
theorem dX11_owe_82 : decode cX11_owe 82 = .ok (.iaload, 1) := by decide +kernel
theorem dX11_owe_83 : decode cX11_owe 83 = .ok (.ifCond .ne 29, 3) := by decide +kernel
theorem dX11_owe_86 : decode cX11_owe 86 = .ok (.aload_n 0, 1) := by decide +kernel
theorem dX11_owe_87 : decode cX11_owe 87 = .ok (.iload 4, 2) := by decide +kernel
theorem dX11_owe_89 : decode cX11_owe 89 = .ok (.invokevirtual 263, 3) := by decide +kernel
theorem dX11_owe_92 : decode cX11_owe 92 = .ok (.aload_n 0, 1) := by decide +kernel
theorem dX11_owe_93 : decode cX11_owe 93 = .ok (.getfield 32, 3) := by decide +kernel
theorem dX11_owe_96 : decode cX11_owe 96 = .ok (.iload_n 1, 1) := by decide +kernel
theorem dX11_owe_97 : decode cX11_owe 97 = .ok (.laload, 1) := by decide +kernel
theorem dX11_owe_98 : decode cX11_owe 98 = .ok (.lsub, 1) := by decide +kernel
theorem dX11_owe_99 : decode cX11_owe 99 = .ok (.lload_n 2, 1) := by decide +kernel
theorem dX11_owe_100 : decode cX11_owe 100 = .ok (.ladd, 1) := by decide +kernel
theorem dX11_owe_101 : decode cX11_owe 101 = .ok (.aload_n 0, 1) := by decide +kernel
theorem dX11_owe_102 : decode cX11_owe 102 = .ok (.getfield 45, 3) := by decide +kernel
theorem dX11_owe_105 : decode cX11_owe 105 = .ok (.iload 4, 2) := by decide +kernel
theorem dX11_owe_107 : decode cX11_owe 107 = .ok (.laload, 1) := by decide +kernel
theorem dX11_owe_108 : decode cX11_owe 108 = .ok (.lcmp, 1) := by decide +kernel
theorem dX11_owe_109 : decode cX11_owe 109 = .ok (.ifCond .le 10, 3) := by decide +kernel
theorem dX11_owe_112 : decode cX11_owe 112 = .ok (.aload_n 0, 1) := by decide +kernel
theorem dX11_owe_113 : decode cX11_owe 113 = .ok (.bipush 8, 2) := by decide +kernel
theorem dX11_owe_115 : decode cX11_owe 115 = .ok (.invokevirtual 238, 3) := by decide +kernel
theorem dX11_owe_118 : decode cX11_owe 118 = .ok (.ireturn, 1) := by decide +kernel
theorem dX11_owe_119 : decode cX11_owe 119 = .ok (.aload_n 0, 1) := by decide +kernel
theorem dX11_owe_120 : decode cX11_owe 120 = .ok (.getfield 32, 3) := by decide +kernel
theorem dX11_owe_123 : decode cX11_owe 123 = .ok (.iload_n 1, 1) := by decide +kernel
theorem dX11_owe_124 : decode cX11_owe 124 = .ok (.lload_n 2, 1) := by decide +kernel
theorem dX11_owe_125 : decode cX11_owe 125 = .ok (.lastore, 1) := by decide +kernel
theorem dX11_owe_126 : decode cX11_owe 126 = .ok (.aload_n 0, 1) := by decide +kernel
theorem dX11_owe_127 : decode cX11_owe 127 = .ok (.iconst 0, 1) := by decide +kernel
theorem dX11_owe_128 : decode cX11_owe 128 = .ok (.putfield 163, 3) := by decide +kernel
theorem dX11_owe_131 : decode cX11_owe 131 = .ok (.iconst 1, 1) := by decide +kernel
theorem dX11_owe_132 : decode cX11_owe 132 = .ok (.ireturn, 1) := by decide +kernel
theorem dX11_pay_0 : decode cX11_pay 0 = .ok (.aload_n 0, 1) := by decide +kernel
theorem dX11_pay_1 : decode cX11_pay 1 = .ok (.iload_n 1, 1) := by decide +kernel
theorem dX11_pay_2 : decode cX11_pay 2 = .ok (.invokevirtual 224, 3) := by decide +kernel
theorem dX11_pay_5 : decode cX11_pay 5 = .ok (.ifCond .ne 10, 3) := by decide +kernel
theorem dX11_pay_8 : decode cX11_pay 8 = .ok (.aload_n 0, 1) := by decide +kernel
theorem dX11_pay_9 : decode cX11_pay 9 = .ok (.iconst 1, 1) := by decide +kernel
theorem dX11_pay_10 : decode cX11_pay 10 = .ok (.invokevirtual 231, 3) := by decide +kernel
theorem dX11_pay_13 : decode cX11_pay 13 = .ok (.i2l, 1) := by decide +kernel
theorem dX11_pay_14 : decode cX11_pay 14 = .ok (.lreturn, 1) := by decide +kernel
theorem dX11_pay_15 : decode cX11_pay 15 = .ok (.aload_n 0, 1) := by decide +kernel
theorem dX11_pay_16 : decode cX11_pay 16 = .ok (.getfield 17, 3) := by decide +kernel
theorem dX11_pay_19 : decode cX11_pay 19 = .ok (.iload_n 1, 1) := by decide +kernel
theorem dX11_pay_20 : decode cX11_pay 20 = .ok (.iaload, 1) := by decide +kernel
theorem dX11_pay_21 : decode cX11_pay 21 = .ok (.iconst 4, 1) := by decide +kernel
theorem dX11_pay_22 : decode cX11_pay 22 = .ok (.if_icmp .eq 14, 3) := by decide +kernel
theorem dX11_pay_25 : decode cX11_pay 25 = .ok (.aload_n 0, 1) := by decide +kernel
theorem dX11_pay_26 : decode cX11_pay 26 = .ok (.getfield 17, 3) := by decide +kernel
theorem dX11_pay_29 : decode cX11_pay 29 = .ok (.iload_n 1, 1) := by decide +kernel
theorem dX11_pay_30 : decode cX11_pay 30 = .ok (.iaload, 1) := by decide +kernel
theorem dX11_pay_31 : decode cX11_pay 31 = .ok (.bipush 6, 2) := by decide +kernel
theorem dX11_pay_33 : decode cX11_pay 33 = .ok (.if_icmp .ne 10, 3) := by decide +kernel
theorem dX11_pay_36 : decode cX11_pay 36 = .ok (.aload_n 0, 1) := by decide +kernel
theorem dX11_pay_37 : decode cX11_pay 37 = .ok (.iconst 4, 1) := by decide +kernel
theorem dX11_pay_38 : decode cX11_pay 38 = .ok (.invokevirtual 231, 3) := by decide +kernel
theorem dX11_pay_41 : decode cX11_pay 41 = .ok (.i2l, 1) := by decide +kernel
theorem dX11_pay_42 : decode cX11_pay 42 = .ok (.lreturn, 1) := by decide +kernel
theorem dX11_pay_43 : decode cX11_pay 43 = .ok (.lload_n 2, 1) := by decide +kernel
theorem dX11_pay_44 : decode cX11_pay 44 = .ok (.lconst 0, 1) := by decide +kernel
theorem dX11_pay_45 : decode cX11_pay 45 = .ok (.lcmp, 1) := by decide +kernel
theorem dX11_pay_46 : decode cX11_pay 46 = .ok (.ifCond .lt 13, 3) := by decide +kernel
theorem dX11_pay_49 : decode cX11_pay 49 = .ok (.lload_n 2, 1) := by decide +kernel
theorem dX11_pay_50 : decode cX11_pay 50 = .ok (.aload_n 0, 1) := by decide +kernel
theorem dX11_pay_51 : decode cX11_pay 51 = .ok (.iload_n 1, 1) := by decide +kernel
theorem dX11_pay_52 : decode cX11_pay 52 = .ok (.invokevirtual 263, 3) := by decide +kernel
theorem dX11_pay_55 : decode cX11_pay 55 = .ok (.lcmp, 1) := by decide +kernel
theorem dX11_pay_56 : decode cX11_pay 56 = .ok (.ifCond .le 10, 3) := by decide +kernel
theorem dX11_pay_59 : decode cX11_pay 59 = .ok (.aload_n 0, 1) := by decide +kernel
theorem dX11_pay_60 : decode cX11_pay 60 = .ok (.iconst 5, 1) := by decide +kernel
theorem dX11_pay_61 : decode cX11_pay 61 = .ok (.invokevirtual 231, 3) := by decide +kernel
theorem dX11_pay_64 : decode cX11_pay 64 = .ok (.i2l, 1) := by decide +kernel
theorem dX11_pay_65 : decode cX11_pay 65 = .ok (.lreturn, 1) := by decide +kernel
theorem dX11_pay_66 : decode cX11_pay 66 = .ok (.aload_n 0, 1) := by decide +kernel
theorem dX11_pay_67 : decode cX11_pay 67 = .ok (.iload_n 1, 1) := by decide +kernel
theorem dX11_pay_68 : decode cX11_pay 68 = .ok (.invokevirtual 260, 3) := by decide +kernel
theorem dX11_pay_71 : decode cX11_pay 71 = .ok (.ifCond .ne 11, 3) := by decide +kernel
theorem dX11_pay_74 : decode cX11_pay 74 = .ok (.aload_n 0, 1) := by decide +kernel
theorem dX11_pay_75 : decode cX11_pay 75 = .ok (.bipush 6, 2) := by decide +kernel
theorem dX11_pay_77 : decode cX11_pay 77 = .ok (.invokevirtual 231, 3) := by decide +kernel
theorem dX11_pay_80 : decode cX11_pay 80 = .ok (.i2l, 1) := by decide +kernel
theorem dX11_pay_81 : decode cX11_pay 81 = .ok (.lreturn, 1) := by decide +kernel
theorem dX11_pay_82 : decode cX11_pay 82 = .ok (.aload_n 0, 1) := by decide +kernel
theorem dX11_pay_83 : decode cX11_pay 83 = .ok (.getfield 36, 3) := by decide +kernel
theorem dX11_pay_86 : decode cX11_pay 86 = .ok (.iload_n 1, 1) := by decide +kernel
theorem dX11_pay_87 : decode cX11_pay 87 = .ok (.iaload, 1) := by decide +kernel
theorem dX11_pay_88 : decode cX11_pay 88 = .ok (.ifCond .eq 11, 3) := by decide +kernel
theorem dX11_pay_91 : decode cX11_pay 91 = .ok (.aload_n 0, 1) := by decide +kernel
theorem dX11_pay_92 : decode cX11_pay 92 = .ok (.bipush 8, 2) := by decide +kernel
theorem dX11_pay_94 : decode cX11_pay 94 = .ok (.invokevirtual 231, 3) := by decide +kernel
theorem dX11_pay_97 : decode cX11_pay 97 = .ok (.i2l, 1) := by decide +kernel
theorem dX11_pay_98 : decode cX11_pay 98 = .ok (.lreturn, 1) := by decide +kernel
theorem dX11_pay_99 : decode cX11_pay 99 = .ok (.aload_n 0, 1) := by decide +kernel
theorem dX11_pay_100 : decode cX11_pay 100 = .ok (.getfield 32, 3) := by decide +kernel
theorem dX11_pay_103 : decode cX11_pay 103 = .ok (.iload_n 1, 1) := by decide +kernel
theorem dX11_pay_104 : decode cX11_pay 104 = .ok (.dup2, 1) := by decide +kernel
theorem dX11_pay_105 : decode cX11_pay 105 = .ok (.laload, 1) := by decide +kernel
theorem dX11_pay_106 : decode cX11_pay 106 = .ok (.lload_n 2, 1) := by decide +kernel
theorem dX11_pay_107 : decode cX11_pay 107 = .ok (.lsub, 1) := by decide +kernel
theorem dX11_pay_108 : decode cX11_pay 108 = .ok (.lastore, 1) := by decide +kernel
theorem dX11_pay_109 : decode cX11_pay 109 = .ok (.aload_n 0, 1) := by decide +kernel
theorem dX11_pay_110 : decode cX11_pay 110 = .ok (.iconst 0, 1) := by decide +kernel
theorem dX11_pay_111 : decode cX11_pay 111 = .ok (.putfield 163, 3) := by decide +kernel
theorem dX11_pay_114 : decode cX11_pay 114 = .ok (.aload_n 0, 1) := by decide +kernel
theorem dX11_pay_115 : decode cX11_pay 115 = .ok (.getfield 32, 3) := by decide +kernel
theorem dX11_pay_118 : decode cX11_pay 118 = .ok (.iload_n 1, 1) := by decide +kernel
theorem dX11_pay_119 : decode cX11_pay 119 = .ok (.laload, 1) := by decide +kernel
theorem dX11_pay_120 : decode cX11_pay 120 = .ok (.lreturn, 1) := by decide +kernel
theorem dX11_paper_0 : decode cX11_paper 0 = .ok (.aload_n 0, 1) := by decide +kernel
theorem dX11_paper_1 : decode cX11_paper 1 = .ok (.iload_n 1, 1) := by decide +kernel
theorem dX11_paper_2 : decode cX11_paper 2 = .ok (.invokevirtual 224, 3) := by decide +kernel
theorem dX11_paper_5 : decode cX11_paper 5 = .ok (.ifCond .ne 9, 3) := by decide +kernel
theorem dX11_paper_8 : decode cX11_paper 8 = .ok (.aload_n 0, 1) := by decide +kernel
theorem dX11_paper_9 : decode cX11_paper 9 = .ok (.iconst 1, 1) := by decide +kernel
theorem dX11_paper_10 : decode cX11_paper 10 = .ok (.invokevirtual 238, 3) := by decide +kernel
theorem dX11_paper_13 : decode cX11_paper 13 = .ok (.ireturn, 1) := by decide +kernel
theorem dX11_paper_14 : decode cX11_paper 14 = .ok (.aload_n 0, 1) := by decide +kernel
theorem dX11_paper_15 : decode cX11_paper 15 = .ok (.getfield 17, 3) := by decide +kernel
theorem dX11_paper_18 : decode cX11_paper 18 = .ok (.iload_n 1, 1) := by decide +kernel
theorem dX11_paper_19 : decode cX11_paper 19 = .ok (.iaload, 1) := by decide +kernel
theorem dX11_paper_20 : decode cX11_paper 20 = .ok (.iconst 2, 1) := by decide +kernel
theorem dX11_paper_21 : decode cX11_paper 21 = .ok (.if_icmp .eq 19, 3) := by decide +kernel
theorem dX11_paper_24 : decode cX11_paper 24 = .ok (.aload_n 0, 1) := by decide +kernel
theorem dX11_paper_25 : decode cX11_paper 25 = .ok (.getfield 17, 3) := by decide +kernel
theorem dX11_paper_28 : decode cX11_paper 28 = .ok (.iload_n 1, 1) := by decide +kernel
theorem dX11_paper_29 : decode cX11_paper 29 = .ok (.iaload, 1) := by decide +kernel
theorem dX11_paper_30 : decode cX11_paper 30 = .ok (.iconst 3, 1) := by decide +kernel
theorem dX11_paper_31 : decode cX11_paper 31 = .ok (.if_icmp .eq 9, 3) := by decide +kernel
theorem dX11_paper_34 : decode cX11_paper 34 = .ok (.aload_n 0, 1) := by decide +kernel
theorem dX11_paper_35 : decode cX11_paper 35 = .ok (.iconst 4, 1) := by decide +kernel
theorem dX11_paper_36 : decode cX11_paper 36 = .ok (.invokevirtual 238, 3) := by decide +kernel
theorem dX11_paper_39 : decode cX11_paper 39 = .ok (.ireturn, 1) := by decide +kernel
theorem dX11_paper_40 : decode cX11_paper 40 = .ok (.aload_n 0, 1) := by decide +kernel
theorem dX11_paper_41 : decode cX11_paper 41 = .ok (.getfield 66, 3) := by decide +kernel
theorem dX11_paper_44 : decode cX11_paper 44 = .ok (.aload_n 0, 1) := by decide +kernel
theorem dX11_paper_45 : decode cX11_paper 45 = .ok (.getfield 23, 3) := by decide +kernel
theorem dX11_paper_48 : decode cX11_paper 48 = .ok (.iload_n 1, 1) := by decide +kernel
theorem dX11_paper_49 : decode cX11_paper 49 = .ok (.iaload, 1) := by decide +kernel
theorem dX11_paper_50 : decode cX11_paper 50 = .ok (.iload_n 2, 1) := by decide +kernel
theorem dX11_paper_51 : decode cX11_paper 51 = .ok (.ifCond .ne 7, 3) := by decide +kernel
theorem dX11_paper_54 : decode cX11_paper 54 = .ok (.iconst 1, 1) := by decide +kernel
theorem dX11_paper_55 : decode cX11_paper 55 = .ok (.goto 4, 3) := by decide +kernel
theorem dX11_paper_58 : decode cX11_paper 58 = .ok (.iconst 0, 1) := by decide +kernel
theorem dX11_paper_59 : decode cX11_paper 59 = .ok (.bastore, 1) := by decide +kernel
theorem dX11_paper_60 : decode cX11_paper 60 = .ok (.aload_n 0, 1) := by decide +kernel
theorem dX11_paper_61 : decode cX11_paper 61 = .ok (.iconst 0, 1) := by decide +kernel
theorem dX11_paper_62 : decode cX11_paper 62 = .ok (.putfield 163, 3) := by decide +kernel
theorem dX11_paper_65 : decode cX11_paper 65 = .ok (.iconst 1, 1) := by decide +kernel
theorem dX11_paper_66 : decode cX11_paper 66 = .ok (.ireturn, 1) := by decide +kernel
theorem dX11_parting_0 : decode cX11_parting 0 = .ok (.aload_n 0, 1) := by decide +kernel
theorem dX11_parting_1 : decode cX11_parting 1 = .ok (.iload_n 1, 1) := by decide +kernel
theorem dX11_parting_2 : decode cX11_parting 2 = .ok (.invokevirtual 224, 3) := by decide +kernel
theorem dX11_parting_5 : decode cX11_parting 5 = .ok (.ifCond .ne 5, 3) := by decide +kernel
theorem dX11_parting_8 : decode cX11_parting 8 = .ok (.iconst 1, 1) := by decide +kernel
theorem dX11_parting_9 : decode cX11_parting 9 = .ok (.ireturn, 1) := by decide +kernel
theorem dX11_parting_10 : decode cX11_parting 10 = .ok (.aload_n 0, 1) := by decide +kernel
theorem dX11_parting_11 : decode cX11_parting 11 = .ok (.getfield 17, 3) := by decide +kernel
theorem dX11_parting_14 : decode cX11_parting 14 = .ok (.iload_n 1, 1) := by decide +kernel
theorem dX11_parting_15 : decode cX11_parting 15 = .ok (.iaload, 1) := by decide +kernel
theorem dX11_parting_16 : decode cX11_parting 16 = .ok (.istore 6, 2) := by decide +kernel
theorem dX11_parting_18 : decode cX11_parting 18 = .ok (.iload 6, 2) := by decide +kernel
theorem dX11_parting_20 : decode cX11_parting 20 = .ok (.bipush 6, 2) := by decide +kernel
theorem dX11_parting_22 : decode cX11_parting 22 = .ok (.if_icmp .eq 9, 3) := by decide +kernel
theorem dX11_parting_25 : decode cX11_parting 25 = .ok (.iload 6, 2) := by decide +kernel
theorem dX11_parting_27 : decode cX11_parting 27 = .ok (.iconst 4, 1) := by decide +kernel
theorem dX11_parting_28 : decode cX11_parting 28 = .ok (.if_icmp .ne 5, 3) := by decide +kernel
theorem dX11_parting_31 : decode cX11_parting 31 = .ok (.iconst 4, 1) := by decide +kernel
theorem dX11_parting_32 : decode cX11_parting 32 = .ok (.ireturn, 1) := by decide +kernel
theorem dX11_parting_33 : decode cX11_parting 33 = .ok (.iload 5, 2) := by decide +kernel
theorem dX11_parting_35 : decode cX11_parting 35 = .ok (.ifCond .eq 17, 3) := by decide +kernel
theorem dX11_parting_38 : decode cX11_parting 38 = .ok (.iload 4, 2) := by decide +kernel
theorem dX11_parting_40 : decode cX11_parting 40 = .ok (.iconst 1, 1) := by decide +kernel
theorem dX11_parting_41 : decode cX11_parting 41 = .ok (.if_icmp .lt 27, 3) := by decide +kernel
theorem dX11_parting_44 : decode cX11_parting 44 = .ok (.iload 4, 2) := by decide +kernel
theorem dX11_parting_46 : decode cX11_parting 46 = .ok (.sipush 1000, 3) := by decide +kernel
theorem dX11_parting_49 : decode cX11_parting 49 = .ok (.if_icmp .gt 19, 3) := by decide +kernel
theorem dX11_parting_52 : decode cX11_parting 52 = .ok (.lload_n 2, 1) := by decide +kernel
theorem dX11_parting_53 : decode cX11_parting 53 = .ok (.lconst 0, 1) := by decide +kernel
theorem dX11_parting_54 : decode cX11_parting 54 = .ok (.lcmp, 1) := by decide +kernel
theorem dX11_parting_55 : decode cX11_parting 55 = .ok (.ifCond .lt 13, 3) := by decide +kernel
theorem dX11_parting_58 : decode cX11_parting 58 = .ok (.lload_n 2, 1) := by decide +kernel
theorem dX11_parting_59 : decode cX11_parting 59 = .ok (.aload_n 0, 1) := by decide +kernel
theorem dX11_parting_60 : decode cX11_parting 60 = .ok (.iload_n 1, 1) := by decide +kernel
theorem dX11_parting_61 : decode cX11_parting 61 = .ok (.invokevirtual 263, 3) := by decide +kernel
theorem dX11_parting_64 : decode cX11_parting 64 = .ok (.lcmp, 1) := by decide +kernel
theorem dX11_parting_65 : decode cX11_parting 65 = .ok (.ifCond .le 5, 3) := by decide +kernel
theorem dX11_parting_68 : decode cX11_parting 68 = .ok (.iconst 5, 1) := by decide +kernel
theorem dX11_parting_69 : decode cX11_parting 69 = .ok (.ireturn, 1) := by decide +kernel
theorem dX11_parting_70 : decode cX11_parting 70 = .ok (.aload_n 0, 1) := by decide +kernel
theorem dX11_parting_71 : decode cX11_parting 71 = .ok (.iload_n 1, 1) := by decide +kernel
theorem dX11_parting_72 : decode cX11_parting 72 = .ok (.invokevirtual 260, 3) := by decide +kernel
theorem dX11_parting_75 : decode cX11_parting 75 = .ok (.ifCond .ne 6, 3) := by decide +kernel
theorem dX11_parting_78 : decode cX11_parting 78 = .ok (.bipush 6, 2) := by decide +kernel
theorem dX11_parting_80 : decode cX11_parting 80 = .ok (.ireturn, 1) := by decide +kernel
theorem dX11_parting_81 : decode cX11_parting 81 = .ok (.iload 5, 2) := by decide +kernel
theorem dX11_parting_83 : decode cX11_parting 83 = .ok (.ifCond .eq 32, 3) := by decide +kernel
theorem dX11_parting_86 : decode cX11_parting 86 = .ok (.iload 6, 2) := by decide +kernel
theorem dX11_parting_88 : decode cX11_parting 88 = .ok (.iconst 2, 1) := by decide +kernel
theorem dX11_parting_89 : decode cX11_parting 89 = .ok (.if_icmp .eq 9, 3) := by decide +kernel
theorem dX11_parting_92 : decode cX11_parting 92 = .ok (.iload 6, 2) := by decide +kernel
theorem dX11_parting_94 : decode cX11_parting 94 = .ok (.iconst 3, 1) := by decide +kernel
theorem dX11_parting_95 : decode cX11_parting 95 = .ok (.if_icmp .ne 20, 3) := by decide +kernel
theorem dX11_parting_98 : decode cX11_parting 98 = .ok (.aload_n 0, 1) := by decide +kernel
theorem dX11_parting_99 : decode cX11_parting 99 = .ok (.getfield 66, 3) := by decide +kernel
theorem dX11_parting_102 : decode cX11_parting 102 = .ok (.aload_n 0, 1) := by decide +kernel
theorem dX11_parting_103 : decode cX11_parting 103 = .ok (.getfield 23, 3) := by decide +kernel
theorem dX11_parting_106 : decode cX11_parting 106 = .ok (.iload_n 1, 1) := by decide +kernel
theorem dX11_parting_107 : decode cX11_parting 107 = .ok (.iaload, 1) := by decide +kernel
theorem dX11_parting_108 : decode cX11_parting 108 = .ok (.baload, 1) := by decide +kernel
theorem dX11_parting_109 : decode cX11_parting 109 = .ok (.ifCond .eq 6, 3) := by decide +kernel
theorem dX11_parting_112 : decode cX11_parting 112 = .ok (.bipush 7, 2) := by decide +kernel
theorem dX11_parting_114 : decode cX11_parting 114 = .ok (.ireturn, 1) := by decide +kernel
theorem dX11_parting_115 : decode cX11_parting 115 = .ok (.aload_n 0, 1) := by decide +kernel
theorem dX11_parting_116 : decode cX11_parting 116 = .ok (.getfield 36, 3) := by decide +kernel
theorem dX11_parting_119 : decode cX11_parting 119 = .ok (.iload_n 1, 1) := by decide +kernel
theorem dX11_parting_120 : decode cX11_parting 120 = .ok (.iaload, 1) := by decide +kernel
theorem dX11_parting_121 : decode cX11_parting 121 = .ok (.ifCond .eq 6, 3) := by decide +kernel
theorem dX11_parting_124 : decode cX11_parting 124 = .ok (.bipush 8, 2) := by decide +kernel
theorem dX11_parting_126 : decode cX11_parting 126 = .ok (.ireturn, 1) := by decide +kernel
theorem dX11_parting_127 : decode cX11_parting 127 = .ok (.aload_n 0, 1) := by decide +kernel
theorem dX11_parting_128 : decode cX11_parting 128 = .ok (.getfield 169, 3) := by decide +kernel
theorem dX11_parting_131 : decode cX11_parting 131 = .ok (.sipush 298, 3) := by decide +kernel
theorem dX11_parting_134 : decode cX11_parting 134 = .ok (.if_icmp .le 8, 3) := by decide +kernel
theorem dX11_parting_137 : decode cX11_parting 137 = .ok (.bipush 10, 2) := by decide +kernel
theorem dX11_parting_139 : decode cX11_parting 139 = .ok (.goto 4, 3) := by decide +kernel
theorem dX11_parting_142 : decode cX11_parting 142 = .ok (.iconst 0, 1) := by decide +kernel
theorem dX11_parting_143 : decode cX11_parting 143 = .ok (.ireturn, 1) := by decide +kernel
theorem dX11_part_0 : decode cX11_part 0 = .ok (.aload_n 0, 1) := by decide +kernel
theorem dX11_part_1 : decode cX11_part 1 = .ok (.getfield 23, 3) := by decide +kernel
theorem dX11_part_4 : decode cX11_part 4 = .ok (.iload_n 1, 1) := by decide +kernel
theorem dX11_part_5 : decode cX11_part 5 = .ok (.iaload, 1) := by decide +kernel
theorem dX11_part_6 : decode cX11_part 6 = .ok (.istore 5, 2) := by decide +kernel
theorem dX11_part_8 : decode cX11_part 8 = .ok (.aload_n 0, 1) := by decide +kernel
theorem dX11_part_9 : decode cX11_part 9 = .ok (.getfield 32, 3) := by decide +kernel
theorem dX11_part_12 : decode cX11_part 12 = .ok (.iload_n 1, 1) := by decide +kernel
theorem dX11_part_13 : decode cX11_part 13 = .ok (.laload, 1) := by decide +kernel
theorem dX11_part_14 : decode cX11_part 14 = .ok (.lstore 6, 2) := by decide +kernel
theorem dX11_part_16 : decode cX11_part 16 = .ok (.aload_n 0, 1) := by decide +kernel
theorem dX11_part_17 : decode cX11_part 17 = .ok (.aload_n 0, 1) := by decide +kernel
theorem dX11_part_18 : decode cX11_part 18 = .ok (.getfield 20, 3) := by decide +kernel
theorem dX11_part_21 : decode cX11_part 21 = .ok (.iload_n 1, 1) := by decide +kernel
theorem dX11_part_22 : decode cX11_part 22 = .ok (.iaload, 1) := by decide +kernel
theorem dX11_part_23 : decode cX11_part 23 = .ok (.aload_n 0, 1) := by decide +kernel
theorem dX11_part_24 : decode cX11_part 24 = .ok (.getfield 17, 3) := by decide +kernel
theorem dX11_part_27 : decode cX11_part 27 = .ok (.iload_n 1, 1) := by decide +kernel
theorem dX11_part_28 : decode cX11_part 28 = .ok (.iaload, 1) := by decide +kernel
theorem dX11_part_29 : decode cX11_part 29 = .ok (.iload 5, 2) := by decide +kernel
theorem dX11_part_31 : decode cX11_part 31 = .ok (.iload_n 1, 1) := by decide +kernel
theorem dX11_part_32 : decode cX11_part 32 = .ok (.aload_n 0, 1) := by decide +kernel
theorem dX11_part_33 : decode cX11_part 33 = .ok (.getfield 29, 3) := by decide +kernel
theorem dX11_part_36 : decode cX11_part 36 = .ok (.iload_n 1, 1) := by decide +kernel
theorem dX11_part_37 : decode cX11_part 37 = .ok (.iaload, 1) := by decide +kernel
theorem dX11_part_38 : decode cX11_part 38 = .ok (.lload_n 2, 1) := by decide +kernel
theorem dX11_part_39 : decode cX11_part 39 = .ok (.invokevirtual 248, 3) := by decide +kernel
theorem dX11_part_42 : decode cX11_part 42 = .ok (.istore 8, 2) := by decide +kernel
theorem dX11_part_44 : decode cX11_part 44 = .ok (.aload_n 0, 1) := by decide +kernel
theorem dX11_part_45 : decode cX11_part 45 = .ok (.aload_n 0, 1) := by decide +kernel
theorem dX11_part_46 : decode cX11_part 46 = .ok (.getfield 20, 3) := by decide +kernel
theorem dX11_part_49 : decode cX11_part 49 = .ok (.iload_n 1, 1) := by decide +kernel
theorem dX11_part_50 : decode cX11_part 50 = .ok (.iaload, 1) := by decide +kernel
theorem dX11_part_51 : decode cX11_part 51 = .ok (.aload_n 0, 1) := by decide +kernel
theorem dX11_part_52 : decode cX11_part 52 = .ok (.getfield 17, 3) := by decide +kernel
theorem dX11_part_55 : decode cX11_part 55 = .ok (.iload_n 1, 1) := by decide +kernel
theorem dX11_part_56 : decode cX11_part 56 = .ok (.iaload, 1) := by decide +kernel
theorem dX11_part_57 : decode cX11_part 57 = .ok (.iload 5, 2) := by decide +kernel
theorem dX11_part_59 : decode cX11_part 59 = .ok (.iload_n 1, 1) := by decide +kernel
theorem dX11_part_60 : decode cX11_part 60 = .ok (.iload 4, 2) := by decide +kernel
theorem dX11_part_62 : decode cX11_part 62 = .ok (.lload 6, 2) := by decide +kernel
theorem dX11_part_64 : decode cX11_part 64 = .ok (.lload_n 2, 1) := by decide +kernel
theorem dX11_part_65 : decode cX11_part 65 = .ok (.lsub, 1) := by decide +kernel
theorem dX11_part_66 : decode cX11_part 66 = .ok (.invokevirtual 248, 3) := by decide +kernel
theorem dX11_part_69 : decode cX11_part 69 = .ok (.istore 9, 2) := by decide +kernel
theorem dX11_part_71 : decode cX11_part 71 = .ok (.aload_n 0, 1) := by decide +kernel
theorem dX11_part_72 : decode cX11_part 72 = .ok (.getfield 36, 3) := by decide +kernel
theorem dX11_part_75 : decode cX11_part 75 = .ok (.iload_n 1, 1) := by decide +kernel
theorem dX11_part_76 : decode cX11_part 76 = .ok (.iload 8, 2) := by decide +kernel
theorem dX11_part_78 : decode cX11_part 78 = .ok (.iastore, 1) := by decide +kernel
theorem dX11_part_79 : decode cX11_part 79 = .ok (.aload_n 0, 1) := by decide +kernel
theorem dX11_part_80 : decode cX11_part 80 = .ok (.iconst 0, 1) := by decide +kernel
theorem dX11_part_81 : decode cX11_part 81 = .ok (.putfield 163, 3) := by decide +kernel
theorem dX11_part_84 : decode cX11_part 84 = .ok (.iload 9, 2) := by decide +kernel
theorem dX11_part_86 : decode cX11_part 86 = .ok (.iconst 1, 1) := by decide +kernel
theorem dX11_part_87 : decode cX11_part 87 = .ok (.isub, 1) := by decide +kernel
theorem dX11_part_88 : decode cX11_part 88 = .ok (.ireturn, 1) := by decide +kernel
theorem dX11_split_0 : decode cX11_split 0 = .ok (.aload_n 0, 1) := by decide +kernel
theorem dX11_split_1 : decode cX11_split 1 = .ok (.iload_n 1, 1) := by decide +kernel
theorem dX11_split_2 : decode cX11_split 2 = .ok (.lload_n 2, 1) := by decide +kernel
theorem dX11_split_3 : decode cX11_split 3 = .ok (.iconst 1, 1) := by decide +kernel
theorem dX11_split_4 : decode cX11_split 4 = .ok (.iconst 0, 1) := by decide +kernel
theorem dX11_split_5 : decode cX11_split 5 = .ok (.invokevirtual 267, 3) := by decide +kernel
theorem dX11_split_8 : decode cX11_split 8 = .ok (.istore 4, 2) := by decide +kernel
theorem dX11_split_10 : decode cX11_split 10 = .ok (.iload 4, 2) := by decide +kernel
theorem dX11_split_12 : decode cX11_split 12 = .ok (.ifCond .le 10, 3) := by decide +kernel
theorem dX11_split_15 : decode cX11_split 15 = .ok (.aload_n 0, 1) := by decide +kernel
theorem dX11_split_16 : decode cX11_split 16 = .ok (.iload 4, 2) := by decide +kernel
theorem dX11_split_18 : decode cX11_split 18 = .ok (.invokevirtual 231, 3) := by decide +kernel
theorem dX11_split_21 : decode cX11_split 21 = .ok (.ireturn, 1) := by decide +kernel
theorem dX11_split_22 : decode cX11_split 22 = .ok (.aload_n 0, 1) := by decide +kernel
theorem dX11_split_23 : decode cX11_split 23 = .ok (.iload_n 1, 1) := by decide +kernel
theorem dX11_split_24 : decode cX11_split 24 = .ok (.lload_n 2, 1) := by decide +kernel
theorem dX11_split_25 : decode cX11_split 25 = .ok (.aload_n 0, 1) := by decide +kernel
theorem dX11_split_26 : decode cX11_split 26 = .ok (.getfield 29, 3) := by decide +kernel
theorem dX11_split_29 : decode cX11_split 29 = .ok (.iload_n 1, 1) := by decide +kernel
theorem dX11_split_30 : decode cX11_split 30 = .ok (.iaload, 1) := by decide +kernel
theorem dX11_split_31 : decode cX11_split 31 = .ok (.invokevirtual 271, 3) := by decide +kernel
theorem dX11_split_34 : decode cX11_split 34 = .ok (.ireturn, 1) := by decide +kernel
theorem dX11_hand_0 : decode cX11_hand 0 = .ok (.aload_n 0, 1) := by decide +kernel
theorem dX11_hand_1 : decode cX11_hand 1 = .ok (.iload_n 1, 1) := by decide +kernel
theorem dX11_hand_2 : decode cX11_hand 2 = .ok (.lload_n 2, 1) := by decide +kernel
theorem dX11_hand_3 : decode cX11_hand 3 = .ok (.iload 4, 2) := by decide +kernel
theorem dX11_hand_5 : decode cX11_hand 5 = .ok (.iconst 1, 1) := by decide +kernel
theorem dX11_hand_6 : decode cX11_hand 6 = .ok (.invokevirtual 267, 3) := by decide +kernel
theorem dX11_hand_9 : decode cX11_hand 9 = .ok (.istore 5, 2) := by decide +kernel
theorem dX11_hand_11 : decode cX11_hand 11 = .ok (.iload 5, 2) := by decide +kernel
theorem dX11_hand_13 : decode cX11_hand 13 = .ok (.ifCond .le 10, 3) := by decide +kernel
theorem dX11_hand_16 : decode cX11_hand 16 = .ok (.aload_n 0, 1) := by decide +kernel
theorem dX11_hand_17 : decode cX11_hand 17 = .ok (.iload 5, 2) := by decide +kernel
theorem dX11_hand_19 : decode cX11_hand 19 = .ok (.invokevirtual 231, 3) := by decide +kernel
theorem dX11_hand_22 : decode cX11_hand 22 = .ok (.ireturn, 1) := by decide +kernel
theorem dX11_hand_23 : decode cX11_hand 23 = .ok (.aload_n 0, 1) := by decide +kernel
theorem dX11_hand_24 : decode cX11_hand 24 = .ok (.getfield 32, 3) := by decide +kernel
theorem dX11_hand_27 : decode cX11_hand 27 = .ok (.iload_n 1, 1) := by decide +kernel
theorem dX11_hand_28 : decode cX11_hand 28 = .ok (.laload, 1) := by decide +kernel
theorem dX11_hand_29 : decode cX11_hand 29 = .ok (.lload_n 2, 1) := by decide +kernel
theorem dX11_hand_30 : decode cX11_hand 30 = .ok (.lsub, 1) := by decide +kernel
theorem dX11_hand_31 : decode cX11_hand 31 = .ok (.lstore 6, 2) := by decide +kernel
theorem dX11_hand_33 : decode cX11_hand 33 = .ok (.aload_n 0, 1) := by decide +kernel
theorem dX11_hand_34 : decode cX11_hand 34 = .ok (.iload_n 1, 1) := by decide +kernel
theorem dX11_hand_35 : decode cX11_hand 35 = .ok (.lload 6, 2) := by decide +kernel
theorem dX11_hand_37 : decode cX11_hand 37 = .ok (.iload 4, 2) := by decide +kernel
theorem dX11_hand_39 : decode cX11_hand 39 = .ok (.invokevirtual 271, 3) := by decide +kernel
theorem dX11_hand_42 : decode cX11_hand 42 = .ok (.iconst 1, 1) := by decide +kernel
theorem dX11_hand_43 : decode cX11_hand 43 = .ok (.iadd, 1) := by decide +kernel
theorem dX11_hand_44 : decode cX11_hand 44 = .ok (.ireturn, 1) := by decide +kernel
theorem dX11_isUndone_0 : decode cX11_isUndone 0 = .ok (.aload_n 0, 1) := by decide +kernel
theorem dX11_isUndone_1 : decode cX11_isUndone 1 = .ok (.getfield 117, 3) := by decide +kernel
theorem dX11_isUndone_4 : decode cX11_isUndone 4 = .ok (.iload_n 1, 1) := by decide +kernel
theorem dX11_isUndone_5 : decode cX11_isUndone 5 = .ok (.iaload, 1) := by decide +kernel
theorem dX11_isUndone_6 : decode cX11_isUndone 6 = .ok (.iconst (-1), 1) := by decide +kernel
theorem dX11_isUndone_7 : decode cX11_isUndone 7 = .ok (.if_icmp .eq 7, 3) := by decide +kernel
theorem dX11_isUndone_10 : decode cX11_isUndone 10 = .ok (.iconst 1, 1) := by decide +kernel
theorem dX11_isUndone_11 : decode cX11_isUndone 11 = .ok (.goto 4, 3) := by decide +kernel
theorem dX11_isUndone_14 : decode cX11_isUndone 14 = .ok (.iconst 0, 1) := by decide +kernel
theorem dX11_isUndone_15 : decode cX11_isUndone 15 = .ok (.ireturn, 1) := by decide +kernel
theorem dX11_measure_0 : decode cX11_measure 0 = .ok (.iconst 1, 1) := by decide +kernel
theorem dX11_measure_1 : decode cX11_measure 1 = .ok (.istore_n 2, 1) := by decide +kernel
theorem dX11_measure_2 : decode cX11_measure 2 = .ok (.iload_n 2, 1) := by decide +kernel
theorem dX11_measure_3 : decode cX11_measure 3 = .ok (.aload_n 0, 1) := by decide +kernel
theorem dX11_measure_4 : decode cX11_measure 4 = .ok (.getfield 169, 3) := by decide +kernel
theorem dX11_measure_7 : decode cX11_measure 7 = .ok (.if_icmp .gt 25, 3) := by decide +kernel
theorem dX11_measure_10 : decode cX11_measure 10 = .ok (.aload_n 0, 1) := by decide +kernel
theorem dX11_measure_11 : decode cX11_measure 11 = .ok (.getfield 130, 3) := by decide +kernel
theorem dX11_measure_14 : decode cX11_measure 14 = .ok (.iload_n 2, 1) := by decide +kernel
theorem dX11_measure_15 : decode cX11_measure 15 = .ok (.iload_n 2, 1) := by decide +kernel
theorem dX11_measure_16 : decode cX11_measure 16 = .ok (.iload_n 1, 1) := by decide +kernel
theorem dX11_measure_17 : decode cX11_measure 17 = .ok (.if_icmp .ne 7, 3) := by decide +kernel
theorem dX11_measure_20 : decode cX11_measure 20 = .ok (.iconst 0, 1) := by decide +kernel
theorem dX11_measure_21 : decode cX11_measure 21 = .ok (.goto 4, 3) := by decide +kernel
theorem dX11_measure_24 : decode cX11_measure 24 = .ok (.iconst (-1), 1) := by decide +kernel
theorem dX11_measure_25 : decode cX11_measure 25 = .ok (.iastore, 1) := by decide +kernel
theorem dX11_measure_26 : decode cX11_measure 26 = .ok (.iinc 2 1, 3) := by decide +kernel
theorem dX11_measure_29 : decode cX11_measure 29 = .ok (.goto (-27), 3) := by decide +kernel
theorem dX11_measure_32 : decode cX11_measure 32 = .ok (.iconst 0, 1) := by decide +kernel
theorem dX11_measure_33 : decode cX11_measure 33 = .ok (.istore_n 2, 1) := by decide +kernel
theorem dX11_measure_34 : decode cX11_measure 34 = .ok (.iload_n 2, 1) := by decide +kernel
theorem dX11_measure_35 : decode cX11_measure 35 = .ok (.aload_n 0, 1) := by decide +kernel
theorem dX11_measure_36 : decode cX11_measure 36 = .ok (.getfield 169, 3) := by decide +kernel
theorem dX11_measure_39 : decode cX11_measure 39 = .ok (.if_icmp .ge 91, 3) := by decide +kernel
theorem dX11_measure_42 : decode cX11_measure 42 = .ok (.iconst 1, 1) := by decide +kernel
theorem dX11_measure_43 : decode cX11_measure 43 = .ok (.istore_n 3, 1) := by decide +kernel
theorem dX11_measure_44 : decode cX11_measure 44 = .ok (.iload_n 3, 1) := by decide +kernel
theorem dX11_measure_45 : decode cX11_measure 45 = .ok (.aload_n 0, 1) := by decide +kernel
theorem dX11_measure_46 : decode cX11_measure 46 = .ok (.getfield 275, 3) := by decide +kernel
theorem dX11_measure_49 : decode cX11_measure 49 = .ok (.if_icmp .gt 75, 3) := by decide +kernel
theorem dX11_measure_52 : decode cX11_measure 52 = .ok (.aload_n 0, 1) := by decide +kernel
theorem dX11_measure_53 : decode cX11_measure 53 = .ok (.getfield 23, 3) := by decide +kernel
theorem dX11_measure_56 : decode cX11_measure 56 = .ok (.aload_n 0, 1) := by decide +kernel
theorem dX11_measure_57 : decode cX11_measure 57 = .ok (.getfield 99, 3) := by decide +kernel
theorem dX11_measure_60 : decode cX11_measure 60 = .ok (.iload_n 3, 1) := by decide +kernel
theorem dX11_measure_61 : decode cX11_measure 61 = .ok (.iaload, 1) := by decide +kernel
theorem dX11_measure_62 : decode cX11_measure 62 = .ok (.iaload, 1) := by decide +kernel
theorem dX11_measure_63 : decode cX11_measure 63 = .ok (.istore 4, 2) := by decide +kernel
theorem dX11_measure_65 : decode cX11_measure 65 = .ok (.aload_n 0, 1) := by decide +kernel
theorem dX11_measure_66 : decode cX11_measure 66 = .ok (.getfield 23, 3) := by decide +kernel
theorem dX11_measure_69 : decode cX11_measure 69 = .ok (.aload_n 0, 1) := by decide +kernel
theorem dX11_measure_70 : decode cX11_measure 70 = .ok (.getfield 102, 3) := by decide +kernel
theorem dX11_measure_73 : decode cX11_measure 73 = .ok (.iload_n 3, 1) := by decide +kernel
theorem dX11_measure_74 : decode cX11_measure 74 = .ok (.iaload, 1) := by decide +kernel
theorem dX11_measure_75 : decode cX11_measure 75 = .ok (.iaload, 1) := by decide +kernel
theorem dX11_measure_76 : decode cX11_measure 76 = .ok (.istore 5, 2) := by decide +kernel
theorem dX11_measure_78 : decode cX11_measure 78 = .ok (.aload_n 0, 1) := by decide +kernel
theorem dX11_measure_79 : decode cX11_measure 79 = .ok (.iload_n 3, 1) := by decide +kernel
theorem dX11_measure_80 : decode cX11_measure 80 = .ok (.invokevirtual 278, 3) := by decide +kernel
theorem dX11_measure_83 : decode cX11_measure 83 = .ok (.ifCond .ne 35, 3) := by decide +kernel
theorem dX11_measure_86 : decode cX11_measure 86 = .ok (.aload_n 0, 1) := by decide +kernel
theorem dX11_measure_87 : decode cX11_measure 87 = .ok (.getfield 130, 3) := by decide +kernel
theorem dX11_measure_90 : decode cX11_measure 90 = .ok (.iload 5, 2) := by decide +kernel
theorem dX11_measure_92 : decode cX11_measure 92 = .ok (.iaload, 1) := by decide +kernel
theorem dX11_measure_93 : decode cX11_measure 93 = .ok (.iload_n 2, 1) := by decide +kernel
theorem dX11_measure_94 : decode cX11_measure 94 = .ok (.if_icmp .ne 24, 3) := by decide +kernel
theorem dX11_measure_97 : decode cX11_measure 97 = .ok (.aload_n 0, 1) := by decide +kernel
theorem dX11_measure_98 : decode cX11_measure 98 = .ok (.getfield 130, 3) := by decide +kernel
theorem dX11_measure_101 : decode cX11_measure 101 = .ok (.iload 4, 2) := by decide +kernel
theorem dX11_measure_103 : decode cX11_measure 103 = .ok (.iaload, 1) := by decide +kernel
theorem dX11_measure_104 : decode cX11_measure 104 = .ok (.iconst (-1), 1) := by decide +kernel
theorem dX11_measure_105 : decode cX11_measure 105 = .ok (.if_icmp .ne 13, 3) := by decide +kernel
theorem dX11_measure_108 : decode cX11_measure 108 = .ok (.aload_n 0, 1) := by decide +kernel
theorem dX11_measure_109 : decode cX11_measure 109 = .ok (.getfield 130, 3) := by decide +kernel
theorem dX11_measure_112 : decode cX11_measure 112 = .ok (.iload 4, 2) := by decide +kernel
theorem dX11_measure_114 : decode cX11_measure 114 = .ok (.iload_n 2, 1) := by decide +kernel
theorem dX11_measure_115 : decode cX11_measure 115 = .ok (.iconst 1, 1) := by decide +kernel
theorem dX11_measure_116 : decode cX11_measure 116 = .ok (.iadd, 1) := by decide +kernel
theorem dX11_measure_117 : decode cX11_measure 117 = .ok (.iastore, 1) := by decide +kernel
theorem dX11_measure_118 : decode cX11_measure 118 = .ok (.iinc 3 1, 3) := by decide +kernel
theorem dX11_measure_121 : decode cX11_measure 121 = .ok (.goto (-77), 3) := by decide +kernel
theorem dX11_measure_124 : decode cX11_measure 124 = .ok (.iinc 2 1, 3) := by decide +kernel
theorem dX11_measure_127 : decode cX11_measure 127 = .ok (.goto (-93), 3) := by decide +kernel
theorem dX11_measure_130 : decode cX11_measure 130 = .ok (.return_, 1) := by decide +kernel
theorem dX11_draw_0 : decode cX11_draw 0 = .ok (.aload_n 0, 1) := by decide +kernel
theorem dX11_draw_1 : decode cX11_draw 1 = .ok (.getfield 133, 3) := by decide +kernel
theorem dX11_draw_4 : decode cX11_draw 4 = .ok (.iconst 0, 1) := by decide +kernel
theorem dX11_draw_5 : decode cX11_draw 5 = .ok (.iload_n 1, 1) := by decide +kernel
theorem dX11_draw_6 : decode cX11_draw 6 = .ok (.iastore, 1) := by decide +kernel
theorem dX11_draw_7 : decode cX11_draw 7 = .ok (.aload_n 0, 1) := by decide +kernel
theorem dX11_draw_8 : decode cX11_draw 8 = .ok (.iconst 1, 1) := by decide +kernel
theorem dX11_draw_9 : decode cX11_draw 9 = .ok (.putfield 281, 3) := by decide +kernel
theorem dX11_draw_12 : decode cX11_draw 12 = .ok (.iload_n 2, 1) := by decide +kernel
theorem dX11_draw_13 : decode cX11_draw 13 = .ok (.istore_n 3, 1) := by decide +kernel
theorem dX11_draw_14 : decode cX11_draw 14 = .ok (.iload_n 3, 1) := by decide +kernel
theorem dX11_draw_15 : decode cX11_draw 15 = .ok (.iload_n 1, 1) := by decide +kernel
theorem dX11_draw_16 : decode cX11_draw 16 = .ok (.if_icmp .eq 133, 3) := by decide +kernel
theorem dX11_draw_19 : decode cX11_draw 19 = .ok (.aload_n 0, 1) := by decide +kernel
theorem dX11_draw_20 : decode cX11_draw 20 = .ok (.getfield 133, 3) := by decide +kernel
theorem dX11_draw_23 : decode cX11_draw 23 = .ok (.aload_n 0, 1) := by decide +kernel
theorem dX11_draw_24 : decode cX11_draw 24 = .ok (.getfield 281, 3) := by decide +kernel
theorem dX11_draw_27 : decode cX11_draw 27 = .ok (.iload_n 3, 1) := by decide +kernel
theorem dX11_draw_28 : decode cX11_draw 28 = .ok (.iastore, 1) := by decide +kernel
theorem dX11_draw_29 : decode cX11_draw 29 = .ok (.aload_n 0, 1) := by decide +kernel
theorem dX11_draw_30 : decode cX11_draw 30 = .ok (.dup, 1) := by decide +kernel
theorem dX11_draw_31 : decode cX11_draw 31 = .ok (.getfield 281, 3) := by decide +kernel
theorem dX11_draw_34 : decode cX11_draw 34 = .ok (.iconst 1, 1) := by decide +kernel
theorem dX11_draw_35 : decode cX11_draw 35 = .ok (.iadd, 1) := by decide +kernel
theorem dX11_draw_36 : decode cX11_draw 36 = .ok (.putfield 281, 3) := by decide +kernel
theorem dX11_draw_39 : decode cX11_draw 39 = .ok (.iconst 0, 1) := by decide +kernel
theorem dX11_draw_40 : decode cX11_draw 40 = .ok (.istore 4, 2) := by decide +kernel
theorem dX11_draw_42 : decode cX11_draw 42 = .ok (.aload_n 0, 1) := by decide +kernel
theorem dX11_draw_43 : decode cX11_draw 43 = .ok (.getfield 275, 3) := by decide +kernel
theorem dX11_draw_46 : decode cX11_draw 46 = .ok (.istore 5, 2) := by decide +kernel
theorem dX11_draw_48 : decode cX11_draw 48 = .ok (.iload 5, 2) := by decide +kernel
theorem dX11_draw_50 : decode cX11_draw 50 = .ok (.ifCond .le 83, 3) := by decide +kernel
theorem dX11_draw_53 : decode cX11_draw 53 = .ok (.aload_n 0, 1) := by decide +kernel
theorem dX11_draw_54 : decode cX11_draw 54 = .ok (.iload 5, 2) := by decide +kernel
theorem dX11_draw_56 : decode cX11_draw 56 = .ok (.invokevirtual 278, 3) := by decide +kernel
theorem dX11_draw_59 : decode cX11_draw 59 = .ok (.ifCond .ne 51, 3) := by decide +kernel
theorem dX11_draw_62 : decode cX11_draw 62 = .ok (.aload_n 0, 1) := by decide +kernel
theorem dX11_draw_63 : decode cX11_draw 63 = .ok (.getfield 23, 3) := by decide +kernel
theorem dX11_draw_66 : decode cX11_draw 66 = .ok (.aload_n 0, 1) := by decide +kernel
theorem dX11_draw_67 : decode cX11_draw 67 = .ok (.getfield 99, 3) := by decide +kernel
theorem dX11_draw_70 : decode cX11_draw 70 = .ok (.iload 5, 2) := by decide +kernel
theorem dX11_draw_72 : decode cX11_draw 72 = .ok (.iaload, 1) := by decide +kernel
theorem dX11_draw_73 : decode cX11_draw 73 = .ok (.iaload, 1) := by decide +kernel
theorem dX11_draw_74 : decode cX11_draw 74 = .ok (.iload_n 3, 1) := by decide +kernel
theorem dX11_draw_75 : decode cX11_draw 75 = .ok (.if_icmp .ne 35, 3) := by decide +kernel
theorem dX11_draw_78 : decode cX11_draw 78 = .ok (.aload_n 0, 1) := by decide +kernel
theorem dX11_draw_79 : decode cX11_draw 79 = .ok (.getfield 130, 3) := by decide +kernel
theorem dX11_draw_82 : decode cX11_draw 82 = .ok (.aload_n 0, 1) := by decide +kernel
theorem dX11_draw_83 : decode cX11_draw 83 = .ok (.getfield 23, 3) := by decide +kernel
theorem dX11_draw_86 : decode cX11_draw 86 = .ok (.aload_n 0, 1) := by decide +kernel
theorem dX11_draw_87 : decode cX11_draw 87 = .ok (.getfield 102, 3) := by decide +kernel
theorem dX11_draw_90 : decode cX11_draw 90 = .ok (.iload 5, 2) := by decide +kernel
theorem dX11_draw_92 : decode cX11_draw 92 = .ok (.iaload, 1) := by decide +kernel
theorem dX11_draw_93 : decode cX11_draw 93 = .ok (.iaload, 1) := by decide +kernel
theorem dX11_draw_94 : decode cX11_draw 94 = .ok (.iaload, 1) := by decide +kernel
theorem dX11_draw_95 : decode cX11_draw 95 = .ok (.aload_n 0, 1) := by decide +kernel
theorem dX11_draw_96 : decode cX11_draw 96 = .ok (.getfield 130, 3) := by decide +kernel
theorem dX11_draw_99 : decode cX11_draw 99 = .ok (.iload_n 3, 1) := by decide +kernel
theorem dX11_draw_100 : decode cX11_draw 100 = .ok (.iaload, 1) := by decide +kernel
theorem dX11_draw_101 : decode cX11_draw 101 = .ok (.iconst 1, 1) := by decide +kernel
theorem dX11_draw_102 : decode cX11_draw 102 = .ok (.isub, 1) := by decide +kernel
theorem dX11_draw_103 : decode cX11_draw 103 = .ok (.if_icmp .ne 7, 3) := by decide +kernel
theorem dX11_draw_106 : decode cX11_draw 106 = .ok (.iconst 1, 1) := by decide +kernel
theorem dX11_draw_107 : decode cX11_draw 107 = .ok (.goto 4, 3) := by decide +kernel
theorem dX11_draw_110 : decode cX11_draw 110 = .ok (.iconst 0, 1) := by decide +kernel
theorem dX11_draw_111 : decode cX11_draw 111 = .ok (.istore 6, 2) := by decide +kernel
theorem dX11_draw_113 : decode cX11_draw 113 = .ok (.iload 6, 2) := by decide +kernel
theorem dX11_draw_115 : decode cX11_draw 115 = .ok (.ifCond .eq 8, 3) := by decide +kernel
theorem dX11_draw_118 : decode cX11_draw 118 = .ok (.iload 5, 2) := by decide +kernel
theorem dX11_draw_120 : decode cX11_draw 120 = .ok (.goto 5, 3) := by decide +kernel
theorem dX11_draw_123 : decode cX11_draw 123 = .ok (.iload 4, 2) := by decide +kernel
theorem dX11_draw_125 : decode cX11_draw 125 = .ok (.istore 4, 2) := by decide +kernel
theorem dX11_draw_127 : decode cX11_draw 127 = .ok (.iinc 5 (-1), 3) := by decide +kernel
theorem dX11_draw_130 : decode cX11_draw 130 = .ok (.goto (-82), 3) := by decide +kernel
theorem dX11_draw_133 : decode cX11_draw 133 = .ok (.aload_n 0, 1) := by decide +kernel
theorem dX11_draw_134 : decode cX11_draw 134 = .ok (.getfield 23, 3) := by decide +kernel
theorem dX11_draw_137 : decode cX11_draw 137 = .ok (.aload_n 0, 1) := by decide +kernel
theorem dX11_draw_138 : decode cX11_draw 138 = .ok (.getfield 102, 3) := by decide +kernel
theorem dX11_draw_141 : decode cX11_draw 141 = .ok (.iload 4, 2) := by decide +kernel
theorem dX11_draw_143 : decode cX11_draw 143 = .ok (.iaload, 1) := by decide +kernel
theorem dX11_draw_144 : decode cX11_draw 144 = .ok (.iaload, 1) := by decide +kernel
theorem dX11_draw_145 : decode cX11_draw 145 = .ok (.istore_n 3, 1) := by decide +kernel
theorem dX11_draw_146 : decode cX11_draw 146 = .ok (.goto (-132), 3) := by decide +kernel
theorem dX11_draw_149 : decode cX11_draw 149 = .ok (.return_, 1) := by decide +kernel
theorem dX11_post_0 : decode cX11_post 0 = .ok (.aload_n 0, 1) := by decide +kernel
theorem dX11_post_1 : decode cX11_post 1 = .ok (.iload_n 1, 1) := by decide +kernel
theorem dX11_post_2 : decode cX11_post 2 = .ok (.invokevirtual 224, 3) := by decide +kernel
theorem dX11_post_5 : decode cX11_post 5 = .ok (.ifCond .eq 11, 3) := by decide +kernel
theorem dX11_post_8 : decode cX11_post 8 = .ok (.aload_n 0, 1) := by decide +kernel
theorem dX11_post_9 : decode cX11_post 9 = .ok (.iload_n 2, 1) := by decide +kernel
theorem dX11_post_10 : decode cX11_post 10 = .ok (.invokevirtual 224, 3) := by decide +kernel
theorem dX11_post_13 : decode cX11_post 13 = .ok (.ifCond .ne 9, 3) := by decide +kernel
theorem dX11_post_16 : decode cX11_post 16 = .ok (.aload_n 0, 1) := by decide +kernel
theorem dX11_post_17 : decode cX11_post 17 = .ok (.iconst 1, 1) := by decide +kernel
theorem dX11_post_18 : decode cX11_post 18 = .ok (.invokevirtual 231, 3) := by decide +kernel
theorem dX11_post_21 : decode cX11_post 21 = .ok (.ireturn, 1) := by decide +kernel
theorem dX11_post_22 : decode cX11_post 22 = .ok (.aload_n 0, 1) := by decide +kernel
theorem dX11_post_23 : decode cX11_post 23 = .ok (.getfield 17, 3) := by decide +kernel
theorem dX11_post_26 : decode cX11_post 26 = .ok (.iload_n 1, 1) := by decide +kernel
theorem dX11_post_27 : decode cX11_post 27 = .ok (.iaload, 1) := by decide +kernel
theorem dX11_post_28 : decode cX11_post 28 = .ok (.bipush 6, 2) := by decide +kernel
theorem dX11_post_30 : decode cX11_post 30 = .ok (.if_icmp .eq 14, 3) := by decide +kernel
theorem dX11_post_33 : decode cX11_post 33 = .ok (.aload_n 0, 1) := by decide +kernel
theorem dX11_post_34 : decode cX11_post 34 = .ok (.getfield 17, 3) := by decide +kernel
theorem dX11_post_37 : decode cX11_post 37 = .ok (.iload_n 2, 1) := by decide +kernel
theorem dX11_post_38 : decode cX11_post 38 = .ok (.iaload, 1) := by decide +kernel
theorem dX11_post_39 : decode cX11_post 39 = .ok (.bipush 6, 2) := by decide +kernel
theorem dX11_post_41 : decode cX11_post 41 = .ok (.if_icmp .ne 9, 3) := by decide +kernel
theorem dX11_post_44 : decode cX11_post 44 = .ok (.aload_n 0, 1) := by decide +kernel
theorem dX11_post_45 : decode cX11_post 45 = .ok (.iconst 4, 1) := by decide +kernel
theorem dX11_post_46 : decode cX11_post 46 = .ok (.invokevirtual 231, 3) := by decide +kernel
theorem dX11_post_49 : decode cX11_post 49 = .ok (.ireturn, 1) := by decide +kernel
theorem dX11_post_50 : decode cX11_post 50 = .ok (.lload_n 3, 1) := by decide +kernel
theorem dX11_post_51 : decode cX11_post 51 = .ok (.lconst 0, 1) := by decide +kernel
theorem dX11_post_52 : decode cX11_post 52 = .ok (.lcmp, 1) := by decide +kernel
theorem dX11_post_53 : decode cX11_post 53 = .ok (.ifCond .lt 26, 3) := by decide +kernel
theorem dX11_post_56 : decode cX11_post 56 = .ok (.lload_n 3, 1) := by decide +kernel
theorem dX11_post_57 : decode cX11_post 57 = .ok (.ldc2_w 246, 3) := by decide +kernel
theorem dX11_post_60 : decode cX11_post 60 = .ok (.lcmp, 1) := by decide +kernel
theorem dX11_post_61 : decode cX11_post 61 = .ok (.ifCond .gt 18, 3) := by decide +kernel
theorem dX11_post_64 : decode cX11_post 64 = .ok (.aload_n 0, 1) := by decide +kernel
theorem dX11_post_65 : decode cX11_post 65 = .ok (.getfield 23, 3) := by decide +kernel
theorem dX11_post_68 : decode cX11_post 68 = .ok (.iload_n 1, 1) := by decide +kernel
theorem dX11_post_69 : decode cX11_post 69 = .ok (.iaload, 1) := by decide +kernel
theorem dX11_post_70 : decode cX11_post 70 = .ok (.aload_n 0, 1) := by decide +kernel
theorem dX11_post_71 : decode cX11_post 71 = .ok (.getfield 23, 3) := by decide +kernel
theorem dX11_post_74 : decode cX11_post 74 = .ok (.iload_n 2, 1) := by decide +kernel
theorem dX11_post_75 : decode cX11_post 75 = .ok (.iaload, 1) := by decide +kernel
theorem dX11_post_76 : decode cX11_post 76 = .ok (.if_icmp .ne 9, 3) := by decide +kernel
theorem dX11_post_79 : decode cX11_post 79 = .ok (.aload_n 0, 1) := by decide +kernel
theorem dX11_post_80 : decode cX11_post 80 = .ok (.iconst 5, 1) := by decide +kernel
theorem dX11_post_81 : decode cX11_post 81 = .ok (.invokevirtual 231, 3) := by decide +kernel
theorem dX11_post_84 : decode cX11_post 84 = .ok (.ireturn, 1) := by decide +kernel
theorem dX11_post_85 : decode cX11_post 85 = .ok (.aload_n 0, 1) := by decide +kernel
theorem dX11_post_86 : decode cX11_post 86 = .ok (.iload_n 1, 1) := by decide +kernel
theorem dX11_post_87 : decode cX11_post 87 = .ok (.invokevirtual 260, 3) := by decide +kernel
theorem dX11_post_90 : decode cX11_post 90 = .ok (.ifCond .eq 26, 3) := by decide +kernel
theorem dX11_post_93 : decode cX11_post 93 = .ok (.aload_n 0, 1) := by decide +kernel
theorem dX11_post_94 : decode cX11_post 94 = .ok (.iload_n 2, 1) := by decide +kernel
theorem dX11_post_95 : decode cX11_post 95 = .ok (.invokevirtual 195, 3) := by decide +kernel
theorem dX11_post_98 : decode cX11_post 98 = .ok (.ifCond .eq 18, 3) := by decide +kernel
theorem dX11_post_101 : decode cX11_post 101 = .ok (.aload_n 0, 1) := by decide +kernel
theorem dX11_post_102 : decode cX11_post 102 = .ok (.getfield 20, 3) := by decide +kernel
theorem dX11_post_105 : decode cX11_post 105 = .ok (.iload_n 1, 1) := by decide +kernel
theorem dX11_post_106 : decode cX11_post 106 = .ok (.iaload, 1) := by decide +kernel
theorem dX11_post_107 : decode cX11_post 107 = .ok (.aload_n 0, 1) := by decide +kernel
theorem dX11_post_108 : decode cX11_post 108 = .ok (.getfield 20, 3) := by decide +kernel
theorem dX11_post_111 : decode cX11_post 111 = .ok (.iload_n 2, 1) := by decide +kernel
theorem dX11_post_112 : decode cX11_post 112 = .ok (.iaload, 1) := by decide +kernel
theorem dX11_post_113 : decode cX11_post 113 = .ok (.if_icmp .eq 10, 3) := by decide +kernel
theorem dX11_post_116 : decode cX11_post 116 = .ok (.aload_n 0, 1) := by decide +kernel
theorem dX11_post_117 : decode cX11_post 117 = .ok (.bipush 6, 2) := by decide +kernel
theorem dX11_post_119 : decode cX11_post 119 = .ok (.invokevirtual 231, 3) := by decide +kernel
theorem dX11_post_122 : decode cX11_post 122 = .ok (.ireturn, 1) := by decide +kernel
theorem dX11_post_123 : decode cX11_post 123 = .ok (.aload_n 0, 1) := by decide +kernel
theorem dX11_post_124 : decode cX11_post 124 = .ok (.aload_n 0, 1) := by decide +kernel
theorem dX11_post_125 : decode cX11_post 125 = .ok (.getfield 23, 3) := by decide +kernel
theorem dX11_post_128 : decode cX11_post 128 = .ok (.iload_n 1, 1) := by decide +kernel
theorem dX11_post_129 : decode cX11_post 129 = .ok (.iaload, 1) := by decide +kernel
theorem dX11_post_130 : decode cX11_post 130 = .ok (.invokevirtual 284, 3) := by decide +kernel
theorem dX11_post_133 : decode cX11_post 133 = .ok (.aload_n 0, 1) := by decide +kernel
theorem dX11_post_134 : decode cX11_post 134 = .ok (.getfield 130, 3) := by decide +kernel
theorem dX11_post_137 : decode cX11_post 137 = .ok (.aload_n 0, 1) := by decide +kernel
theorem dX11_post_138 : decode cX11_post 138 = .ok (.getfield 23, 3) := by decide +kernel
theorem dX11_post_141 : decode cX11_post 141 = .ok (.iload_n 2, 1) := by decide +kernel
theorem dX11_post_142 : decode cX11_post 142 = .ok (.iaload, 1) := by decide +kernel
theorem dX11_post_143 : decode cX11_post 143 = .ok (.iaload, 1) := by decide +kernel
theorem dX11_post_144 : decode cX11_post 144 = .ok (.iconst (-1), 1) := by decide +kernel
theorem dX11_post_145 : decode cX11_post 145 = .ok (.if_icmp .eq 36, 3) := by decide +kernel
theorem dX11_post_148 : decode cX11_post 148 = .ok (.aload_n 0, 1) := by decide +kernel
theorem dX11_post_149 : decode cX11_post 149 = .ok (.aload_n 0, 1) := by decide +kernel
theorem dX11_post_150 : decode cX11_post 150 = .ok (.getfield 23, 3) := by decide +kernel
theorem dX11_post_153 : decode cX11_post 153 = .ok (.iload_n 1, 1) := by decide +kernel
theorem dX11_post_154 : decode cX11_post 154 = .ok (.iaload, 1) := by decide +kernel
theorem dX11_post_155 : decode cX11_post 155 = .ok (.aload_n 0, 1) := by decide +kernel
theorem dX11_post_156 : decode cX11_post 156 = .ok (.getfield 23, 3) := by decide +kernel
theorem dX11_post_159 : decode cX11_post 159 = .ok (.iload_n 2, 1) := by decide +kernel
theorem dX11_post_160 : decode cX11_post 160 = .ok (.iaload, 1) := by decide +kernel
theorem dX11_post_161 : decode cX11_post 161 = .ok (.invokevirtual 287, 3) := by decide +kernel
theorem dX11_post_164 : decode cX11_post 164 = .ok (.aload_n 0, 1) := by decide +kernel
theorem dX11_post_165 : decode cX11_post 165 = .ok (.dup, 1) := by decide +kernel
theorem dX11_post_166 : decode cX11_post 166 = .ok (.getfield 290, 3) := by decide +kernel
theorem dX11_post_169 : decode cX11_post 169 = .ok (.iconst 1, 1) := by decide +kernel
theorem dX11_post_170 : decode cX11_post 170 = .ok (.iadd, 1) := by decide +kernel
theorem dX11_post_171 : decode cX11_post 171 = .ok (.putfield 290, 3) := by decide +kernel
theorem dX11_post_174 : decode cX11_post 174 = .ok (.aload_n 0, 1) := by decide +kernel
theorem dX11_post_175 : decode cX11_post 175 = .ok (.bipush 9, 2) := by decide +kernel
theorem dX11_post_177 : decode cX11_post 177 = .ok (.invokevirtual 231, 3) := by decide +kernel
theorem dX11_post_180 : decode cX11_post 180 = .ok (.ireturn, 1) := by decide +kernel
theorem dX11_post_181 : decode cX11_post 181 = .ok (.aload_n 0, 1) := by decide +kernel
theorem dX11_post_182 : decode cX11_post 182 = .ok (.getfield 275, 3) := by decide +kernel
theorem dX11_post_185 : decode cX11_post 185 = .ok (.bipush 100, 2) := by decide +kernel
theorem dX11_post_187 : decode cX11_post 187 = .ok (.if_icmp .ne 10, 3) := by decide +kernel
theorem dX11_post_190 : decode cX11_post 190 = .ok (.aload_n 0, 1) := by decide +kernel
theorem dX11_post_191 : decode cX11_post 191 = .ok (.bipush 10, 2) := by decide +kernel
theorem dX11_post_193 : decode cX11_post 193 = .ok (.invokevirtual 231, 3) := by decide +kernel
theorem dX11_post_196 : decode cX11_post 196 = .ok (.ireturn, 1) := by decide +kernel
theorem dX11_post_197 : decode cX11_post 197 = .ok (.aload_n 0, 1) := by decide +kernel
theorem dX11_post_198 : decode cX11_post 198 = .ok (.dup, 1) := by decide +kernel
theorem dX11_post_199 : decode cX11_post 199 = .ok (.getfield 275, 3) := by decide +kernel
theorem dX11_post_202 : decode cX11_post 202 = .ok (.iconst 1, 1) := by decide +kernel
theorem dX11_post_203 : decode cX11_post 203 = .ok (.iadd, 1) := by decide +kernel
theorem dX11_post_204 : decode cX11_post 204 = .ok (.putfield 275, 3) := by decide +kernel
theorem dX11_post_207 : decode cX11_post 207 = .ok (.aload_n 0, 1) := by decide +kernel
theorem dX11_post_208 : decode cX11_post 208 = .ok (.getfield 99, 3) := by decide +kernel
theorem dX11_post_211 : decode cX11_post 211 = .ok (.aload_n 0, 1) := by decide +kernel
theorem dX11_post_212 : decode cX11_post 212 = .ok (.getfield 275, 3) := by decide +kernel
end
section
theorem dX11_post_215 : decode cX11_post 215 = .ok (.iload_n 1, 1) := by decide +kernel
theorem dX11_post_216 : decode cX11_post 216 = .ok (.iastore, 1) := by decide +kernel
theorem dX11_post_217 : decode cX11_post 217 = .ok (.aload_n 0, 1) := by decide +kernel
theorem dX11_post_218 : decode cX11_post 218 = .ok (.getfield 102, 3) := by decide +kernel
theorem dX11_post_221 : decode cX11_post 221 = .ok (.aload_n 0, 1) := by decide +kernel
theorem dX11_post_222 : decode cX11_post 222 = .ok (.getfield 275, 3) := by decide +kernel
theorem dX11_post_225 : decode cX11_post 225 = .ok (.iload_n 2, 1) := by decide +kernel
theorem dX11_post_226 : decode cX11_post 226 = .ok (.iastore, 1) := by decide +kernel
theorem dX11_post_227 : decode cX11_post 227 = .ok (.aload_n 0, 1) := by decide +kernel
theorem dX11_post_228 : decode cX11_post 228 = .ok (.getfield 105, 3) := by decide +kernel
theorem dX11_post_231 : decode cX11_post 231 = .ok (.aload_n 0, 1) := by decide +kernel
theorem dX11_post_232 : decode cX11_post 232 = .ok (.getfield 275, 3) := by decide +kernel
theorem dX11_post_235 : decode cX11_post 235 = .ok (.lload_n 3, 1) := by decide +kernel
theorem dX11_post_236 : decode cX11_post 236 = .ok (.lastore, 1) := by decide +kernel
theorem dX11_post_237 : decode cX11_post 237 = .ok (.aload_n 0, 1) := by decide +kernel
theorem dX11_post_238 : decode cX11_post 238 = .ok (.getfield 108, 3) := by decide +kernel
theorem dX11_post_241 : decode cX11_post 241 = .ok (.aload_n 0, 1) := by decide +kernel
theorem dX11_post_242 : decode cX11_post 242 = .ok (.getfield 275, 3) := by decide +kernel
theorem dX11_post_245 : decode cX11_post 245 = .ok (.aload_n 0, 1) := by decide +kernel
theorem dX11_post_246 : decode cX11_post 246 = .ok (.invokevirtual 252, 3) := by decide +kernel
theorem dX11_post_249 : decode cX11_post 249 = .ok (.iastore, 1) := by decide +kernel
theorem dX11_post_250 : decode cX11_post 250 = .ok (.aload_n 0, 1) := by decide +kernel
theorem dX11_post_251 : decode cX11_post 251 = .ok (.getfield 111, 3) := by decide +kernel
theorem dX11_post_254 : decode cX11_post 254 = .ok (.aload_n 0, 1) := by decide +kernel
theorem dX11_post_255 : decode cX11_post 255 = .ok (.getfield 275, 3) := by decide +kernel
theorem dX11_post_258 : decode cX11_post 258 = .ok (.aload_n 0, 1) := by decide +kernel
theorem dX11_post_259 : decode cX11_post 259 = .ok (.getfield 166, 3) := by decide +kernel
theorem dX11_post_262 : decode cX11_post 262 = .ok (.iastore, 1) := by decide +kernel
theorem dX11_post_263 : decode cX11_post 263 = .ok (.aload_n 0, 1) := by decide +kernel
theorem dX11_post_264 : decode cX11_post 264 = .ok (.getfield 117, 3) := by decide +kernel
theorem dX11_post_267 : decode cX11_post 267 = .ok (.aload_n 0, 1) := by decide +kernel
theorem dX11_post_268 : decode cX11_post 268 = .ok (.getfield 275, 3) := by decide +kernel
theorem dX11_post_271 : decode cX11_post 271 = .ok (.iconst (-1), 1) := by decide +kernel
theorem dX11_post_272 : decode cX11_post 272 = .ok (.iastore, 1) := by decide +kernel
theorem dX11_post_273 : decode cX11_post 273 = .ok (.aload_n 0, 1) := by decide +kernel
theorem dX11_post_274 : decode cX11_post 274 = .ok (.iconst 0, 1) := by decide +kernel
theorem dX11_post_275 : decode cX11_post 275 = .ok (.putfield 163, 3) := by decide +kernel
theorem dX11_post_278 : decode cX11_post 278 = .ok (.aload_n 0, 1) := by decide +kernel
theorem dX11_post_279 : decode cX11_post 279 = .ok (.getfield 275, 3) := by decide +kernel
theorem dX11_post_282 : decode cX11_post 282 = .ok (.ireturn, 1) := by decide +kernel
theorem dX11_circle_0 : decode cX11_circle 0 = .ok (.iload_n 1, 1) := by decide +kernel
theorem dX11_circle_1 : decode cX11_circle 1 = .ok (.ifCond .lt 11, 3) := by decide +kernel
theorem dX11_circle_4 : decode cX11_circle 4 = .ok (.iload_n 1, 1) := by decide +kernel
theorem dX11_circle_5 : decode cX11_circle 5 = .ok (.aload_n 0, 1) := by decide +kernel
theorem dX11_circle_6 : decode cX11_circle 6 = .ok (.getfield 281, 3) := by decide +kernel
theorem dX11_circle_9 : decode cX11_circle 9 = .ok (.if_icmp .lt 7, 3) := by decide +kernel
theorem dX11_circle_12 : decode cX11_circle 12 = .ok (.iconst (-1), 1) := by decide +kernel
theorem dX11_circle_13 : decode cX11_circle 13 = .ok (.goto 9, 3) := by decide +kernel
theorem dX11_circle_16 : decode cX11_circle 16 = .ok (.aload_n 0, 1) := by decide +kernel
theorem dX11_circle_17 : decode cX11_circle 17 = .ok (.getfield 133, 3) := by decide +kernel
theorem dX11_circle_20 : decode cX11_circle 20 = .ok (.iload_n 1, 1) := by decide +kernel
theorem dX11_circle_21 : decode cX11_circle 21 = .ok (.iaload, 1) := by decide +kernel
theorem dX11_circle_22 : decode cX11_circle 22 = .ok (.ireturn, 1) := by decide +kernel
theorem dX11_undo_0 : decode cX11_undo 0 = .ok (.iload_n 1, 1) := by decide +kernel
theorem dX11_undo_1 : decode cX11_undo 1 = .ok (.iconst 1, 1) := by decide +kernel
theorem dX11_undo_2 : decode cX11_undo 2 = .ok (.if_icmp .lt 11, 3) := by decide +kernel
theorem dX11_undo_5 : decode cX11_undo 5 = .ok (.iload_n 1, 1) := by decide +kernel
theorem dX11_undo_6 : decode cX11_undo 6 = .ok (.aload_n 0, 1) := by decide +kernel
theorem dX11_undo_7 : decode cX11_undo 7 = .ok (.getfield 275, 3) := by decide +kernel
theorem dX11_undo_10 : decode cX11_undo 10 = .ok (.if_icmp .le 9, 3) := by decide +kernel
theorem dX11_undo_13 : decode cX11_undo 13 = .ok (.aload_n 0, 1) := by decide +kernel
theorem dX11_undo_14 : decode cX11_undo 14 = .ok (.iconst 1, 1) := by decide +kernel
theorem dX11_undo_15 : decode cX11_undo 15 = .ok (.invokevirtual 238, 3) := by decide +kernel
theorem dX11_undo_18 : decode cX11_undo 18 = .ok (.ireturn, 1) := by decide +kernel
theorem dX11_undo_19 : decode cX11_undo 19 = .ok (.aload_n 0, 1) := by decide +kernel
theorem dX11_undo_20 : decode cX11_undo 20 = .ok (.iload_n 1, 1) := by decide +kernel
theorem dX11_undo_21 : decode cX11_undo 21 = .ok (.invokevirtual 278, 3) := by decide +kernel
theorem dX11_undo_24 : decode cX11_undo 24 = .ok (.ifCond .eq 10, 3) := by decide +kernel
theorem dX11_undo_27 : decode cX11_undo 27 = .ok (.aload_n 0, 1) := by decide +kernel
theorem dX11_undo_28 : decode cX11_undo 28 = .ok (.bipush 8, 2) := by decide +kernel
theorem dX11_undo_30 : decode cX11_undo 30 = .ok (.invokevirtual 238, 3) := by decide +kernel
theorem dX11_undo_33 : decode cX11_undo 33 = .ok (.ireturn, 1) := by decide +kernel
theorem dX11_undo_34 : decode cX11_undo 34 = .ok (.aload_n 0, 1) := by decide +kernel
theorem dX11_undo_35 : decode cX11_undo 35 = .ok (.getfield 114, 3) := by decide +kernel
theorem dX11_undo_38 : decode cX11_undo 38 = .ok (.iload_n 1, 1) := by decide +kernel
theorem dX11_undo_39 : decode cX11_undo 39 = .ok (.aload_n 0, 1) := by decide +kernel
theorem dX11_undo_40 : decode cX11_undo 40 = .ok (.invokevirtual 252, 3) := by decide +kernel
theorem dX11_undo_43 : decode cX11_undo 43 = .ok (.iastore, 1) := by decide +kernel
theorem dX11_undo_44 : decode cX11_undo 44 = .ok (.aload_n 0, 1) := by decide +kernel
theorem dX11_undo_45 : decode cX11_undo 45 = .ok (.getfield 117, 3) := by decide +kernel
theorem dX11_undo_48 : decode cX11_undo 48 = .ok (.iload_n 1, 1) := by decide +kernel
theorem dX11_undo_49 : decode cX11_undo 49 = .ok (.aload_n 0, 1) := by decide +kernel
theorem dX11_undo_50 : decode cX11_undo 50 = .ok (.getfield 166, 3) := by decide +kernel
theorem dX11_undo_53 : decode cX11_undo 53 = .ok (.iastore, 1) := by decide +kernel
theorem dX11_undo_54 : decode cX11_undo 54 = .ok (.aload_n 0, 1) := by decide +kernel
theorem dX11_undo_55 : decode cX11_undo 55 = .ok (.iconst 0, 1) := by decide +kernel
theorem dX11_undo_56 : decode cX11_undo 56 = .ok (.putfield 163, 3) := by decide +kernel
theorem dX11_undo_59 : decode cX11_undo 59 = .ok (.iconst 1, 1) := by decide +kernel
theorem dX11_undo_60 : decode cX11_undo 60 = .ok (.ireturn, 1) := by decide +kernel
theorem dX11_release_0 : decode cX11_release 0 = .ok (.aload_n 0, 1) := by decide +kernel
theorem dX11_release_1 : decode cX11_release 1 = .ok (.iload_n 1, 1) := by decide +kernel
theorem dX11_release_2 : decode cX11_release 2 = .ok (.invokevirtual 224, 3) := by decide +kernel
theorem dX11_release_5 : decode cX11_release 5 = .ok (.ifCond .ne 9, 3) := by decide +kernel
theorem dX11_release_8 : decode cX11_release 8 = .ok (.aload_n 0, 1) := by decide +kernel
theorem dX11_release_9 : decode cX11_release 9 = .ok (.iconst 1, 1) := by decide +kernel
theorem dX11_release_10 : decode cX11_release 10 = .ok (.invokevirtual 238, 3) := by decide +kernel
theorem dX11_release_13 : decode cX11_release 13 = .ok (.ireturn, 1) := by decide +kernel
theorem dX11_release_14 : decode cX11_release 14 = .ok (.aload_n 0, 1) := by decide +kernel
theorem dX11_release_15 : decode cX11_release 15 = .ok (.aload_n 0, 1) := by decide +kernel
theorem dX11_release_16 : decode cX11_release 16 = .ok (.getfield 20, 3) := by decide +kernel
theorem dX11_release_19 : decode cX11_release 19 = .ok (.iload_n 1, 1) := by decide +kernel
theorem dX11_release_20 : decode cX11_release 20 = .ok (.iaload, 1) := by decide +kernel
theorem dX11_release_21 : decode cX11_release 21 = .ok (.iload_n 2, 1) := by decide +kernel
theorem dX11_release_22 : decode cX11_release 22 = .ok (.invokevirtual 235, 3) := by decide +kernel
theorem dX11_release_25 : decode cX11_release 25 = .ok (.istore_n 3, 1) := by decide +kernel
theorem dX11_release_26 : decode cX11_release 26 = .ok (.iload_n 3, 1) := by decide +kernel
theorem dX11_release_27 : decode cX11_release 27 = .ok (.ifCond .le 9, 3) := by decide +kernel
theorem dX11_release_30 : decode cX11_release 30 = .ok (.aload_n 0, 1) := by decide +kernel
theorem dX11_release_31 : decode cX11_release 31 = .ok (.iload_n 3, 1) := by decide +kernel
theorem dX11_release_32 : decode cX11_release 32 = .ok (.invokevirtual 238, 3) := by decide +kernel
theorem dX11_release_35 : decode cX11_release 35 = .ok (.ireturn, 1) := by decide +kernel
theorem dX11_release_36 : decode cX11_release 36 = .ok (.aload_n 0, 1) := by decide +kernel
theorem dX11_release_37 : decode cX11_release 37 = .ok (.invokevirtual 257, 3) := by decide +kernel
theorem dX11_release_40 : decode cX11_release 40 = .ok (.aload_n 0, 1) := by decide +kernel
theorem dX11_release_41 : decode cX11_release 41 = .ok (.iload_n 1, 1) := by decide +kernel
theorem dX11_release_42 : decode cX11_release 42 = .ok (.iload_n 2, 1) := by decide +kernel
theorem dX11_release_43 : decode cX11_release 43 = .ok (.invokevirtual 293, 3) := by decide +kernel
theorem dX11_release_46 : decode cX11_release 46 = .ok (.ifCond .ne 10, 3) := by decide +kernel
theorem dX11_release_49 : decode cX11_release 49 = .ok (.aload_n 0, 1) := by decide +kernel
theorem dX11_release_50 : decode cX11_release 50 = .ok (.bipush 6, 2) := by decide +kernel
theorem dX11_release_52 : decode cX11_release 52 = .ok (.invokevirtual 238, 3) := by decide +kernel
theorem dX11_release_55 : decode cX11_release 55 = .ok (.ireturn, 1) := by decide +kernel
theorem dX11_release_56 : decode cX11_release 56 = .ok (.aload_n 0, 1) := by decide +kernel
theorem dX11_release_57 : decode cX11_release 57 = .ok (.getfield 93, 3) := by decide +kernel
theorem dX11_release_60 : decode cX11_release 60 = .ok (.bipush 60, 2) := by decide +kernel
theorem dX11_release_62 : decode cX11_release 62 = .ok (.iload_n 1, 1) := by decide +kernel
theorem dX11_release_63 : decode cX11_release 63 = .ok (.imul, 1) := by decide +kernel
theorem dX11_release_64 : decode cX11_release 64 = .ok (.iload_n 2, 1) := by decide +kernel
theorem dX11_release_65 : decode cX11_release 65 = .ok (.iadd, 1) := by decide +kernel
theorem dX11_release_66 : decode cX11_release 66 = .ok (.aload_n 0, 1) := by decide +kernel
theorem dX11_release_67 : decode cX11_release 67 = .ok (.invokevirtual 252, 3) := by decide +kernel
theorem dX11_release_70 : decode cX11_release 70 = .ok (.iastore, 1) := by decide +kernel
theorem dX11_release_71 : decode cX11_release 71 = .ok (.aload_n 0, 1) := by decide +kernel
theorem dX11_release_72 : decode cX11_release 72 = .ok (.getfield 96, 3) := by decide +kernel
theorem dX11_release_75 : decode cX11_release 75 = .ok (.bipush 60, 2) := by decide +kernel
theorem dX11_release_77 : decode cX11_release 77 = .ok (.iload_n 1, 1) := by decide +kernel
theorem dX11_release_78 : decode cX11_release 78 = .ok (.imul, 1) := by decide +kernel
theorem dX11_release_79 : decode cX11_release 79 = .ok (.iload_n 2, 1) := by decide +kernel
theorem dX11_release_80 : decode cX11_release 80 = .ok (.iadd, 1) := by decide +kernel
theorem dX11_release_81 : decode cX11_release 81 = .ok (.aload_n 0, 1) := by decide +kernel
theorem dX11_release_82 : decode cX11_release 82 = .ok (.getfield 166, 3) := by decide +kernel
theorem dX11_release_85 : decode cX11_release 85 = .ok (.iastore, 1) := by decide +kernel
theorem dX11_release_86 : decode cX11_release 86 = .ok (.aload_n 0, 1) := by decide +kernel
theorem dX11_release_87 : decode cX11_release 87 = .ok (.iconst 0, 1) := by decide +kernel
theorem dX11_release_88 : decode cX11_release 88 = .ok (.putfield 163, 3) := by decide +kernel
theorem dX11_release_91 : decode cX11_release 91 = .ok (.iconst 1, 1) := by decide +kernel
theorem dX11_release_92 : decode cX11_release 92 = .ok (.ireturn, 1) := by decide +kernel
theorem dX11_strike_0 : decode cX11_strike 0 = .ok (.aload_n 0, 1) := by decide +kernel
theorem dX11_strike_1 : decode cX11_strike 1 = .ok (.iload_n 1, 1) := by decide +kernel
theorem dX11_strike_2 : decode cX11_strike 2 = .ok (.invokevirtual 224, 3) := by decide +kernel
theorem dX11_strike_5 : decode cX11_strike 5 = .ok (.ifCond .ne 9, 3) := by decide +kernel
theorem dX11_strike_8 : decode cX11_strike 8 = .ok (.aload_n 0, 1) := by decide +kernel
theorem dX11_strike_9 : decode cX11_strike 9 = .ok (.iconst 1, 1) := by decide +kernel
theorem dX11_strike_10 : decode cX11_strike 10 = .ok (.invokevirtual 238, 3) := by decide +kernel
theorem dX11_strike_13 : decode cX11_strike 13 = .ok (.ireturn, 1) := by decide +kernel
theorem dX11_strike_14 : decode cX11_strike 14 = .ok (.aload_n 0, 1) := by decide +kernel
theorem dX11_strike_15 : decode cX11_strike 15 = .ok (.getfield 26, 3) := by decide +kernel
theorem dX11_strike_18 : decode cX11_strike 18 = .ok (.iload_n 1, 1) := by decide +kernel
theorem dX11_strike_19 : decode cX11_strike 19 = .ok (.iaload, 1) := by decide +kernel
theorem dX11_strike_20 : decode cX11_strike 20 = .ok (.ifCond .eq 9, 3) := by decide +kernel
theorem dX11_strike_23 : decode cX11_strike 23 = .ok (.aload_n 0, 1) := by decide +kernel
theorem dX11_strike_24 : decode cX11_strike 24 = .ok (.iconst 4, 1) := by decide +kernel
theorem dX11_strike_25 : decode cX11_strike 25 = .ok (.invokevirtual 238, 3) := by decide +kernel
theorem dX11_strike_28 : decode cX11_strike 28 = .ok (.ireturn, 1) := by decide +kernel
theorem dX11_strike_29 : decode cX11_strike 29 = .ok (.aload_n 0, 1) := by decide +kernel
theorem dX11_strike_30 : decode cX11_strike 30 = .ok (.iload_n 1, 1) := by decide +kernel
theorem dX11_strike_31 : decode cX11_strike 31 = .ok (.invokevirtual 260, 3) := by decide +kernel
theorem dX11_strike_34 : decode cX11_strike 34 = .ok (.ifCond .ne 10, 3) := by decide +kernel
theorem dX11_strike_37 : decode cX11_strike 37 = .ok (.aload_n 0, 1) := by decide +kernel
theorem dX11_strike_38 : decode cX11_strike 38 = .ok (.bipush 6, 2) := by decide +kernel
theorem dX11_strike_40 : decode cX11_strike 40 = .ok (.invokevirtual 238, 3) := by decide +kernel
theorem dX11_strike_43 : decode cX11_strike 43 = .ok (.ireturn, 1) := by decide +kernel
theorem dX11_strike_44 : decode cX11_strike 44 = .ok (.aload_n 0, 1) := by decide +kernel
theorem dX11_strike_45 : decode cX11_strike 45 = .ok (.invokevirtual 252, 3) := by decide +kernel
theorem dX11_strike_48 : decode cX11_strike 48 = .ok (.aload_n 0, 1) := by decide +kernel
theorem dX11_strike_49 : decode cX11_strike 49 = .ok (.getfield 48, 3) := by decide +kernel
theorem dX11_strike_52 : decode cX11_strike 52 = .ok (.iload_n 1, 1) := by decide +kernel
theorem dX11_strike_53 : decode cX11_strike 53 = .ok (.iaload, 1) := by decide +kernel
theorem dX11_strike_54 : decode cX11_strike 54 = .ok (.if_icmp .ge 10, 3) := by decide +kernel
theorem dX11_strike_57 : decode cX11_strike 57 = .ok (.aload_n 0, 1) := by decide +kernel
theorem dX11_strike_58 : decode cX11_strike 58 = .ok (.bipush 8, 2) := by decide +kernel
theorem dX11_strike_60 : decode cX11_strike 60 = .ok (.invokevirtual 238, 3) := by decide +kernel
theorem dX11_strike_63 : decode cX11_strike 63 = .ok (.ireturn, 1) := by decide +kernel
theorem dX11_strike_64 : decode cX11_strike 64 = .ok (.aload_n 0, 1) := by decide +kernel
theorem dX11_strike_65 : decode cX11_strike 65 = .ok (.getfield 54, 3) := by decide +kernel
theorem dX11_strike_68 : decode cX11_strike 68 = .ok (.iload_n 1, 1) := by decide +kernel
theorem dX11_strike_69 : decode cX11_strike 69 = .ok (.aload_n 0, 1) := by decide +kernel
theorem dX11_strike_70 : decode cX11_strike 70 = .ok (.invokevirtual 252, 3) := by decide +kernel
theorem dX11_strike_73 : decode cX11_strike 73 = .ok (.iastore, 1) := by decide +kernel
theorem dX11_strike_74 : decode cX11_strike 74 = .ok (.aload_n 0, 1) := by decide +kernel
theorem dX11_strike_75 : decode cX11_strike 75 = .ok (.getfield 57, 3) := by decide +kernel
theorem dX11_strike_78 : decode cX11_strike 78 = .ok (.iload_n 1, 1) := by decide +kernel
theorem dX11_strike_79 : decode cX11_strike 79 = .ok (.aload_n 0, 1) := by decide +kernel
theorem dX11_strike_80 : decode cX11_strike 80 = .ok (.getfield 166, 3) := by decide +kernel
theorem dX11_strike_83 : decode cX11_strike 83 = .ok (.iastore, 1) := by decide +kernel
theorem dX11_strike_84 : decode cX11_strike 84 = .ok (.aload_n 0, 1) := by decide +kernel
theorem dX11_strike_85 : decode cX11_strike 85 = .ok (.iconst 0, 1) := by decide +kernel
theorem dX11_strike_86 : decode cX11_strike 86 = .ok (.putfield 163, 3) := by decide +kernel
theorem dX11_strike_89 : decode cX11_strike 89 = .ok (.iconst 1, 1) := by decide +kernel
theorem dX11_strike_90 : decode cX11_strike 90 = .ok (.ireturn, 1) := by decide +kernel
theorem dX11_keep_0 : decode cX11_keep 0 = .ok (.aload_n 0, 1) := by decide +kernel
theorem dX11_keep_1 : decode cX11_keep 1 = .ok (.iload_n 1, 1) := by decide +kernel
theorem dX11_keep_2 : decode cX11_keep 2 = .ok (.invokevirtual 224, 3) := by decide +kernel
theorem dX11_keep_5 : decode cX11_keep 5 = .ok (.ifCond .eq 11, 3) := by decide +kernel
theorem dX11_keep_8 : decode cX11_keep 8 = .ok (.aload_n 0, 1) := by decide +kernel
theorem dX11_keep_9 : decode cX11_keep 9 = .ok (.iload_n 2, 1) := by decide +kernel
theorem dX11_keep_10 : decode cX11_keep 10 = .ok (.invokevirtual 224, 3) := by decide +kernel
theorem dX11_keep_13 : decode cX11_keep 13 = .ok (.ifCond .ne 9, 3) := by decide +kernel
theorem dX11_keep_16 : decode cX11_keep 16 = .ok (.aload_n 0, 1) := by decide +kernel
theorem dX11_keep_17 : decode cX11_keep 17 = .ok (.iconst 1, 1) := by decide +kernel
theorem dX11_keep_18 : decode cX11_keep 18 = .ok (.invokevirtual 238, 3) := by decide +kernel
theorem dX11_keep_21 : decode cX11_keep 21 = .ok (.ireturn, 1) := by decide +kernel
theorem dX11_keep_22 : decode cX11_keep 22 = .ok (.aload_n 0, 1) := by decide +kernel
theorem dX11_keep_23 : decode cX11_keep 23 = .ok (.getfield 17, 3) := by decide +kernel
theorem dX11_keep_26 : decode cX11_keep 26 = .ok (.iload_n 1, 1) := by decide +kernel
theorem dX11_keep_27 : decode cX11_keep 27 = .ok (.iaload, 1) := by decide +kernel
theorem dX11_keep_28 : decode cX11_keep 28 = .ok (.bipush 6, 2) := by decide +kernel
theorem dX11_keep_30 : decode cX11_keep 30 = .ok (.if_icmp .ne 23, 3) := by decide +kernel
theorem dX11_keep_33 : decode cX11_keep 33 = .ok (.aload_n 0, 1) := by decide +kernel
theorem dX11_keep_34 : decode cX11_keep 34 = .ok (.getfield 17, 3) := by decide +kernel
theorem dX11_keep_37 : decode cX11_keep 37 = .ok (.iload_n 2, 1) := by decide +kernel
theorem dX11_keep_38 : decode cX11_keep 38 = .ok (.iaload, 1) := by decide +kernel
theorem dX11_keep_39 : decode cX11_keep 39 = .ok (.bipush 6, 2) := by decide +kernel
theorem dX11_keep_41 : decode cX11_keep 41 = .ok (.if_icmp .eq 12, 3) := by decide +kernel
theorem dX11_keep_44 : decode cX11_keep 44 = .ok (.aload_n 0, 1) := by decide +kernel
theorem dX11_keep_45 : decode cX11_keep 45 = .ok (.getfield 26, 3) := by decide +kernel
theorem dX11_keep_48 : decode cX11_keep 48 = .ok (.iload_n 2, 1) := by decide +kernel
theorem dX11_keep_49 : decode cX11_keep 49 = .ok (.iaload, 1) := by decide +kernel
theorem dX11_keep_50 : decode cX11_keep 50 = .ok (.ifCond .eq 9, 3) := by decide +kernel
theorem dX11_keep_53 : decode cX11_keep 53 = .ok (.aload_n 0, 1) := by decide +kernel
theorem dX11_keep_54 : decode cX11_keep 54 = .ok (.iconst 4, 1) := by decide +kernel
theorem dX11_keep_55 : decode cX11_keep 55 = .ok (.invokevirtual 238, 3) := by decide +kernel
theorem dX11_keep_58 : decode cX11_keep 58 = .ok (.ireturn, 1) := by decide +kernel
theorem dX11_keep_59 : decode cX11_keep 59 = .ok (.aload_n 0, 1) := by decide +kernel
theorem dX11_keep_60 : decode cX11_keep 60 = .ok (.iload_n 1, 1) := by decide +kernel
theorem dX11_keep_61 : decode cX11_keep 61 = .ok (.invokevirtual 260, 3) := by decide +kernel
theorem dX11_keep_64 : decode cX11_keep 64 = .ok (.ifCond .eq 26, 3) := by decide +kernel
theorem dX11_keep_67 : decode cX11_keep 67 = .ok (.aload_n 0, 1) := by decide +kernel
theorem dX11_keep_68 : decode cX11_keep 68 = .ok (.iload_n 2, 1) := by decide +kernel
theorem dX11_keep_69 : decode cX11_keep 69 = .ok (.invokevirtual 195, 3) := by decide +kernel
theorem dX11_keep_72 : decode cX11_keep 72 = .ok (.ifCond .eq 18, 3) := by decide +kernel
theorem dX11_keep_75 : decode cX11_keep 75 = .ok (.aload_n 0, 1) := by decide +kernel
theorem dX11_keep_76 : decode cX11_keep 76 = .ok (.getfield 20, 3) := by decide +kernel
theorem dX11_keep_79 : decode cX11_keep 79 = .ok (.iload_n 1, 1) := by decide +kernel
theorem dX11_keep_80 : decode cX11_keep 80 = .ok (.iaload, 1) := by decide +kernel
theorem dX11_keep_81 : decode cX11_keep 81 = .ok (.aload_n 0, 1) := by decide +kernel
theorem dX11_keep_82 : decode cX11_keep 82 = .ok (.getfield 20, 3) := by decide +kernel
theorem dX11_keep_85 : decode cX11_keep 85 = .ok (.iload_n 2, 1) := by decide +kernel
theorem dX11_keep_86 : decode cX11_keep 86 = .ok (.iaload, 1) := by decide +kernel
theorem dX11_keep_87 : decode cX11_keep 87 = .ok (.if_icmp .eq 10, 3) := by decide +kernel
theorem dX11_keep_90 : decode cX11_keep 90 = .ok (.aload_n 0, 1) := by decide +kernel
theorem dX11_keep_91 : decode cX11_keep 91 = .ok (.bipush 6, 2) := by decide +kernel
theorem dX11_keep_93 : decode cX11_keep 93 = .ok (.invokevirtual 238, 3) := by decide +kernel
theorem dX11_keep_96 : decode cX11_keep 96 = .ok (.ireturn, 1) := by decide +kernel
theorem dX11_keep_97 : decode cX11_keep 97 = .ok (.aload_n 0, 1) := by decide +kernel
theorem dX11_keep_98 : decode cX11_keep 98 = .ok (.getfield 48, 3) := by decide +kernel
theorem dX11_keep_101 : decode cX11_keep 101 = .ok (.iload_n 2, 1) := by decide +kernel
theorem dX11_keep_102 : decode cX11_keep 102 = .ok (.iaload, 1) := by decide +kernel
theorem dX11_keep_103 : decode cX11_keep 103 = .ok (.aload_n 0, 1) := by decide +kernel
theorem dX11_keep_104 : decode cX11_keep 104 = .ok (.getfield 48, 3) := by decide +kernel
theorem dX11_keep_107 : decode cX11_keep 107 = .ok (.iload_n 1, 1) := by decide +kernel
theorem dX11_keep_108 : decode cX11_keep 108 = .ok (.iaload, 1) := by decide +kernel
theorem dX11_keep_109 : decode cX11_keep 109 = .ok (.isub, 1) := by decide +kernel
theorem dX11_keep_110 : decode cX11_keep 110 = .ok (.istore_n 3, 1) := by decide +kernel
theorem dX11_keep_111 : decode cX11_keep 111 = .ok (.iload_n 3, 1) := by decide +kernel
theorem dX11_keep_112 : decode cX11_keep 112 = .ok (.ifCond .lt 31, 3) := by decide +kernel
theorem dX11_keep_115 : decode cX11_keep 115 = .ok (.iload_n 3, 1) := by decide +kernel
theorem dX11_keep_116 : decode cX11_keep 116 = .ok (.aload_n 0, 1) := by decide +kernel
theorem dX11_keep_117 : decode cX11_keep 117 = .ok (.getfield 42, 3) := by decide +kernel
theorem dX11_keep_120 : decode cX11_keep 120 = .ok (.iload_n 1, 1) := by decide +kernel
theorem dX11_keep_121 : decode cX11_keep 121 = .ok (.iaload, 1) := by decide +kernel
theorem dX11_keep_122 : decode cX11_keep 122 = .ok (.if_icmp .gt 21, 3) := by decide +kernel
theorem dX11_keep_125 : decode cX11_keep 125 = .ok (.aload_n 0, 1) := by decide +kernel
theorem dX11_keep_126 : decode cX11_keep 126 = .ok (.getfield 81, 3) := by decide +kernel
theorem dX11_keep_129 : decode cX11_keep 129 = .ok (.iload_n 1, 1) := by decide +kernel
theorem dX11_keep_130 : decode cX11_keep 130 = .ok (.iaload, 1) := by decide +kernel
theorem dX11_keep_131 : decode cX11_keep 131 = .ok (.ifCond .ne 12, 3) := by decide +kernel
theorem dX11_keep_134 : decode cX11_keep 134 = .ok (.aload_n 0, 1) := by decide +kernel
theorem dX11_keep_135 : decode cX11_keep 135 = .ok (.getfield 84, 3) := by decide +kernel
theorem dX11_keep_138 : decode cX11_keep 138 = .ok (.iload_n 2, 1) := by decide +kernel
theorem dX11_keep_139 : decode cX11_keep 139 = .ok (.iaload, 1) := by decide +kernel
theorem dX11_keep_140 : decode cX11_keep 140 = .ok (.ifCond .eq 10, 3) := by decide +kernel
theorem dX11_keep_143 : decode cX11_keep 143 = .ok (.aload_n 0, 1) := by decide +kernel
theorem dX11_keep_144 : decode cX11_keep 144 = .ok (.bipush 8, 2) := by decide +kernel
theorem dX11_keep_146 : decode cX11_keep 146 = .ok (.invokevirtual 238, 3) := by decide +kernel
theorem dX11_keep_149 : decode cX11_keep 149 = .ok (.ireturn, 1) := by decide +kernel
theorem dX11_keep_150 : decode cX11_keep 150 = .ok (.aload_n 0, 1) := by decide +kernel
theorem dX11_keep_151 : decode cX11_keep 151 = .ok (.getfield 81, 3) := by decide +kernel
theorem dX11_keep_154 : decode cX11_keep 154 = .ok (.iload_n 1, 1) := by decide +kernel
theorem dX11_keep_155 : decode cX11_keep 155 = .ok (.iload_n 2, 1) := by decide +kernel
theorem dX11_keep_156 : decode cX11_keep 156 = .ok (.iastore, 1) := by decide +kernel
theorem dX11_keep_157 : decode cX11_keep 157 = .ok (.aload_n 0, 1) := by decide +kernel
theorem dX11_keep_158 : decode cX11_keep 158 = .ok (.getfield 84, 3) := by decide +kernel
theorem dX11_keep_161 : decode cX11_keep 161 = .ok (.iload_n 2, 1) := by decide +kernel
theorem dX11_keep_162 : decode cX11_keep 162 = .ok (.iload_n 1, 1) := by decide +kernel
theorem dX11_keep_163 : decode cX11_keep 163 = .ok (.iastore, 1) := by decide +kernel
theorem dX11_keep_164 : decode cX11_keep 164 = .ok (.aload_n 0, 1) := by decide +kernel
theorem dX11_keep_165 : decode cX11_keep 165 = .ok (.getfield 87, 3) := by decide +kernel
theorem dX11_keep_168 : decode cX11_keep 168 = .ok (.iload_n 2, 1) := by decide +kernel
theorem dX11_keep_169 : decode cX11_keep 169 = .ok (.aload_n 0, 1) := by decide +kernel
theorem dX11_keep_170 : decode cX11_keep 170 = .ok (.invokevirtual 252, 3) := by decide +kernel
theorem dX11_keep_173 : decode cX11_keep 173 = .ok (.iastore, 1) := by decide +kernel
theorem dX11_keep_174 : decode cX11_keep 174 = .ok (.aload_n 0, 1) := by decide +kernel
theorem dX11_keep_175 : decode cX11_keep 175 = .ok (.getfield 90, 3) := by decide +kernel
theorem dX11_keep_178 : decode cX11_keep 178 = .ok (.iload_n 2, 1) := by decide +kernel
theorem dX11_keep_179 : decode cX11_keep 179 = .ok (.aload_n 0, 1) := by decide +kernel
theorem dX11_keep_180 : decode cX11_keep 180 = .ok (.getfield 166, 3) := by decide +kernel
theorem dX11_keep_183 : decode cX11_keep 183 = .ok (.iastore, 1) := by decide +kernel
theorem dX11_keep_184 : decode cX11_keep 184 = .ok (.aload_n 0, 1) := by decide +kernel
theorem dX11_keep_185 : decode cX11_keep 185 = .ok (.iconst 0, 1) := by decide +kernel
theorem dX11_keep_186 : decode cX11_keep 186 = .ok (.putfield 163, 3) := by decide +kernel
theorem dX11_keep_189 : decode cX11_keep 189 = .ok (.iconst 1, 1) := by decide +kernel
theorem dX11_keep_190 : decode cX11_keep 190 = .ok (.ireturn, 1) := by decide +kernel
theorem dX11_isFirst_0 : decode cX11_isFirst 0 = .ok (.aload_n 0, 1) := by decide +kernel
theorem dX11_isFirst_1 : decode cX11_isFirst 1 = .ok (.getfield 17, 3) := by decide +kernel
theorem dX11_isFirst_4 : decode cX11_isFirst 4 = .ok (.iload_n 1, 1) := by decide +kernel
theorem dX11_isFirst_5 : decode cX11_isFirst 5 = .ok (.iaload, 1) := by decide +kernel
theorem dX11_isFirst_6 : decode cX11_isFirst 6 = .ok (.iconst 5, 1) := by decide +kernel
theorem dX11_isFirst_7 : decode cX11_isFirst 7 = .ok (.if_icmp .ne 39, 3) := by decide +kernel
theorem dX11_isFirst_10 : decode cX11_isFirst 10 = .ok (.aload_n 0, 1) := by decide +kernel
theorem dX11_isFirst_11 : decode cX11_isFirst 11 = .ok (.aload_n 0, 1) := by decide +kernel
theorem dX11_isFirst_12 : decode cX11_isFirst 12 = .ok (.getfield 75, 3) := by decide +kernel
theorem dX11_isFirst_15 : decode cX11_isFirst 15 = .ok (.iload_n 1, 1) := by decide +kernel
theorem dX11_isFirst_16 : decode cX11_isFirst 16 = .ok (.iaload, 1) := by decide +kernel
theorem dX11_isFirst_17 : decode cX11_isFirst 17 = .ok (.aload_n 0, 1) := by decide +kernel
theorem dX11_isFirst_18 : decode cX11_isFirst 18 = .ok (.getfield 78, 3) := by decide +kernel
theorem dX11_isFirst_21 : decode cX11_isFirst 21 = .ok (.iload_n 1, 1) := by decide +kernel
theorem dX11_isFirst_22 : decode cX11_isFirst 22 = .ok (.iaload, 1) := by decide +kernel
theorem dX11_isFirst_23 : decode cX11_isFirst 23 = .ok (.invokevirtual 185, 3) := by decide +kernel
theorem dX11_isFirst_26 : decode cX11_isFirst 26 = .ok (.ifCond .eq 20, 3) := by decide +kernel
theorem dX11_isFirst_29 : decode cX11_isFirst 29 = .ok (.aload_n 0, 1) := by decide +kernel
theorem dX11_isFirst_30 : decode cX11_isFirst 30 = .ok (.getfield 69, 3) := by decide +kernel
theorem dX11_isFirst_33 : decode cX11_isFirst 33 = .ok (.iload_n 1, 1) := by decide +kernel
theorem dX11_isFirst_34 : decode cX11_isFirst 34 = .ok (.iaload, 1) := by decide +kernel
theorem dX11_isFirst_35 : decode cX11_isFirst 35 = .ok (.aload_n 0, 1) := by decide +kernel
theorem dX11_isFirst_36 : decode cX11_isFirst 36 = .ok (.getfield 175, 3) := by decide +kernel
theorem dX11_isFirst_39 : decode cX11_isFirst 39 = .ok (.if_icmp .gt 7, 3) := by decide +kernel
theorem dX11_isFirst_42 : decode cX11_isFirst 42 = .ok (.iconst 1, 1) := by decide +kernel
theorem dX11_isFirst_43 : decode cX11_isFirst 43 = .ok (.goto 4, 3) := by decide +kernel
theorem dX11_isFirst_46 : decode cX11_isFirst 46 = .ok (.iconst 0, 1) := by decide +kernel
theorem dX11_isFirst_47 : decode cX11_isFirst 47 = .ok (.ireturn, 1) := by decide +kernel
theorem dX11_whose_0 : decode cX11_whose 0 = .ok (.aload_n 0, 1) := by decide +kernel
theorem dX11_whose_1 : decode cX11_whose 1 = .ok (.getfield 139, 3) := by decide +kernel
theorem dX11_whose_4 : decode cX11_whose 4 = .ok (.iload_n 1, 1) := by decide +kernel
theorem dX11_whose_5 : decode cX11_whose 5 = .ok (.baload, 1) := by decide +kernel
theorem dX11_whose_6 : decode cX11_whose 6 = .ok (.ifCond .eq 17, 3) := by decide +kernel
theorem dX11_whose_9 : decode cX11_whose 9 = .ok (.aload_n 0, 1) := by decide +kernel
theorem dX11_whose_10 : decode cX11_whose 10 = .ok (.getfield 84, 3) := by decide +kernel
theorem dX11_whose_13 : decode cX11_whose 13 = .ok (.aload_n 0, 1) := by decide +kernel
theorem dX11_whose_14 : decode cX11_whose 14 = .ok (.getfield 136, 3) := by decide +kernel
theorem dX11_whose_17 : decode cX11_whose 17 = .ok (.iload_n 1, 1) := by decide +kernel
theorem dX11_whose_18 : decode cX11_whose 18 = .ok (.iaload, 1) := by decide +kernel
theorem dX11_whose_19 : decode cX11_whose 19 = .ok (.iaload, 1) := by decide +kernel
theorem dX11_whose_20 : decode cX11_whose 20 = .ok (.goto 9, 3) := by decide +kernel
theorem dX11_whose_23 : decode cX11_whose 23 = .ok (.aload_n 0, 1) := by decide +kernel
theorem dX11_whose_24 : decode cX11_whose 24 = .ok (.getfield 136, 3) := by decide +kernel
theorem dX11_whose_27 : decode cX11_whose 27 = .ok (.iload_n 1, 1) := by decide +kernel
theorem dX11_whose_28 : decode cX11_whose 28 = .ok (.iaload, 1) := by decide +kernel
theorem dX11_whose_29 : decode cX11_whose 29 = .ok (.ireturn, 1) := by decide +kernel
theorem dX11_isAhead_0 : decode cX11_isAhead 0 = .ok (.aload_n 0, 1) := by decide +kernel
theorem dX11_isAhead_1 : decode cX11_isAhead 1 = .ok (.iload_n 1, 1) := by decide +kernel
theorem dX11_isAhead_2 : decode cX11_isAhead 2 = .ok (.invokevirtual 296, 3) := by decide +kernel
theorem dX11_isAhead_5 : decode cX11_isAhead 5 = .ok (.istore 4, 2) := by decide +kernel
theorem dX11_isAhead_7 : decode cX11_isAhead 7 = .ok (.iload_n 3, 1) := by decide +kernel
theorem dX11_isAhead_8 : decode cX11_isAhead 8 = .ok (.ifCond .eq 12, 3) := by decide +kernel
theorem dX11_isAhead_11 : decode cX11_isAhead 11 = .ok (.aload_n 0, 1) := by decide +kernel
theorem dX11_isAhead_12 : decode cX11_isAhead 12 = .ok (.getfield 84, 3) := by decide +kernel
theorem dX11_isAhead_15 : decode cX11_isAhead 15 = .ok (.iload_n 2, 1) := by decide +kernel
theorem dX11_isAhead_16 : decode cX11_isAhead 16 = .ok (.iaload, 1) := by decide +kernel
theorem dX11_isAhead_17 : decode cX11_isAhead 17 = .ok (.goto 4, 3) := by decide +kernel
theorem dX11_isAhead_20 : decode cX11_isAhead 20 = .ok (.iload_n 2, 1) := by decide +kernel
theorem dX11_isAhead_21 : decode cX11_isAhead 21 = .ok (.istore 5, 2) := by decide +kernel
theorem dX11_isAhead_23 : decode cX11_isAhead 23 = .ok (.aload_n 0, 1) := by decide +kernel
theorem dX11_isAhead_24 : decode cX11_isAhead 24 = .ok (.getfield 139, 3) := by decide +kernel
theorem dX11_isAhead_27 : decode cX11_isAhead 27 = .ok (.iload_n 1, 1) := by decide +kernel
theorem dX11_isAhead_28 : decode cX11_isAhead 28 = .ok (.baload, 1) := by decide +kernel
theorem dX11_isAhead_29 : decode cX11_isAhead 29 = .ok (.ifCond .ne 16, 3) := by decide +kernel
theorem dX11_isAhead_32 : decode cX11_isAhead 32 = .ok (.aload_n 0, 1) := by decide +kernel
theorem dX11_isAhead_33 : decode cX11_isAhead 33 = .ok (.iload 4, 2) := by decide +kernel
theorem dX11_isAhead_35 : decode cX11_isAhead 35 = .ok (.invokevirtual 299, 3) := by decide +kernel
theorem dX11_isAhead_38 : decode cX11_isAhead 38 = .ok (.ifCond .eq 7, 3) := by decide +kernel
theorem dX11_isAhead_41 : decode cX11_isAhead 41 = .ok (.iconst 1, 1) := by decide +kernel
theorem dX11_isAhead_42 : decode cX11_isAhead 42 = .ok (.goto 4, 3) := by decide +kernel
theorem dX11_isAhead_45 : decode cX11_isAhead 45 = .ok (.iconst 0, 1) := by decide +kernel
theorem dX11_isAhead_46 : decode cX11_isAhead 46 = .ok (.istore 6, 2) := by decide +kernel
theorem dX11_isAhead_48 : decode cX11_isAhead 48 = .ok (.iload_n 3, 1) := by decide +kernel
theorem dX11_isAhead_49 : decode cX11_isAhead 49 = .ok (.ifCond .ne 16, 3) := by decide +kernel
theorem dX11_isAhead_52 : decode cX11_isAhead 52 = .ok (.aload_n 0, 1) := by decide +kernel
theorem dX11_isAhead_53 : decode cX11_isAhead 53 = .ok (.iload 5, 2) := by decide +kernel
theorem dX11_isAhead_55 : decode cX11_isAhead 55 = .ok (.invokevirtual 299, 3) := by decide +kernel
theorem dX11_isAhead_58 : decode cX11_isAhead 58 = .ok (.ifCond .eq 7, 3) := by decide +kernel
theorem dX11_isAhead_61 : decode cX11_isAhead 61 = .ok (.iconst 1, 1) := by decide +kernel
theorem dX11_isAhead_62 : decode cX11_isAhead 62 = .ok (.goto 4, 3) := by decide +kernel
theorem dX11_isAhead_65 : decode cX11_isAhead 65 = .ok (.iconst 0, 1) := by decide +kernel
theorem dX11_isAhead_66 : decode cX11_isAhead 66 = .ok (.istore 7, 2) := by decide +kernel
theorem dX11_isAhead_68 : decode cX11_isAhead 68 = .ok (.iload 6, 2) := by decide +kernel
theorem dX11_isAhead_70 : decode cX11_isAhead 70 = .ok (.iload 7, 2) := by decide +kernel
theorem dX11_isAhead_72 : decode cX11_isAhead 72 = .ok (.if_icmp .eq 6, 3) := by decide +kernel
theorem dX11_isAhead_75 : decode cX11_isAhead 75 = .ok (.iload 6, 2) := by decide +kernel
theorem dX11_isAhead_77 : decode cX11_isAhead 77 = .ok (.ireturn, 1) := by decide +kernel
theorem dX11_isAhead_78 : decode cX11_isAhead 78 = .ok (.aload_n 0, 1) := by decide +kernel
theorem dX11_isAhead_79 : decode cX11_isAhead 79 = .ok (.getfield 48, 3) := by decide +kernel
theorem dX11_isAhead_82 : decode cX11_isAhead 82 = .ok (.iload 4, 2) := by decide +kernel
theorem dX11_isAhead_84 : decode cX11_isAhead 84 = .ok (.iaload, 1) := by decide +kernel
theorem dX11_isAhead_85 : decode cX11_isAhead 85 = .ok (.aload_n 0, 1) := by decide +kernel
theorem dX11_isAhead_86 : decode cX11_isAhead 86 = .ok (.getfield 48, 3) := by decide +kernel
theorem dX11_isAhead_89 : decode cX11_isAhead 89 = .ok (.iload 5, 2) := by decide +kernel
theorem dX11_isAhead_91 : decode cX11_isAhead 91 = .ok (.iaload, 1) := by decide +kernel
theorem dX11_isAhead_92 : decode cX11_isAhead 92 = .ok (.if_icmp .eq 28, 3) := by decide +kernel
theorem dX11_isAhead_95 : decode cX11_isAhead 95 = .ok (.aload_n 0, 1) := by decide +kernel
theorem dX11_isAhead_96 : decode cX11_isAhead 96 = .ok (.getfield 48, 3) := by decide +kernel
theorem dX11_isAhead_99 : decode cX11_isAhead 99 = .ok (.iload 4, 2) := by decide +kernel
theorem dX11_isAhead_101 : decode cX11_isAhead 101 = .ok (.iaload, 1) := by decide +kernel
theorem dX11_isAhead_102 : decode cX11_isAhead 102 = .ok (.aload_n 0, 1) := by decide +kernel
theorem dX11_isAhead_103 : decode cX11_isAhead 103 = .ok (.getfield 48, 3) := by decide +kernel
theorem dX11_isAhead_106 : decode cX11_isAhead 106 = .ok (.iload 5, 2) := by decide +kernel
theorem dX11_isAhead_108 : decode cX11_isAhead 108 = .ok (.iaload, 1) := by decide +kernel
theorem dX11_isAhead_109 : decode cX11_isAhead 109 = .ok (.if_icmp .ge 7, 3) := by decide +kernel
theorem dX11_isAhead_112 : decode cX11_isAhead 112 = .ok (.iconst 1, 1) := by decide +kernel
theorem dX11_isAhead_113 : decode cX11_isAhead 113 = .ok (.goto 19, 3) := by decide +kernel
theorem dX11_isAhead_116 : decode cX11_isAhead 116 = .ok (.iconst 0, 1) := by decide +kernel
theorem dX11_isAhead_117 : decode cX11_isAhead 117 = .ok (.goto 15, 3) := by decide +kernel
theorem dX11_isAhead_120 : decode cX11_isAhead 120 = .ok (.iload 4, 2) := by decide +kernel
theorem dX11_isAhead_122 : decode cX11_isAhead 122 = .ok (.iload 5, 2) := by decide +kernel
theorem dX11_isAhead_124 : decode cX11_isAhead 124 = .ok (.if_icmp .ge 7, 3) := by decide +kernel
theorem dX11_isAhead_127 : decode cX11_isAhead 127 = .ok (.iconst 1, 1) := by decide +kernel
theorem dX11_isAhead_128 : decode cX11_isAhead 128 = .ok (.goto 4, 3) := by decide +kernel
theorem dX11_isAhead_131 : decode cX11_isAhead 131 = .ok (.iconst 0, 1) := by decide +kernel
theorem dX11_isAhead_132 : decode cX11_isAhead 132 = .ok (.ireturn, 1) := by decide +kernel
theorem dX11_stand_0 : decode cX11_stand 0 = .ok (.aload_n 0, 1) := by decide +kernel
theorem dX11_stand_1 : decode cX11_stand 1 = .ok (.getfield 302, 3) := by decide +kernel
theorem dX11_stand_4 : decode cX11_stand 4 = .ok (.istore_n 3, 1) := by decide +kernel
theorem dX11_stand_5 : decode cX11_stand 5 = .ok (.iload_n 3, 1) := by decide +kernel
theorem dX11_stand_6 : decode cX11_stand 6 = .ok (.ifCond .le 49, 3) := by decide +kernel
theorem dX11_stand_9 : decode cX11_stand 9 = .ok (.aload_n 0, 1) := by decide +kernel
theorem dX11_stand_10 : decode cX11_stand 10 = .ok (.iload_n 3, 1) := by decide +kernel
theorem dX11_stand_11 : decode cX11_stand 11 = .ok (.iconst 1, 1) := by decide +kernel
theorem dX11_stand_12 : decode cX11_stand 12 = .ok (.isub, 1) := by decide +kernel
theorem dX11_stand_13 : decode cX11_stand 13 = .ok (.iload_n 1, 1) := by decide +kernel
theorem dX11_stand_14 : decode cX11_stand 14 = .ok (.iload_n 2, 1) := by decide +kernel
theorem dX11_stand_15 : decode cX11_stand 15 = .ok (.invokevirtual 305, 3) := by decide +kernel
theorem dX11_stand_18 : decode cX11_stand 18 = .ok (.ifCond .ne 37, 3) := by decide +kernel
theorem dX11_stand_21 : decode cX11_stand 21 = .ok (.aload_n 0, 1) := by decide +kernel
theorem dX11_stand_22 : decode cX11_stand 22 = .ok (.getfield 136, 3) := by decide +kernel
theorem dX11_stand_25 : decode cX11_stand 25 = .ok (.iload_n 3, 1) := by decide +kernel
theorem dX11_stand_26 : decode cX11_stand 26 = .ok (.aload_n 0, 1) := by decide +kernel
theorem dX11_stand_27 : decode cX11_stand 27 = .ok (.getfield 136, 3) := by decide +kernel
theorem dX11_stand_30 : decode cX11_stand 30 = .ok (.iload_n 3, 1) := by decide +kernel
theorem dX11_stand_31 : decode cX11_stand 31 = .ok (.iconst 1, 1) := by decide +kernel
theorem dX11_stand_32 : decode cX11_stand 32 = .ok (.isub, 1) := by decide +kernel
theorem dX11_stand_33 : decode cX11_stand 33 = .ok (.iaload, 1) := by decide +kernel
theorem dX11_stand_34 : decode cX11_stand 34 = .ok (.iastore, 1) := by decide +kernel
theorem dX11_stand_35 : decode cX11_stand 35 = .ok (.aload_n 0, 1) := by decide +kernel
theorem dX11_stand_36 : decode cX11_stand 36 = .ok (.getfield 139, 3) := by decide +kernel
theorem dX11_stand_39 : decode cX11_stand 39 = .ok (.iload_n 3, 1) := by decide +kernel
theorem dX11_stand_40 : decode cX11_stand 40 = .ok (.aload_n 0, 1) := by decide +kernel
theorem dX11_stand_41 : decode cX11_stand 41 = .ok (.getfield 139, 3) := by decide +kernel
theorem dX11_stand_44 : decode cX11_stand 44 = .ok (.iload_n 3, 1) := by decide +kernel
theorem dX11_stand_45 : decode cX11_stand 45 = .ok (.iconst 1, 1) := by decide +kernel
theorem dX11_stand_46 : decode cX11_stand 46 = .ok (.isub, 1) := by decide +kernel
theorem dX11_stand_47 : decode cX11_stand 47 = .ok (.baload, 1) := by decide +kernel
theorem dX11_stand_48 : decode cX11_stand 48 = .ok (.bastore, 1) := by decide +kernel
theorem dX11_stand_49 : decode cX11_stand 49 = .ok (.iinc 3 (-1), 3) := by decide +kernel
theorem dX11_stand_52 : decode cX11_stand 52 = .ok (.goto (-47), 3) := by decide +kernel
theorem dX11_stand_55 : decode cX11_stand 55 = .ok (.aload_n 0, 1) := by decide +kernel
theorem dX11_stand_56 : decode cX11_stand 56 = .ok (.getfield 136, 3) := by decide +kernel
theorem dX11_stand_59 : decode cX11_stand 59 = .ok (.iload_n 3, 1) := by decide +kernel
theorem dX11_stand_60 : decode cX11_stand 60 = .ok (.iload_n 1, 1) := by decide +kernel
theorem dX11_stand_61 : decode cX11_stand 61 = .ok (.iastore, 1) := by decide +kernel
theorem dX11_stand_62 : decode cX11_stand 62 = .ok (.aload_n 0, 1) := by decide +kernel
theorem dX11_stand_63 : decode cX11_stand 63 = .ok (.getfield 139, 3) := by decide +kernel
theorem dX11_stand_66 : decode cX11_stand 66 = .ok (.iload_n 3, 1) := by decide +kernel
theorem dX11_stand_67 : decode cX11_stand 67 = .ok (.iload_n 2, 1) := by decide +kernel
theorem dX11_stand_68 : decode cX11_stand 68 = .ok (.bastore, 1) := by decide +kernel
theorem dX11_stand_69 : decode cX11_stand 69 = .ok (.aload_n 0, 1) := by decide +kernel
theorem dX11_stand_70 : decode cX11_stand 70 = .ok (.dup, 1) := by decide +kernel
theorem dX11_stand_71 : decode cX11_stand 71 = .ok (.getfield 302, 3) := by decide +kernel
theorem dX11_stand_74 : decode cX11_stand 74 = .ok (.iconst 1, 1) := by decide +kernel
theorem dX11_stand_75 : decode cX11_stand 75 = .ok (.iadd, 1) := by decide +kernel
theorem dX11_stand_76 : decode cX11_stand 76 = .ok (.putfield 302, 3) := by decide +kernel
theorem dX11_stand_79 : decode cX11_stand 79 = .ok (.return_, 1) := by decide +kernel
theorem dX11_placesOn_0 : decode cX11_placesOn 0 = .ok (.aload_n 0, 1) := by decide +kernel
theorem dX11_placesOn_1 : decode cX11_placesOn 1 = .ok (.iconst 0, 1) := by decide +kernel
theorem dX11_placesOn_2 : decode cX11_placesOn 2 = .ok (.putfield 302, 3) := by decide +kernel
theorem dX11_placesOn_5 : decode cX11_placesOn 5 = .ok (.iconst 1, 1) := by decide +kernel
theorem dX11_placesOn_6 : decode cX11_placesOn 6 = .ok (.istore_n 3, 1) := by decide +kernel
theorem dX11_placesOn_7 : decode cX11_placesOn 7 = .ok (.iload_n 3, 1) := by decide +kernel
theorem dX11_placesOn_8 : decode cX11_placesOn 8 = .ok (.aload_n 0, 1) := by decide +kernel
theorem dX11_placesOn_9 : decode cX11_placesOn 9 = .ok (.getfield 169, 3) := by decide +kernel
theorem dX11_placesOn_12 : decode cX11_placesOn 12 = .ok (.if_icmp .gt 105, 3) := by decide +kernel
theorem dX11_placesOn_15 : decode cX11_placesOn 15 = .ok (.aload_n 0, 1) := by decide +kernel
theorem dX11_placesOn_16 : decode cX11_placesOn 16 = .ok (.getfield 26, 3) := by decide +kernel
theorem dX11_placesOn_19 : decode cX11_placesOn 19 = .ok (.iload_n 3, 1) := by decide +kernel
theorem dX11_placesOn_20 : decode cX11_placesOn 20 = .ok (.iaload, 1) := by decide +kernel
theorem dX11_placesOn_21 : decode cX11_placesOn 21 = .ok (.ifCond .ne 90, 3) := by decide +kernel
theorem dX11_placesOn_24 : decode cX11_placesOn 24 = .ok (.aload_n 0, 1) := by decide +kernel
theorem dX11_placesOn_25 : decode cX11_placesOn 25 = .ok (.getfield 20, 3) := by decide +kernel
theorem dX11_placesOn_28 : decode cX11_placesOn 28 = .ok (.iload_n 3, 1) := by decide +kernel
theorem dX11_placesOn_29 : decode cX11_placesOn 29 = .ok (.iaload, 1) := by decide +kernel
theorem dX11_placesOn_30 : decode cX11_placesOn 30 = .ok (.iload_n 1, 1) := by decide +kernel
theorem dX11_placesOn_31 : decode cX11_placesOn 31 = .ok (.if_icmp .ne 80, 3) := by decide +kernel
theorem dX11_placesOn_34 : decode cX11_placesOn 34 = .ok (.aload_n 0, 1) := by decide +kernel
theorem dX11_placesOn_35 : decode cX11_placesOn 35 = .ok (.getfield 17, 3) := by decide +kernel
theorem dX11_placesOn_38 : decode cX11_placesOn 38 = .ok (.iload_n 3, 1) := by decide +kernel
theorem dX11_placesOn_39 : decode cX11_placesOn 39 = .ok (.iaload, 1) := by decide +kernel
theorem dX11_placesOn_40 : decode cX11_placesOn 40 = .ok (.bipush 6, 2) := by decide +kernel
theorem dX11_placesOn_42 : decode cX11_placesOn 42 = .ok (.if_icmp .eq 69, 3) := by decide +kernel
theorem dX11_placesOn_45 : decode cX11_placesOn 45 = .ok (.aload_n 0, 1) := by decide +kernel
theorem dX11_placesOn_46 : decode cX11_placesOn 46 = .ok (.iload_n 3, 1) := by decide +kernel
theorem dX11_placesOn_47 : decode cX11_placesOn 47 = .ok (.iload_n 2, 1) := by decide +kernel
theorem dX11_placesOn_48 : decode cX11_placesOn 48 = .ok (.invokevirtual 293, 3) := by decide +kernel
theorem dX11_placesOn_51 : decode cX11_placesOn 51 = .ok (.ifCond .ne 6, 3) := by decide +kernel
theorem dX11_placesOn_54 : decode cX11_placesOn 54 = .ok (.goto 57, 3) := by decide +kernel
theorem dX11_placesOn_57 : decode cX11_placesOn 57 = .ok (.aload_n 0, 1) := by decide +kernel
theorem dX11_placesOn_58 : decode cX11_placesOn 58 = .ok (.iload_n 3, 1) := by decide +kernel
theorem dX11_placesOn_59 : decode cX11_placesOn 59 = .ok (.iconst 0, 1) := by decide +kernel
theorem dX11_placesOn_60 : decode cX11_placesOn 60 = .ok (.invokevirtual 309, 3) := by decide +kernel
theorem dX11_placesOn_63 : decode cX11_placesOn 63 = .ok (.aload_n 0, 1) := by decide +kernel
theorem dX11_placesOn_64 : decode cX11_placesOn 64 = .ok (.getfield 84, 3) := by decide +kernel
theorem dX11_placesOn_67 : decode cX11_placesOn 67 = .ok (.iload_n 3, 1) := by decide +kernel
theorem dX11_placesOn_68 : decode cX11_placesOn 68 = .ok (.iaload, 1) := by decide +kernel
theorem dX11_placesOn_69 : decode cX11_placesOn 69 = .ok (.istore 4, 2) := by decide +kernel
theorem dX11_placesOn_71 : decode cX11_placesOn 71 = .ok (.iload 4, 2) := by decide +kernel
theorem dX11_placesOn_73 : decode cX11_placesOn 73 = .ok (.ifCond .eq 38, 3) := by decide +kernel
theorem dX11_placesOn_76 : decode cX11_placesOn 76 = .ok (.aload_n 0, 1) := by decide +kernel
theorem dX11_placesOn_77 : decode cX11_placesOn 77 = .ok (.aload_n 0, 1) := by decide +kernel
theorem dX11_placesOn_78 : decode cX11_placesOn 78 = .ok (.getfield 87, 3) := by decide +kernel
theorem dX11_placesOn_81 : decode cX11_placesOn 81 = .ok (.iload_n 3, 1) := by decide +kernel
theorem dX11_placesOn_82 : decode cX11_placesOn 82 = .ok (.iaload, 1) := by decide +kernel
theorem dX11_placesOn_83 : decode cX11_placesOn 83 = .ok (.aload_n 0, 1) := by decide +kernel
theorem dX11_placesOn_84 : decode cX11_placesOn 84 = .ok (.getfield 90, 3) := by decide +kernel
theorem dX11_placesOn_87 : decode cX11_placesOn 87 = .ok (.iload_n 3, 1) := by decide +kernel
theorem dX11_placesOn_88 : decode cX11_placesOn 88 = .ok (.iaload, 1) := by decide +kernel
theorem dX11_placesOn_89 : decode cX11_placesOn 89 = .ok (.invokevirtual 185, 3) := by decide +kernel
theorem dX11_placesOn_92 : decode cX11_placesOn 92 = .ok (.ifCond .eq 19, 3) := by decide +kernel
theorem dX11_placesOn_95 : decode cX11_placesOn 95 = .ok (.aload_n 0, 1) := by decide +kernel
theorem dX11_placesOn_96 : decode cX11_placesOn 96 = .ok (.iload 4, 2) := by decide +kernel
theorem dX11_placesOn_98 : decode cX11_placesOn 98 = .ok (.iload_n 2, 1) := by decide +kernel
theorem dX11_placesOn_99 : decode cX11_placesOn 99 = .ok (.invokevirtual 293, 3) := by decide +kernel
theorem dX11_placesOn_102 : decode cX11_placesOn 102 = .ok (.ifCond .eq 9, 3) := by decide +kernel
theorem dX11_placesOn_105 : decode cX11_placesOn 105 = .ok (.aload_n 0, 1) := by decide +kernel
theorem dX11_placesOn_106 : decode cX11_placesOn 106 = .ok (.iload_n 3, 1) := by decide +kernel
theorem dX11_placesOn_107 : decode cX11_placesOn 107 = .ok (.iconst 1, 1) := by decide +kernel
theorem dX11_placesOn_108 : decode cX11_placesOn 108 = .ok (.invokevirtual 309, 3) := by decide +kernel
theorem dX11_placesOn_111 : decode cX11_placesOn 111 = .ok (.iinc 3 1, 3) := by decide +kernel
theorem dX11_placesOn_114 : decode cX11_placesOn 114 = .ok (.goto (-107), 3) := by decide +kernel
theorem dX11_placesOn_117 : decode cX11_placesOn 117 = .ok (.return_, 1) := by decide +kernel
theorem dX11_isPosted_0 : decode cX11_isPosted 0 = .ok (.aload_n 0, 1) := by decide +kernel
theorem dX11_isPosted_1 : decode cX11_isPosted 1 = .ok (.aload_n 0, 1) := by decide +kernel
theorem dX11_isPosted_2 : decode cX11_isPosted 2 = .ok (.getfield 108, 3) := by decide +kernel
theorem dX11_isPosted_5 : decode cX11_isPosted 5 = .ok (.iload_n 1, 1) := by decide +kernel
theorem dX11_isPosted_6 : decode cX11_isPosted 6 = .ok (.iaload, 1) := by decide +kernel
theorem dX11_isPosted_7 : decode cX11_isPosted 7 = .ok (.aload_n 0, 1) := by decide +kernel
theorem dX11_isPosted_8 : decode cX11_isPosted 8 = .ok (.getfield 111, 3) := by decide +kernel
theorem dX11_isPosted_11 : decode cX11_isPosted 11 = .ok (.iload_n 1, 1) := by decide +kernel
theorem dX11_isPosted_12 : decode cX11_isPosted 12 = .ok (.iaload, 1) := by decide +kernel
theorem dX11_isPosted_13 : decode cX11_isPosted 13 = .ok (.invokevirtual 185, 3) := by decide +kernel
theorem dX11_isPosted_16 : decode cX11_isPosted 16 = .ok (.ifCond .eq 22, 3) := by decide +kernel
theorem dX11_isPosted_19 : decode cX11_isPosted 19 = .ok (.aload_n 0, 1) := by decide +kernel
theorem dX11_isPosted_20 : decode cX11_isPosted 20 = .ok (.aload_n 0, 1) := by decide +kernel
theorem dX11_isPosted_21 : decode cX11_isPosted 21 = .ok (.getfield 114, 3) := by decide +kernel
theorem dX11_isPosted_24 : decode cX11_isPosted 24 = .ok (.iload_n 1, 1) := by decide +kernel
theorem dX11_isPosted_25 : decode cX11_isPosted 25 = .ok (.iaload, 1) := by decide +kernel
theorem dX11_isPosted_26 : decode cX11_isPosted 26 = .ok (.aload_n 0, 1) := by decide +kernel
theorem dX11_isPosted_27 : decode cX11_isPosted 27 = .ok (.getfield 117, 3) := by decide +kernel
theorem dX11_isPosted_30 : decode cX11_isPosted 30 = .ok (.iload_n 1, 1) := by decide +kernel
theorem dX11_isPosted_31 : decode cX11_isPosted 31 = .ok (.iaload, 1) := by decide +kernel
theorem dX11_isPosted_32 : decode cX11_isPosted 32 = .ok (.invokevirtual 185, 3) := by decide +kernel
theorem dX11_isPosted_35 : decode cX11_isPosted 35 = .ok (.ifCond .eq 5, 3) := by decide +kernel
theorem dX11_isPosted_38 : decode cX11_isPosted 38 = .ok (.iconst 0, 1) := by decide +kernel
theorem dX11_isPosted_39 : decode cX11_isPosted 39 = .ok (.ireturn, 1) := by decide +kernel
theorem dX11_isPosted_40 : decode cX11_isPosted 40 = .ok (.aload_n 0, 1) := by decide +kernel
theorem dX11_isPosted_41 : decode cX11_isPosted 41 = .ok (.aload_n 0, 1) := by decide +kernel
theorem dX11_isPosted_42 : decode cX11_isPosted 42 = .ok (.getfield 99, 3) := by decide +kernel
theorem dX11_isPosted_45 : decode cX11_isPosted 45 = .ok (.iload_n 1, 1) := by decide +kernel
theorem dX11_isPosted_46 : decode cX11_isPosted 46 = .ok (.iaload, 1) := by decide +kernel
theorem dX11_isPosted_47 : decode cX11_isPosted 47 = .ok (.iload_n 2, 1) := by decide +kernel
theorem dX11_isPosted_48 : decode cX11_isPosted 48 = .ok (.invokevirtual 293, 3) := by decide +kernel
theorem dX11_isPosted_51 : decode cX11_isPosted 51 = .ok (.ifCond .eq 21, 3) := by decide +kernel
theorem dX11_isPosted_54 : decode cX11_isPosted 54 = .ok (.aload_n 0, 1) := by decide +kernel
theorem dX11_isPosted_55 : decode cX11_isPosted 55 = .ok (.aload_n 0, 1) := by decide +kernel
theorem dX11_isPosted_56 : decode cX11_isPosted 56 = .ok (.getfield 102, 3) := by decide +kernel
theorem dX11_isPosted_59 : decode cX11_isPosted 59 = .ok (.iload_n 1, 1) := by decide +kernel
theorem dX11_isPosted_60 : decode cX11_isPosted 60 = .ok (.iaload, 1) := by decide +kernel
theorem dX11_isPosted_61 : decode cX11_isPosted 61 = .ok (.iload_n 2, 1) := by decide +kernel
theorem dX11_isPosted_62 : decode cX11_isPosted 62 = .ok (.invokevirtual 293, 3) := by decide +kernel
theorem dX11_isPosted_65 : decode cX11_isPosted 65 = .ok (.ifCond .eq 7, 3) := by decide +kernel
theorem dX11_isPosted_68 : decode cX11_isPosted 68 = .ok (.iconst 1, 1) := by decide +kernel
theorem dX11_isPosted_69 : decode cX11_isPosted 69 = .ok (.goto 4, 3) := by decide +kernel
theorem dX11_isPosted_72 : decode cX11_isPosted 72 = .ok (.iconst 0, 1) := by decide +kernel
theorem dX11_isPosted_73 : decode cX11_isPosted 73 = .ok (.ireturn, 1) := by decide +kernel
theorem dX11_standsAt_0 : decode cX11_standsAt 0 = .ok (.iconst 0, 1) := by decide +kernel
theorem dX11_standsAt_1 : decode cX11_standsAt 1 = .ok (.istore_n 2, 1) := by decide +kernel
theorem dX11_standsAt_2 : decode cX11_standsAt 2 = .ok (.iload_n 2, 1) := by decide +kernel
theorem dX11_standsAt_3 : decode cX11_standsAt 3 = .ok (.aload_n 0, 1) := by decide +kernel
theorem dX11_standsAt_4 : decode cX11_standsAt 4 = .ok (.getfield 313, 3) := by decide +kernel
theorem dX11_standsAt_7 : decode cX11_standsAt 7 = .ok (.if_icmp .ge 21, 3) := by decide +kernel
theorem dX11_standsAt_10 : decode cX11_standsAt 10 = .ok (.aload_n 0, 1) := by decide +kernel
theorem dX11_standsAt_11 : decode cX11_standsAt 11 = .ok (.getfield 142, 3) := by decide +kernel
theorem dX11_standsAt_14 : decode cX11_standsAt 14 = .ok (.iload_n 2, 1) := by decide +kernel
theorem dX11_standsAt_15 : decode cX11_standsAt 15 = .ok (.iaload, 1) := by decide +kernel
theorem dX11_standsAt_16 : decode cX11_standsAt 16 = .ok (.iload_n 1, 1) := by decide +kernel
theorem dX11_standsAt_17 : decode cX11_standsAt 17 = .ok (.if_icmp .ne 5, 3) := by decide +kernel
theorem dX11_standsAt_20 : decode cX11_standsAt 20 = .ok (.iload_n 2, 1) := by decide +kernel
theorem dX11_standsAt_21 : decode cX11_standsAt 21 = .ok (.ireturn, 1) := by decide +kernel
theorem dX11_standsAt_22 : decode cX11_standsAt 22 = .ok (.iinc 2 1, 3) := by decide +kernel
theorem dX11_standsAt_25 : decode cX11_standsAt 25 = .ok (.goto (-23), 3) := by decide +kernel
theorem dX11_standsAt_28 : decode cX11_standsAt 28 = .ok (.iconst (-1), 1) := by decide +kernel
theorem dX11_standsAt_29 : decode cX11_standsAt 29 = .ok (.ireturn, 1) := by decide +kernel
theorem dX11_orderOn_0 : decode cX11_orderOn 0 = .ok (.aload_n 0, 1) := by decide +kernel
theorem dX11_orderOn_1 : decode cX11_orderOn 1 = .ok (.iload_n 1, 1) := by decide +kernel
theorem dX11_orderOn_2 : decode cX11_orderOn 2 = .ok (.iload_n 2, 1) := by decide +kernel
theorem dX11_orderOn_3 : decode cX11_orderOn 3 = .ok (.invokevirtual 316, 3) := by decide +kernel
theorem dX11_orderOn_6 : decode cX11_orderOn 6 = .ok (.aload_n 0, 1) := by decide +kernel
theorem dX11_orderOn_7 : decode cX11_orderOn 7 = .ok (.iconst 0, 1) := by decide +kernel
theorem dX11_orderOn_8 : decode cX11_orderOn 8 = .ok (.putfield 313, 3) := by decide +kernel
theorem dX11_orderOn_11 : decode cX11_orderOn 11 = .ok (.iconst 0, 1) := by decide +kernel
theorem dX11_orderOn_12 : decode cX11_orderOn 12 = .ok (.istore_n 3, 1) := by decide +kernel
theorem dX11_orderOn_13 : decode cX11_orderOn 13 = .ok (.iload_n 3, 1) := by decide +kernel
theorem dX11_orderOn_14 : decode cX11_orderOn 14 = .ok (.aload_n 0, 1) := by decide +kernel
theorem dX11_orderOn_15 : decode cX11_orderOn 15 = .ok (.getfield 302, 3) := by decide +kernel
theorem dX11_orderOn_18 : decode cX11_orderOn 18 = .ok (.if_icmp .ge 60, 3) := by decide +kernel
theorem dX11_orderOn_21 : decode cX11_orderOn 21 = .ok (.aload_n 0, 1) := by decide +kernel
theorem dX11_orderOn_22 : decode cX11_orderOn 22 = .ok (.aload_n 0, 1) := by decide +kernel
theorem dX11_orderOn_23 : decode cX11_orderOn 23 = .ok (.getfield 136, 3) := by decide +kernel
theorem dX11_orderOn_26 : decode cX11_orderOn 26 = .ok (.iload_n 3, 1) := by decide +kernel
theorem dX11_orderOn_27 : decode cX11_orderOn 27 = .ok (.iaload, 1) := by decide +kernel
theorem dX11_orderOn_28 : decode cX11_orderOn 28 = .ok (.invokevirtual 319, 3) := by decide +kernel
theorem dX11_orderOn_31 : decode cX11_orderOn 31 = .ok (.iconst (-1), 1) := by decide +kernel
theorem dX11_orderOn_32 : decode cX11_orderOn 32 = .ok (.if_icmp .ne 40, 3) := by decide +kernel
theorem dX11_orderOn_35 : decode cX11_orderOn 35 = .ok (.aload_n 0, 1) := by decide +kernel
theorem dX11_orderOn_36 : decode cX11_orderOn 36 = .ok (.getfield 142, 3) := by decide +kernel
theorem dX11_orderOn_39 : decode cX11_orderOn 39 = .ok (.aload_n 0, 1) := by decide +kernel
theorem dX11_orderOn_40 : decode cX11_orderOn 40 = .ok (.getfield 313, 3) := by decide +kernel
theorem dX11_orderOn_43 : decode cX11_orderOn 43 = .ok (.aload_n 0, 1) := by decide +kernel
theorem dX11_orderOn_44 : decode cX11_orderOn 44 = .ok (.getfield 136, 3) := by decide +kernel
theorem dX11_orderOn_47 : decode cX11_orderOn 47 = .ok (.iload_n 3, 1) := by decide +kernel
theorem dX11_orderOn_48 : decode cX11_orderOn 48 = .ok (.iaload, 1) := by decide +kernel
theorem dX11_orderOn_49 : decode cX11_orderOn 49 = .ok (.iastore, 1) := by decide +kernel
theorem dX11_orderOn_50 : decode cX11_orderOn 50 = .ok (.aload_n 0, 1) := by decide +kernel
theorem dX11_orderOn_51 : decode cX11_orderOn 51 = .ok (.getfield 145, 3) := by decide +kernel
theorem dX11_orderOn_54 : decode cX11_orderOn 54 = .ok (.aload_n 0, 1) := by decide +kernel
theorem dX11_orderOn_55 : decode cX11_orderOn 55 = .ok (.getfield 136, 3) := by decide +kernel
theorem dX11_orderOn_58 : decode cX11_orderOn 58 = .ok (.iload_n 3, 1) := by decide +kernel
theorem dX11_orderOn_59 : decode cX11_orderOn 59 = .ok (.iaload, 1) := by decide +kernel
theorem dX11_orderOn_60 : decode cX11_orderOn 60 = .ok (.iconst 0, 1) := by decide +kernel
theorem dX11_orderOn_61 : decode cX11_orderOn 61 = .ok (.iastore, 1) := by decide +kernel
theorem dX11_orderOn_62 : decode cX11_orderOn 62 = .ok (.aload_n 0, 1) := by decide +kernel
theorem dX11_orderOn_63 : decode cX11_orderOn 63 = .ok (.dup, 1) := by decide +kernel
theorem dX11_orderOn_64 : decode cX11_orderOn 64 = .ok (.getfield 313, 3) := by decide +kernel
theorem dX11_orderOn_67 : decode cX11_orderOn 67 = .ok (.iconst 1, 1) := by decide +kernel
theorem dX11_orderOn_68 : decode cX11_orderOn 68 = .ok (.iadd, 1) := by decide +kernel
theorem dX11_orderOn_69 : decode cX11_orderOn 69 = .ok (.putfield 313, 3) := by decide +kernel
theorem dX11_orderOn_72 : decode cX11_orderOn 72 = .ok (.iinc 3 1, 3) := by decide +kernel
theorem dX11_orderOn_75 : decode cX11_orderOn 75 = .ok (.goto (-62), 3) := by decide +kernel
theorem dX11_orderOn_78 : decode cX11_orderOn 78 = .ok (.iconst 1, 1) := by decide +kernel
theorem dX11_orderOn_79 : decode cX11_orderOn 79 = .ok (.istore_n 3, 1) := by decide +kernel
theorem dX11_orderOn_80 : decode cX11_orderOn 80 = .ok (.iload_n 3, 1) := by decide +kernel
theorem dX11_orderOn_81 : decode cX11_orderOn 81 = .ok (.aload_n 0, 1) := by decide +kernel
theorem dX11_orderOn_82 : decode cX11_orderOn 82 = .ok (.getfield 275, 3) := by decide +kernel
theorem dX11_orderOn_85 : decode cX11_orderOn 85 = .ok (.if_icmp .gt 141, 3) := by decide +kernel
theorem dX11_orderOn_88 : decode cX11_orderOn 88 = .ok (.aload_n 0, 1) := by decide +kernel
theorem dX11_orderOn_89 : decode cX11_orderOn 89 = .ok (.getfield 20, 3) := by decide +kernel
theorem dX11_orderOn_92 : decode cX11_orderOn 92 = .ok (.aload_n 0, 1) := by decide +kernel
theorem dX11_orderOn_93 : decode cX11_orderOn 93 = .ok (.getfield 99, 3) := by decide +kernel
theorem dX11_orderOn_96 : decode cX11_orderOn 96 = .ok (.iload_n 3, 1) := by decide +kernel
theorem dX11_orderOn_97 : decode cX11_orderOn 97 = .ok (.iaload, 1) := by decide +kernel
theorem dX11_orderOn_98 : decode cX11_orderOn 98 = .ok (.iaload, 1) := by decide +kernel
theorem dX11_orderOn_99 : decode cX11_orderOn 99 = .ok (.iload_n 1, 1) := by decide +kernel
theorem dX11_orderOn_100 : decode cX11_orderOn 100 = .ok (.if_icmp .ne 120, 3) := by decide +kernel
theorem dX11_orderOn_103 : decode cX11_orderOn 103 = .ok (.aload_n 0, 1) := by decide +kernel
theorem dX11_orderOn_104 : decode cX11_orderOn 104 = .ok (.iload_n 3, 1) := by decide +kernel
theorem dX11_orderOn_105 : decode cX11_orderOn 105 = .ok (.iload_n 2, 1) := by decide +kernel
theorem dX11_orderOn_106 : decode cX11_orderOn 106 = .ok (.invokevirtual 322, 3) := by decide +kernel
theorem dX11_orderOn_109 : decode cX11_orderOn 109 = .ok (.ifCond .ne 6, 3) := by decide +kernel
theorem dX11_orderOn_112 : decode cX11_orderOn 112 = .ok (.goto 108, 3) := by decide +kernel
theorem dX11_orderOn_115 : decode cX11_orderOn 115 = .ok (.aload_n 0, 1) := by decide +kernel
theorem dX11_orderOn_116 : decode cX11_orderOn 116 = .ok (.aload_n 0, 1) := by decide +kernel
theorem dX11_orderOn_117 : decode cX11_orderOn 117 = .ok (.getfield 23, 3) := by decide +kernel
theorem dX11_orderOn_120 : decode cX11_orderOn 120 = .ok (.aload_n 0, 1) := by decide +kernel
theorem dX11_orderOn_121 : decode cX11_orderOn 121 = .ok (.getfield 99, 3) := by decide +kernel
theorem dX11_orderOn_124 : decode cX11_orderOn 124 = .ok (.iload_n 3, 1) := by decide +kernel
theorem dX11_orderOn_125 : decode cX11_orderOn 125 = .ok (.iaload, 1) := by decide +kernel
theorem dX11_orderOn_126 : decode cX11_orderOn 126 = .ok (.iaload, 1) := by decide +kernel
theorem dX11_orderOn_127 : decode cX11_orderOn 127 = .ok (.invokevirtual 319, 3) := by decide +kernel
theorem dX11_orderOn_130 : decode cX11_orderOn 130 = .ok (.istore 4, 2) := by decide +kernel
theorem dX11_orderOn_132 : decode cX11_orderOn 132 = .ok (.aload_n 0, 1) := by decide +kernel
theorem dX11_orderOn_133 : decode cX11_orderOn 133 = .ok (.aload_n 0, 1) := by decide +kernel
theorem dX11_orderOn_134 : decode cX11_orderOn 134 = .ok (.getfield 23, 3) := by decide +kernel
theorem dX11_orderOn_137 : decode cX11_orderOn 137 = .ok (.aload_n 0, 1) := by decide +kernel
theorem dX11_orderOn_138 : decode cX11_orderOn 138 = .ok (.getfield 102, 3) := by decide +kernel
theorem dX11_orderOn_141 : decode cX11_orderOn 141 = .ok (.iload_n 3, 1) := by decide +kernel
theorem dX11_orderOn_142 : decode cX11_orderOn 142 = .ok (.iaload, 1) := by decide +kernel
theorem dX11_orderOn_143 : decode cX11_orderOn 143 = .ok (.iaload, 1) := by decide +kernel
theorem dX11_orderOn_144 : decode cX11_orderOn 144 = .ok (.invokevirtual 319, 3) := by decide +kernel
theorem dX11_orderOn_147 : decode cX11_orderOn 147 = .ok (.istore 5, 2) := by decide +kernel
theorem dX11_orderOn_149 : decode cX11_orderOn 149 = .ok (.iload 4, 2) := by decide +kernel
theorem dX11_orderOn_151 : decode cX11_orderOn 151 = .ok (.iload 5, 2) := by decide +kernel
theorem dX11_orderOn_153 : decode cX11_orderOn 153 = .ok (.if_icmp .ge 67, 3) := by decide +kernel
theorem dX11_orderOn_156 : decode cX11_orderOn 156 = .ok (.aload_n 0, 1) := by decide +kernel
theorem dX11_orderOn_157 : decode cX11_orderOn 157 = .ok (.getfield 142, 3) := by decide +kernel
theorem dX11_orderOn_160 : decode cX11_orderOn 160 = .ok (.iload 4, 2) := by decide +kernel
theorem dX11_orderOn_162 : decode cX11_orderOn 162 = .ok (.iaload, 1) := by decide +kernel
theorem dX11_orderOn_163 : decode cX11_orderOn 163 = .ok (.istore 6, 2) := by decide +kernel
theorem dX11_orderOn_165 : decode cX11_orderOn 165 = .ok (.aload_n 0, 1) := by decide +kernel
theorem dX11_orderOn_166 : decode cX11_orderOn 166 = .ok (.getfield 142, 3) := by decide +kernel
theorem dX11_orderOn_169 : decode cX11_orderOn 169 = .ok (.iload 4, 2) := by decide +kernel
theorem dX11_orderOn_171 : decode cX11_orderOn 171 = .ok (.aload_n 0, 1) := by decide +kernel
theorem dX11_orderOn_172 : decode cX11_orderOn 172 = .ok (.getfield 142, 3) := by decide +kernel
theorem dX11_orderOn_175 : decode cX11_orderOn 175 = .ok (.iload 5, 2) := by decide +kernel
theorem dX11_orderOn_177 : decode cX11_orderOn 177 = .ok (.iaload, 1) := by decide +kernel
theorem dX11_orderOn_178 : decode cX11_orderOn 178 = .ok (.iastore, 1) := by decide +kernel
theorem dX11_orderOn_179 : decode cX11_orderOn 179 = .ok (.aload_n 0, 1) := by decide +kernel
theorem dX11_orderOn_180 : decode cX11_orderOn 180 = .ok (.getfield 142, 3) := by decide +kernel
theorem dX11_orderOn_183 : decode cX11_orderOn 183 = .ok (.iload 5, 2) := by decide +kernel
theorem dX11_orderOn_185 : decode cX11_orderOn 185 = .ok (.iload 6, 2) := by decide +kernel
theorem dX11_orderOn_187 : decode cX11_orderOn 187 = .ok (.iastore, 1) := by decide +kernel
theorem dX11_orderOn_188 : decode cX11_orderOn 188 = .ok (.aload_n 0, 1) := by decide +kernel
theorem dX11_orderOn_189 : decode cX11_orderOn 189 = .ok (.getfield 145, 3) := by decide +kernel
theorem dX11_orderOn_192 : decode cX11_orderOn 192 = .ok (.aload_n 0, 1) := by decide +kernel
theorem dX11_orderOn_193 : decode cX11_orderOn 193 = .ok (.getfield 142, 3) := by decide +kernel
theorem dX11_orderOn_196 : decode cX11_orderOn 196 = .ok (.iload 4, 2) := by decide +kernel
theorem dX11_orderOn_198 : decode cX11_orderOn 198 = .ok (.iaload, 1) := by decide +kernel
theorem dX11_orderOn_199 : decode cX11_orderOn 199 = .ok (.dup2, 1) := by decide +kernel
theorem dX11_orderOn_200 : decode cX11_orderOn 200 = .ok (.iaload, 1) := by decide +kernel
theorem dX11_orderOn_201 : decode cX11_orderOn 201 = .ok (.iconst 1, 1) := by decide +kernel
theorem dX11_orderOn_202 : decode cX11_orderOn 202 = .ok (.iadd, 1) := by decide +kernel
theorem dX11_orderOn_203 : decode cX11_orderOn 203 = .ok (.iastore, 1) := by decide +kernel
theorem dX11_orderOn_204 : decode cX11_orderOn 204 = .ok (.aload_n 0, 1) := by decide +kernel
theorem dX11_orderOn_205 : decode cX11_orderOn 205 = .ok (.getfield 145, 3) := by decide +kernel
theorem dX11_orderOn_208 : decode cX11_orderOn 208 = .ok (.aload_n 0, 1) := by decide +kernel
theorem dX11_orderOn_209 : decode cX11_orderOn 209 = .ok (.getfield 142, 3) := by decide +kernel
theorem dX11_orderOn_212 : decode cX11_orderOn 212 = .ok (.iload 5, 2) := by decide +kernel
theorem dX11_orderOn_214 : decode cX11_orderOn 214 = .ok (.iaload, 1) := by decide +kernel
theorem dX11_orderOn_215 : decode cX11_orderOn 215 = .ok (.dup2, 1) := by decide +kernel
theorem dX11_orderOn_216 : decode cX11_orderOn 216 = .ok (.iaload, 1) := by decide +kernel
theorem dX11_orderOn_217 : decode cX11_orderOn 217 = .ok (.iconst 1, 1) := by decide +kernel
theorem dX11_orderOn_218 : decode cX11_orderOn 218 = .ok (.iadd, 1) := by decide +kernel
theorem dX11_orderOn_219 : decode cX11_orderOn 219 = .ok (.iastore, 1) := by decide +kernel
theorem dX11_orderOn_220 : decode cX11_orderOn 220 = .ok (.iinc 3 1, 3) := by decide +kernel
theorem dX11_orderOn_223 : decode cX11_orderOn 223 = .ok (.goto (-143), 3) := by decide +kernel
theorem dX11_orderOn_226 : decode cX11_orderOn 226 = .ok (.return_, 1) := by decide +kernel
theorem dX11_many_0 : decode cX11_many 0 = .ok (.aload_n 0, 1) := by decide +kernel
theorem dX11_many_1 : decode cX11_many 1 = .ok (.iload_n 1, 1) := by decide +kernel
theorem dX11_many_2 : decode cX11_many 2 = .ok (.iload_n 2, 1) := by decide +kernel
theorem dX11_many_3 : decode cX11_many 3 = .ok (.invokevirtual 235, 3) := by decide +kernel
theorem dX11_many_6 : decode cX11_many 6 = .ok (.istore_n 3, 1) := by decide +kernel
theorem dX11_many_7 : decode cX11_many 7 = .ok (.iload_n 3, 1) := by decide +kernel
theorem dX11_many_8 : decode cX11_many 8 = .ok (.ifCond .le 9, 3) := by decide +kernel
theorem dX11_many_11 : decode cX11_many 11 = .ok (.aload_n 0, 1) := by decide +kernel
theorem dX11_many_12 : decode cX11_many 12 = .ok (.iload_n 3, 1) := by decide +kernel
theorem dX11_many_13 : decode cX11_many 13 = .ok (.invokevirtual 231, 3) := by decide +kernel
theorem dX11_many_16 : decode cX11_many 16 = .ok (.ireturn, 1) := by decide +kernel
theorem dX11_many_17 : decode cX11_many 17 = .ok (.aload_n 0, 1) := by decide +kernel
theorem dX11_many_18 : decode cX11_many 18 = .ok (.invokevirtual 257, 3) := by decide +kernel
theorem dX11_many_21 : decode cX11_many 21 = .ok (.aload_n 0, 1) := by decide +kernel
theorem dX11_many_22 : decode cX11_many 22 = .ok (.iload_n 1, 1) := by decide +kernel
theorem dX11_many_23 : decode cX11_many 23 = .ok (.iload_n 2, 1) := by decide +kernel
theorem dX11_many_24 : decode cX11_many 24 = .ok (.invokevirtual 325, 3) := by decide +kernel
theorem dX11_many_27 : decode cX11_many 27 = .ok (.aload_n 0, 1) := by decide +kernel
theorem dX11_many_28 : decode cX11_many 28 = .ok (.iconst 0, 1) := by decide +kernel
theorem dX11_many_29 : decode cX11_many 29 = .ok (.putfield 163, 3) := by decide +kernel
theorem dX11_many_32 : decode cX11_many 32 = .ok (.aload_n 0, 1) := by decide +kernel
theorem dX11_many_33 : decode cX11_many 33 = .ok (.getfield 313, 3) := by decide +kernel
theorem dX11_many_36 : decode cX11_many 36 = .ok (.ireturn, 1) := by decide +kernel
theorem dX11_list_0 : decode cX11_list 0 = .ok (.aload_n 0, 1) := by decide +kernel
theorem dX11_list_1 : decode cX11_list 1 = .ok (.iload_n 1, 1) := by decide +kernel
theorem dX11_list_2 : decode cX11_list 2 = .ok (.iload_n 2, 1) := by decide +kernel
theorem dX11_list_3 : decode cX11_list 3 = .ok (.invokevirtual 235, 3) := by decide +kernel
theorem dX11_list_6 : decode cX11_list 6 = .ok (.istore 4, 2) := by decide +kernel
theorem dX11_list_8 : decode cX11_list 8 = .ok (.iload 4, 2) := by decide +kernel
theorem dX11_list_10 : decode cX11_list 10 = .ok (.ifCond .le 10, 3) := by decide +kernel
theorem dX11_list_13 : decode cX11_list 13 = .ok (.aload_n 0, 1) := by decide +kernel
theorem dX11_list_14 : decode cX11_list 14 = .ok (.iload 4, 2) := by decide +kernel
theorem dX11_list_16 : decode cX11_list 16 = .ok (.invokevirtual 231, 3) := by decide +kernel
theorem dX11_list_19 : decode cX11_list 19 = .ok (.ireturn, 1) := by decide +kernel
theorem dX11_list_20 : decode cX11_list 20 = .ok (.aload_n 0, 1) := by decide +kernel
theorem dX11_list_21 : decode cX11_list 21 = .ok (.invokevirtual 257, 3) := by decide +kernel
theorem dX11_list_24 : decode cX11_list 24 = .ok (.aload_n 0, 1) := by decide +kernel
theorem dX11_list_25 : decode cX11_list 25 = .ok (.iload_n 1, 1) := by decide +kernel
theorem dX11_list_26 : decode cX11_list 26 = .ok (.iload_n 2, 1) := by decide +kernel
theorem dX11_list_27 : decode cX11_list 27 = .ok (.invokevirtual 325, 3) := by decide +kernel
theorem dX11_list_30 : decode cX11_list 30 = .ok (.iload_n 3, 1) := by decide +kernel
theorem dX11_list_31 : decode cX11_list 31 = .ok (.ifCond .lt 11, 3) := by decide +kernel
theorem dX11_list_34 : decode cX11_list 34 = .ok (.iload_n 3, 1) := by decide +kernel
theorem dX11_list_35 : decode cX11_list 35 = .ok (.aload_n 0, 1) := by decide +kernel
theorem dX11_list_36 : decode cX11_list 36 = .ok (.getfield 313, 3) := by decide +kernel
theorem dX11_list_39 : decode cX11_list 39 = .ok (.if_icmp .lt 9, 3) := by decide +kernel
theorem dX11_list_42 : decode cX11_list 42 = .ok (.aload_n 0, 1) := by decide +kernel
theorem dX11_list_43 : decode cX11_list 43 = .ok (.iconst 5, 1) := by decide +kernel
theorem dX11_list_44 : decode cX11_list 44 = .ok (.invokevirtual 231, 3) := by decide +kernel
theorem dX11_list_47 : decode cX11_list 47 = .ok (.ireturn, 1) := by decide +kernel
theorem dX11_list_48 : decode cX11_list 48 = .ok (.aload_n 0, 1) := by decide +kernel
theorem dX11_list_49 : decode cX11_list 49 = .ok (.iconst 0, 1) := by decide +kernel
theorem dX11_list_50 : decode cX11_list 50 = .ok (.putfield 163, 3) := by decide +kernel
theorem dX11_list_53 : decode cX11_list 53 = .ok (.aload_n 0, 1) := by decide +kernel
theorem dX11_list_54 : decode cX11_list 54 = .ok (.getfield 142, 3) := by decide +kernel
theorem dX11_list_57 : decode cX11_list 57 = .ok (.iload_n 3, 1) := by decide +kernel
theorem dX11_list_58 : decode cX11_list 58 = .ok (.iaload, 1) := by decide +kernel
theorem dX11_list_59 : decode cX11_list 59 = .ok (.ireturn, 1) := by decide +kernel
theorem dX11_isRanked_0 : decode cX11_isRanked 0 = .ok (.aload_n 0, 1) := by decide +kernel
theorem dX11_isRanked_1 : decode cX11_isRanked 1 = .ok (.iload_n 1, 1) := by decide +kernel
theorem dX11_isRanked_2 : decode cX11_isRanked 2 = .ok (.invokevirtual 224, 3) := by decide +kernel
theorem dX11_isRanked_5 : decode cX11_isRanked 5 = .ok (.ifCond .ne 9, 3) := by decide +kernel
theorem dX11_isRanked_8 : decode cX11_isRanked 8 = .ok (.aload_n 0, 1) := by decide +kernel
theorem dX11_isRanked_9 : decode cX11_isRanked 9 = .ok (.iconst 1, 1) := by decide +kernel
theorem dX11_isRanked_10 : decode cX11_isRanked 10 = .ok (.invokevirtual 238, 3) := by decide +kernel
theorem dX11_isRanked_13 : decode cX11_isRanked 13 = .ok (.ireturn, 1) := by decide +kernel
theorem dX11_isRanked_14 : decode cX11_isRanked 14 = .ok (.aload_n 0, 1) := by decide +kernel
theorem dX11_isRanked_15 : decode cX11_isRanked 15 = .ok (.aload_n 0, 1) := by decide +kernel
theorem dX11_isRanked_16 : decode cX11_isRanked 16 = .ok (.getfield 20, 3) := by decide +kernel
theorem dX11_isRanked_19 : decode cX11_isRanked 19 = .ok (.iload_n 1, 1) := by decide +kernel
theorem dX11_isRanked_20 : decode cX11_isRanked 20 = .ok (.iaload, 1) := by decide +kernel
theorem dX11_isRanked_21 : decode cX11_isRanked 21 = .ok (.iload_n 2, 1) := by decide +kernel
theorem dX11_isRanked_22 : decode cX11_isRanked 22 = .ok (.invokevirtual 235, 3) := by decide +kernel
theorem dX11_isRanked_25 : decode cX11_isRanked 25 = .ok (.istore_n 3, 1) := by decide +kernel
theorem dX11_isRanked_26 : decode cX11_isRanked 26 = .ok (.iload_n 3, 1) := by decide +kernel
theorem dX11_isRanked_27 : decode cX11_isRanked 27 = .ok (.ifCond .le 9, 3) := by decide +kernel
theorem dX11_isRanked_30 : decode cX11_isRanked 30 = .ok (.aload_n 0, 1) := by decide +kernel
theorem dX11_isRanked_31 : decode cX11_isRanked 31 = .ok (.iload_n 3, 1) := by decide +kernel
theorem dX11_isRanked_32 : decode cX11_isRanked 32 = .ok (.invokevirtual 238, 3) := by decide +kernel
theorem dX11_isRanked_35 : decode cX11_isRanked 35 = .ok (.ireturn, 1) := by decide +kernel
theorem dX11_isRanked_36 : decode cX11_isRanked 36 = .ok (.aload_n 0, 1) := by decide +kernel
theorem dX11_isRanked_37 : decode cX11_isRanked 37 = .ok (.invokevirtual 257, 3) := by decide +kernel
theorem dX11_isRanked_40 : decode cX11_isRanked 40 = .ok (.aload_n 0, 1) := by decide +kernel
theorem dX11_isRanked_41 : decode cX11_isRanked 41 = .ok (.getfield 17, 3) := by decide +kernel
theorem dX11_isRanked_44 : decode cX11_isRanked 44 = .ok (.iload_n 1, 1) := by decide +kernel
theorem dX11_isRanked_45 : decode cX11_isRanked 45 = .ok (.iaload, 1) := by decide +kernel
theorem dX11_isRanked_46 : decode cX11_isRanked 46 = .ok (.bipush 6, 2) := by decide +kernel
theorem dX11_isRanked_48 : decode cX11_isRanked 48 = .ok (.if_icmp .eq 12, 3) := by decide +kernel
theorem dX11_isRanked_51 : decode cX11_isRanked 51 = .ok (.aload_n 0, 1) := by decide +kernel
theorem dX11_isRanked_52 : decode cX11_isRanked 52 = .ok (.iload_n 1, 1) := by decide +kernel
theorem dX11_isRanked_53 : decode cX11_isRanked 53 = .ok (.iload_n 2, 1) := by decide +kernel
theorem dX11_isRanked_54 : decode cX11_isRanked 54 = .ok (.invokevirtual 293, 3) := by decide +kernel
theorem dX11_isRanked_57 : decode cX11_isRanked 57 = .ok (.ifCond .ne 10, 3) := by decide +kernel
theorem dX11_isRanked_60 : decode cX11_isRanked 60 = .ok (.aload_n 0, 1) := by decide +kernel
theorem dX11_isRanked_61 : decode cX11_isRanked 61 = .ok (.bipush 6, 2) := by decide +kernel
theorem dX11_isRanked_63 : decode cX11_isRanked 63 = .ok (.invokevirtual 238, 3) := by decide +kernel
theorem dX11_isRanked_66 : decode cX11_isRanked 66 = .ok (.ireturn, 1) := by decide +kernel
theorem dX11_isRanked_67 : decode cX11_isRanked 67 = .ok (.aload_n 0, 1) := by decide +kernel
theorem dX11_isRanked_68 : decode cX11_isRanked 68 = .ok (.aload_n 0, 1) := by decide +kernel
theorem dX11_isRanked_69 : decode cX11_isRanked 69 = .ok (.getfield 20, 3) := by decide +kernel
theorem dX11_isRanked_72 : decode cX11_isRanked 72 = .ok (.iload_n 1, 1) := by decide +kernel
theorem dX11_isRanked_73 : decode cX11_isRanked 73 = .ok (.iaload, 1) := by decide +kernel
theorem dX11_isRanked_74 : decode cX11_isRanked 74 = .ok (.iload_n 2, 1) := by decide +kernel
theorem dX11_isRanked_75 : decode cX11_isRanked 75 = .ok (.invokevirtual 325, 3) := by decide +kernel
theorem dX11_isRanked_78 : decode cX11_isRanked 78 = .ok (.aload_n 0, 1) := by decide +kernel
theorem dX11_isRanked_79 : decode cX11_isRanked 79 = .ok (.iconst 0, 1) := by decide +kernel
theorem dX11_isRanked_80 : decode cX11_isRanked 80 = .ok (.putfield 163, 3) := by decide +kernel
theorem dX11_isRanked_83 : decode cX11_isRanked 83 = .ok (.iconst 1, 1) := by decide +kernel
theorem dX11_isRanked_84 : decode cX11_isRanked 84 = .ok (.ireturn, 1) := by decide +kernel
theorem dX11_rank_0 : decode cX11_rank 0 = .ok (.aload_n 0, 1) := by decide +kernel
theorem dX11_rank_1 : decode cX11_rank 1 = .ok (.iload_n 1, 1) := by decide +kernel
theorem dX11_rank_2 : decode cX11_rank 2 = .ok (.iload_n 2, 1) := by decide +kernel
theorem dX11_rank_3 : decode cX11_rank 3 = .ok (.invokevirtual 328, 3) := by decide +kernel
theorem dX11_rank_6 : decode cX11_rank 6 = .ok (.ifCond .eq 16, 3) := by decide +kernel
theorem dX11_rank_9 : decode cX11_rank 9 = .ok (.aload_n 0, 1) := by decide +kernel
theorem dX11_rank_10 : decode cX11_rank 10 = .ok (.aload_n 0, 1) := by decide +kernel
theorem dX11_rank_11 : decode cX11_rank 11 = .ok (.getfield 23, 3) := by decide +kernel
theorem dX11_rank_14 : decode cX11_rank 14 = .ok (.iload_n 1, 1) := by decide +kernel
theorem dX11_rank_15 : decode cX11_rank 15 = .ok (.iaload, 1) := by decide +kernel
theorem dX11_rank_16 : decode cX11_rank 16 = .ok (.invokevirtual 319, 3) := by decide +kernel
theorem dX11_rank_19 : decode cX11_rank 19 = .ok (.goto 4, 3) := by decide +kernel
theorem dX11_rank_22 : decode cX11_rank 22 = .ok (.iconst (-1), 1) := by decide +kernel
theorem dX11_rank_23 : decode cX11_rank 23 = .ok (.ireturn, 1) := by decide +kernel
theorem dX11_why_0 : decode cX11_why 0 = .ok (.aload_n 0, 1) := by decide +kernel
theorem dX11_why_1 : decode cX11_why 1 = .ok (.iload_n 1, 1) := by decide +kernel
theorem dX11_why_2 : decode cX11_why 2 = .ok (.iload_n 2, 1) := by decide +kernel
theorem dX11_why_3 : decode cX11_why 3 = .ok (.invokevirtual 328, 3) := by decide +kernel
theorem dX11_why_6 : decode cX11_why 6 = .ok (.ifCond .eq 17, 3) := by decide +kernel
theorem dX11_why_9 : decode cX11_why 9 = .ok (.aload_n 0, 1) := by decide +kernel
theorem dX11_why_10 : decode cX11_why 10 = .ok (.getfield 145, 3) := by decide +kernel
theorem dX11_why_13 : decode cX11_why 13 = .ok (.aload_n 0, 1) := by decide +kernel
theorem dX11_why_14 : decode cX11_why 14 = .ok (.getfield 23, 3) := by decide +kernel
theorem dX11_why_17 : decode cX11_why 17 = .ok (.iload_n 1, 1) := by decide +kernel
theorem dX11_why_18 : decode cX11_why 18 = .ok (.iaload, 1) := by decide +kernel
theorem dX11_why_19 : decode cX11_why 19 = .ok (.iaload, 1) := by decide +kernel
theorem dX11_why_20 : decode cX11_why 20 = .ok (.goto 4, 3) := by decide +kernel
theorem dX11_why_23 : decode cX11_why 23 = .ok (.iconst (-1), 1) := by decide +kernel
theorem dX11_why_24 : decode cX11_why 24 = .ok (.ireturn, 1) := by decide +kernel
theorem dX11_as_0 : decode cX11_as 0 = .ok (.aload_n 0, 1) := by decide +kernel
theorem dX11_as_1 : decode cX11_as 1 = .ok (.aload_n 0, 1) := by decide +kernel
theorem dX11_as_2 : decode cX11_as 2 = .ok (.getfield 331, 3) := by decide +kernel
theorem dX11_as_5 : decode cX11_as 5 = .ok (.iload_n 1, 1) := by decide +kernel
theorem dX11_as_6 : decode cX11_as 6 = .ok (.invokevirtual 235, 3) := by decide +kernel
theorem dX11_as_9 : decode cX11_as 9 = .ok (.istore 5, 2) := by decide +kernel
theorem dX11_as_11 : decode cX11_as 11 = .ok (.iload 5, 2) := by decide +kernel
theorem dX11_as_13 : decode cX11_as 13 = .ok (.ifCond .le 10, 3) := by decide +kernel
theorem dX11_as_16 : decode cX11_as 16 = .ok (.aload_n 0, 1) := by decide +kernel
theorem dX11_as_17 : decode cX11_as 17 = .ok (.iload 5, 2) := by decide +kernel
theorem dX11_as_19 : decode cX11_as 19 = .ok (.invokevirtual 231, 3) := by decide +kernel
theorem dX11_as_22 : decode cX11_as 22 = .ok (.ireturn, 1) := by decide +kernel
theorem dX11_as_23 : decode cX11_as 23 = .ok (.iload_n 2, 1) := by decide +kernel
theorem dX11_as_24 : decode cX11_as 24 = .ok (.ifCond .lt 23, 3) := by decide +kernel
theorem dX11_as_27 : decode cX11_as 27 = .ok (.iload_n 2, 1) := by decide +kernel
theorem dX11_as_28 : decode cX11_as 28 = .ok (.aload_n 0, 1) := by decide +kernel
theorem dX11_as_29 : decode cX11_as 29 = .ok (.getfield 166, 3) := by decide +kernel
theorem dX11_as_32 : decode cX11_as 32 = .ok (.if_icmp .gt 15, 3) := by decide +kernel
theorem dX11_as_35 : decode cX11_as 35 = .ok (.iload_n 3, 1) := by decide +kernel
theorem dX11_as_36 : decode cX11_as 36 = .ok (.ifCond .lt 11, 3) := by decide +kernel
theorem dX11_as_39 : decode cX11_as 39 = .ok (.iload_n 3, 1) := by decide +kernel
theorem dX11_as_40 : decode cX11_as 40 = .ok (.aload_n 0, 1) := by decide +kernel
theorem dX11_as_41 : decode cX11_as 41 = .ok (.getfield 166, 3) := by decide +kernel
theorem dX11_as_44 : decode cX11_as 44 = .ok (.if_icmp .le 9, 3) := by decide +kernel
theorem dX11_as_47 : decode cX11_as 47 = .ok (.aload_n 0, 1) := by decide +kernel
theorem dX11_as_48 : decode cX11_as 48 = .ok (.iconst 5, 1) := by decide +kernel
theorem dX11_as_49 : decode cX11_as 49 = .ok (.invokevirtual 231, 3) := by decide +kernel
theorem dX11_as_52 : decode cX11_as 52 = .ok (.ireturn, 1) := by decide +kernel
theorem dX11_as_53 : decode cX11_as 53 = .ok (.aload_n 0, 1) := by decide +kernel
theorem dX11_as_54 : decode cX11_as 54 = .ok (.iload_n 2, 1) := by decide +kernel
theorem dX11_as_55 : decode cX11_as 55 = .ok (.iload_n 3, 1) := by decide +kernel
theorem dX11_as_56 : decode cX11_as 56 = .ok (.invokevirtual 181, 3) := by decide +kernel
theorem dX11_as_59 : decode cX11_as 59 = .ok (.aload_n 0, 1) := by decide +kernel
theorem dX11_as_60 : decode cX11_as 60 = .ok (.aload_n 0, 1) := by decide +kernel
theorem dX11_as_61 : decode cX11_as 61 = .ok (.getfield 331, 3) := by decide +kernel
theorem dX11_as_64 : decode cX11_as 64 = .ok (.iload_n 1, 1) := by decide +kernel
theorem dX11_as_65 : decode cX11_as 65 = .ok (.invokevirtual 325, 3) := by decide +kernel
theorem dX11_as_68 : decode cX11_as 68 = .ok (.iload 4, 2) := by decide +kernel
theorem dX11_as_70 : decode cX11_as 70 = .ok (.ifCond .lt 12, 3) := by decide +kernel
theorem dX11_as_73 : decode cX11_as 73 = .ok (.iload 4, 2) := by decide +kernel
theorem dX11_as_75 : decode cX11_as 75 = .ok (.aload_n 0, 1) := by decide +kernel
theorem dX11_as_76 : decode cX11_as 76 = .ok (.getfield 313, 3) := by decide +kernel
theorem dX11_as_79 : decode cX11_as 79 = .ok (.if_icmp .lt 9, 3) := by decide +kernel
theorem dX11_as_82 : decode cX11_as 82 = .ok (.aload_n 0, 1) := by decide +kernel
theorem dX11_as_83 : decode cX11_as 83 = .ok (.iconst 5, 1) := by decide +kernel
theorem dX11_as_84 : decode cX11_as 84 = .ok (.invokevirtual 231, 3) := by decide +kernel
theorem dX11_as_87 : decode cX11_as 87 = .ok (.ireturn, 1) := by decide +kernel
theorem dX11_as_88 : decode cX11_as 88 = .ok (.aload_n 0, 1) := by decide +kernel
theorem dX11_as_89 : decode cX11_as 89 = .ok (.iconst 0, 1) := by decide +kernel
theorem dX11_as_90 : decode cX11_as 90 = .ok (.putfield 163, 3) := by decide +kernel
theorem dX11_as_93 : decode cX11_as 93 = .ok (.aload_n 0, 1) := by decide +kernel
theorem dX11_as_94 : decode cX11_as 94 = .ok (.getfield 142, 3) := by decide +kernel
theorem dX11_as_97 : decode cX11_as 97 = .ok (.iload 4, 2) := by decide +kernel
theorem dX11_as_99 : decode cX11_as 99 = .ok (.iaload, 1) := by decide +kernel
theorem dX11_as_100 : decode cX11_as 100 = .ok (.ireturn, 1) := by decide +kernel
theorem dX11_choose_0 : decode cX11_choose 0 = .ok (.iload_n 1, 1) := by decide +kernel
theorem dX11_choose_1 : decode cX11_choose 1 = .ok (.ifCond .lt 11, 3) := by decide +kernel
theorem dX11_choose_4 : decode cX11_choose 4 = .ok (.iload_n 1, 1) := by decide +kernel
theorem dX11_choose_5 : decode cX11_choose 5 = .ok (.aload_n 0, 1) := by decide +kernel
theorem dX11_choose_6 : decode cX11_choose 6 = .ok (.getfield 172, 3) := by decide +kernel
theorem dX11_choose_9 : decode cX11_choose 9 = .ok (.if_icmp .lt 9, 3) := by decide +kernel
theorem dX11_choose_12 : decode cX11_choose 12 = .ok (.aload_n 0, 1) := by decide +kernel
theorem dX11_choose_13 : decode cX11_choose 13 = .ok (.iconst 1, 1) := by decide +kernel
theorem dX11_choose_14 : decode cX11_choose 14 = .ok (.invokevirtual 238, 3) := by decide +kernel
theorem dX11_choose_17 : decode cX11_choose 17 = .ok (.ireturn, 1) := by decide +kernel
theorem dX11_choose_18 : decode cX11_choose 18 = .ok (.aload_n 0, 1) := by decide +kernel
theorem dX11_choose_19 : decode cX11_choose 19 = .ok (.iload_n 1, 1) := by decide +kernel
theorem dX11_choose_20 : decode cX11_choose 20 = .ok (.putfield 331, 3) := by decide +kernel
theorem dX11_choose_23 : decode cX11_choose 23 = .ok (.aload_n 0, 1) := by decide +kernel
theorem dX11_choose_24 : decode cX11_choose 24 = .ok (.iconst 0, 1) := by decide +kernel
theorem dX11_choose_25 : decode cX11_choose 25 = .ok (.putfield 163, 3) := by decide +kernel
theorem dX11_choose_28 : decode cX11_choose 28 = .ok (.iconst 1, 1) := by decide +kernel
theorem dX11_choose_29 : decode cX11_choose 29 = .ok (.ireturn, 1) := by decide +kernel
theorem dX11_dueIn_0 : decode cX11_dueIn 0 = .ok (.aload_n 0, 1) := by decide +kernel
theorem dX11_dueIn_1 : decode cX11_dueIn 1 = .ok (.iload_n 1, 1) := by decide +kernel
theorem dX11_dueIn_2 : decode cX11_dueIn 2 = .ok (.invokevirtual 206, 3) := by decide +kernel
theorem dX11_dueIn_5 : decode cX11_dueIn 5 = .ok (.lconst 0, 1) := by decide +kernel
theorem dX11_dueIn_6 : decode cX11_dueIn 6 = .ok (.lstore_n 2, 1) := by decide +kernel
theorem dX11_dueIn_7 : decode cX11_dueIn 7 = .ok (.iconst 0, 1) := by decide +kernel
theorem dX11_dueIn_8 : decode cX11_dueIn 8 = .ok (.istore 4, 2) := by decide +kernel
theorem dX11_dueIn_10 : decode cX11_dueIn 10 = .ok (.iload 4, 2) := by decide +kernel
theorem dX11_dueIn_12 : decode cX11_dueIn 12 = .ok (.aload_n 0, 1) := by decide +kernel
theorem dX11_dueIn_13 : decode cX11_dueIn 13 = .ok (.getfield 199, 3) := by decide +kernel
theorem dX11_dueIn_16 : decode cX11_dueIn 16 = .ok (.if_icmp .ge 24, 3) := by decide +kernel
theorem dX11_dueIn_19 : decode cX11_dueIn 19 = .ok (.lload_n 2, 1) := by decide +kernel
theorem dX11_dueIn_20 : decode cX11_dueIn 20 = .ok (.aload_n 0, 1) := by decide +kernel
theorem dX11_dueIn_21 : decode cX11_dueIn 21 = .ok (.getfield 151, 3) := by decide +kernel
theorem dX11_dueIn_24 : decode cX11_dueIn 24 = .ok (.aload_n 0, 1) := by decide +kernel
theorem dX11_dueIn_25 : decode cX11_dueIn 25 = .ok (.getfield 124, 3) := by decide +kernel
theorem dX11_dueIn_28 : decode cX11_dueIn 28 = .ok (.iload 4, 2) := by decide +kernel
theorem dX11_dueIn_30 : decode cX11_dueIn 30 = .ok (.iaload, 1) := by decide +kernel
theorem dX11_dueIn_31 : decode cX11_dueIn 31 = .ok (.laload, 1) := by decide +kernel
theorem dX11_dueIn_32 : decode cX11_dueIn 32 = .ok (.ladd, 1) := by decide +kernel
theorem dX11_dueIn_33 : decode cX11_dueIn 33 = .ok (.lstore_n 2, 1) := by decide +kernel
theorem dX11_dueIn_34 : decode cX11_dueIn 34 = .ok (.iinc 4 1, 3) := by decide +kernel
theorem dX11_dueIn_37 : decode cX11_dueIn 37 = .ok (.goto (-27), 3) := by decide +kernel
theorem dX11_dueIn_40 : decode cX11_dueIn 40 = .ok (.lload_n 2, 1) := by decide +kernel
theorem dX11_dueIn_41 : decode cX11_dueIn 41 = .ok (.lreturn, 1) := by decide +kernel
theorem dX11_gotBy_0 : decode cX11_gotBy 0 = .ok (.aload_n 0, 1) := by decide +kernel
theorem dX11_gotBy_1 : decode cX11_gotBy 1 = .ok (.iload_n 1, 1) := by decide +kernel
theorem dX11_gotBy_2 : decode cX11_gotBy 2 = .ok (.invokevirtual 206, 3) := by decide +kernel
theorem dX11_gotBy_5 : decode cX11_gotBy 5 = .ok (.lconst 0, 1) := by decide +kernel
theorem dX11_gotBy_6 : decode cX11_gotBy 6 = .ok (.lstore_n 2, 1) := by decide +kernel
theorem dX11_gotBy_7 : decode cX11_gotBy 7 = .ok (.iconst 0, 1) := by decide +kernel
theorem dX11_gotBy_8 : decode cX11_gotBy 8 = .ok (.istore 4, 2) := by decide +kernel
theorem dX11_gotBy_10 : decode cX11_gotBy 10 = .ok (.iload 4, 2) := by decide +kernel
theorem dX11_gotBy_12 : decode cX11_gotBy 12 = .ok (.aload_n 0, 1) := by decide +kernel
theorem dX11_gotBy_13 : decode cX11_gotBy 13 = .ok (.getfield 199, 3) := by decide +kernel
theorem dX11_gotBy_16 : decode cX11_gotBy 16 = .ok (.if_icmp .ge 24, 3) := by decide +kernel
theorem dX11_gotBy_19 : decode cX11_gotBy 19 = .ok (.lload_n 2, 1) := by decide +kernel
theorem dX11_gotBy_20 : decode cX11_gotBy 20 = .ok (.aload_n 0, 1) := by decide +kernel
theorem dX11_gotBy_21 : decode cX11_gotBy 21 = .ok (.getfield 148, 3) := by decide +kernel
theorem dX11_gotBy_24 : decode cX11_gotBy 24 = .ok (.aload_n 0, 1) := by decide +kernel
theorem dX11_gotBy_25 : decode cX11_gotBy 25 = .ok (.getfield 124, 3) := by decide +kernel
theorem dX11_gotBy_28 : decode cX11_gotBy 28 = .ok (.iload 4, 2) := by decide +kernel
theorem dX11_gotBy_30 : decode cX11_gotBy 30 = .ok (.iaload, 1) := by decide +kernel
theorem dX11_gotBy_31 : decode cX11_gotBy 31 = .ok (.laload, 1) := by decide +kernel
theorem dX11_gotBy_32 : decode cX11_gotBy 32 = .ok (.ladd, 1) := by decide +kernel
theorem dX11_gotBy_33 : decode cX11_gotBy 33 = .ok (.lstore_n 2, 1) := by decide +kernel
theorem dX11_gotBy_34 : decode cX11_gotBy 34 = .ok (.iinc 4 1, 3) := by decide +kernel
theorem dX11_gotBy_37 : decode cX11_gotBy 37 = .ok (.goto (-27), 3) := by decide +kernel
theorem dX11_gotBy_40 : decode cX11_gotBy 40 = .ok (.lload_n 2, 1) := by decide +kernel
theorem dX11_gotBy_41 : decode cX11_gotBy 41 = .ok (.lreturn, 1) := by decide +kernel
theorem dX11_gets_0 : decode cX11_gets 0 = .ok (.aload_n 0, 1) := by decide +kernel
theorem dX11_gets_1 : decode cX11_gets 1 = .ok (.iload_n 1, 1) := by decide +kernel
theorem dX11_gets_2 : decode cX11_gets 2 = .ok (.invokevirtual 206, 3) := by decide +kernel
theorem dX11_gets_5 : decode cX11_gets 5 = .ok (.lload_n 2, 1) := by decide +kernel
theorem dX11_gets_6 : decode cX11_gets 6 = .ok (.lstore 4, 2) := by decide +kernel
theorem dX11_gets_8 : decode cX11_gets 8 = .ok (.iconst 0, 1) := by decide +kernel
theorem dX11_gets_9 : decode cX11_gets 9 = .ok (.istore 6, 2) := by decide +kernel
theorem dX11_gets_11 : decode cX11_gets 11 = .ok (.iload 6, 2) := by decide +kernel
theorem dX11_gets_13 : decode cX11_gets 13 = .ok (.aload_n 0, 1) := by decide +kernel
theorem dX11_gets_14 : decode cX11_gets 14 = .ok (.getfield 199, 3) := by decide +kernel
theorem dX11_gets_17 : decode cX11_gets 17 = .ok (.if_icmp .ge 65, 3) := by decide +kernel
theorem dX11_gets_20 : decode cX11_gets 20 = .ok (.lload 4, 2) := by decide +kernel
theorem dX11_gets_22 : decode cX11_gets 22 = .ok (.aload_n 0, 1) := by decide +kernel
theorem dX11_gets_23 : decode cX11_gets 23 = .ok (.getfield 151, 3) := by decide +kernel
theorem dX11_gets_26 : decode cX11_gets 26 = .ok (.aload_n 0, 1) := by decide +kernel
theorem dX11_gets_27 : decode cX11_gets 27 = .ok (.getfield 124, 3) := by decide +kernel
theorem dX11_gets_30 : decode cX11_gets 30 = .ok (.iload 6, 2) := by decide +kernel
theorem dX11_gets_32 : decode cX11_gets 32 = .ok (.iaload, 1) := by decide +kernel
theorem dX11_gets_33 : decode cX11_gets 33 = .ok (.laload, 1) := by decide +kernel
theorem dX11_gets_34 : decode cX11_gets 34 = .ok (.aload_n 0, 1) := by decide +kernel
theorem dX11_gets_35 : decode cX11_gets 35 = .ok (.getfield 148, 3) := by decide +kernel
theorem dX11_gets_38 : decode cX11_gets 38 = .ok (.aload_n 0, 1) := by decide +kernel
theorem dX11_gets_39 : decode cX11_gets 39 = .ok (.getfield 124, 3) := by decide +kernel
theorem dX11_gets_42 : decode cX11_gets 42 = .ok (.iload 6, 2) := by decide +kernel
theorem dX11_gets_44 : decode cX11_gets 44 = .ok (.iaload, 1) := by decide +kernel
theorem dX11_gets_45 : decode cX11_gets 45 = .ok (.laload, 1) := by decide +kernel
theorem dX11_gets_46 : decode cX11_gets 46 = .ok (.lsub, 1) := by decide +kernel
theorem dX11_gets_47 : decode cX11_gets 47 = .ok (.invokestatic 217, 3) := by decide +kernel
theorem dX11_gets_50 : decode cX11_gets 50 = .ok (.lstore 7, 2) := by decide +kernel
theorem dX11_gets_52 : decode cX11_gets 52 = .ok (.aload_n 0, 1) := by decide +kernel
theorem dX11_gets_53 : decode cX11_gets 53 = .ok (.getfield 148, 3) := by decide +kernel
theorem dX11_gets_56 : decode cX11_gets 56 = .ok (.aload_n 0, 1) := by decide +kernel
theorem dX11_gets_57 : decode cX11_gets 57 = .ok (.getfield 124, 3) := by decide +kernel
theorem dX11_gets_60 : decode cX11_gets 60 = .ok (.iload 6, 2) := by decide +kernel
theorem dX11_gets_62 : decode cX11_gets 62 = .ok (.iaload, 1) := by decide +kernel
theorem dX11_gets_63 : decode cX11_gets 63 = .ok (.dup2, 1) := by decide +kernel
theorem dX11_gets_64 : decode cX11_gets 64 = .ok (.laload, 1) := by decide +kernel
theorem dX11_gets_65 : decode cX11_gets 65 = .ok (.lload 7, 2) := by decide +kernel
theorem dX11_gets_67 : decode cX11_gets 67 = .ok (.ladd, 1) := by decide +kernel
theorem dX11_gets_68 : decode cX11_gets 68 = .ok (.lastore, 1) := by decide +kernel
theorem dX11_gets_69 : decode cX11_gets 69 = .ok (.lload 4, 2) := by decide +kernel
theorem dX11_gets_71 : decode cX11_gets 71 = .ok (.lload 7, 2) := by decide +kernel
theorem dX11_gets_73 : decode cX11_gets 73 = .ok (.lsub, 1) := by decide +kernel
theorem dX11_gets_74 : decode cX11_gets 74 = .ok (.lstore 4, 2) := by decide +kernel
theorem dX11_gets_76 : decode cX11_gets 76 = .ok (.iinc 6 1, 3) := by decide +kernel
theorem dX11_gets_79 : decode cX11_gets 79 = .ok (.goto (-68), 3) := by decide +kernel
theorem dX11_gets_82 : decode cX11_gets 82 = .ok (.return_, 1) := by decide +kernel
theorem dX11_gives_0 : decode cX11_gives 0 = .ok (.aload_n 0, 1) := by decide +kernel
theorem dX11_gives_1 : decode cX11_gives 1 = .ok (.iload_n 1, 1) := by decide +kernel
theorem dX11_gives_2 : decode cX11_gives 2 = .ok (.invokevirtual 206, 3) := by decide +kernel
theorem dX11_gives_5 : decode cX11_gives 5 = .ok (.lload_n 2, 1) := by decide +kernel
theorem dX11_gives_6 : decode cX11_gives 6 = .ok (.lstore 4, 2) := by decide +kernel
theorem dX11_gives_8 : decode cX11_gives 8 = .ok (.aload_n 0, 1) := by decide +kernel
theorem dX11_gives_9 : decode cX11_gives 9 = .ok (.getfield 199, 3) := by decide +kernel
theorem dX11_gives_12 : decode cX11_gives 12 = .ok (.iconst 1, 1) := by decide +kernel
theorem dX11_gives_13 : decode cX11_gives 13 = .ok (.isub, 1) := by decide +kernel
theorem dX11_gives_14 : decode cX11_gives 14 = .ok (.istore 6, 2) := by decide +kernel
theorem dX11_gives_16 : decode cX11_gives 16 = .ok (.iload 6, 2) := by decide +kernel
theorem dX11_gives_18 : decode cX11_gives 18 = .ok (.ifCond .lt 52, 3) := by decide +kernel
theorem dX11_gives_21 : decode cX11_gives 21 = .ok (.lload 4, 2) := by decide +kernel
theorem dX11_gives_23 : decode cX11_gives 23 = .ok (.aload_n 0, 1) := by decide +kernel
theorem dX11_gives_24 : decode cX11_gives 24 = .ok (.getfield 148, 3) := by decide +kernel
theorem dX11_gives_27 : decode cX11_gives 27 = .ok (.aload_n 0, 1) := by decide +kernel
theorem dX11_gives_28 : decode cX11_gives 28 = .ok (.getfield 124, 3) := by decide +kernel
theorem dX11_gives_31 : decode cX11_gives 31 = .ok (.iload 6, 2) := by decide +kernel
theorem dX11_gives_33 : decode cX11_gives 33 = .ok (.iaload, 1) := by decide +kernel
theorem dX11_gives_34 : decode cX11_gives 34 = .ok (.laload, 1) := by decide +kernel
theorem dX11_gives_35 : decode cX11_gives 35 = .ok (.invokestatic 217, 3) := by decide +kernel
theorem dX11_gives_38 : decode cX11_gives 38 = .ok (.lstore 7, 2) := by decide +kernel
theorem dX11_gives_40 : decode cX11_gives 40 = .ok (.aload_n 0, 1) := by decide +kernel
theorem dX11_gives_41 : decode cX11_gives 41 = .ok (.getfield 148, 3) := by decide +kernel
theorem dX11_gives_44 : decode cX11_gives 44 = .ok (.aload_n 0, 1) := by decide +kernel
theorem dX11_gives_45 : decode cX11_gives 45 = .ok (.getfield 124, 3) := by decide +kernel
theorem dX11_gives_48 : decode cX11_gives 48 = .ok (.iload 6, 2) := by decide +kernel
theorem dX11_gives_50 : decode cX11_gives 50 = .ok (.iaload, 1) := by decide +kernel
theorem dX11_gives_51 : decode cX11_gives 51 = .ok (.dup2, 1) := by decide +kernel
theorem dX11_gives_52 : decode cX11_gives 52 = .ok (.laload, 1) := by decide +kernel
theorem dX11_gives_53 : decode cX11_gives 53 = .ok (.lload 7, 2) := by decide +kernel
theorem dX11_gives_55 : decode cX11_gives 55 = .ok (.lsub, 1) := by decide +kernel
theorem dX11_gives_56 : decode cX11_gives 56 = .ok (.lastore, 1) := by decide +kernel
theorem dX11_gives_57 : decode cX11_gives 57 = .ok (.lload 4, 2) := by decide +kernel
theorem dX11_gives_59 : decode cX11_gives 59 = .ok (.lload 7, 2) := by decide +kernel
theorem dX11_gives_61 : decode cX11_gives 61 = .ok (.lsub, 1) := by decide +kernel
theorem dX11_gives_62 : decode cX11_gives 62 = .ok (.lstore 4, 2) := by decide +kernel
theorem dX11_gives_64 : decode cX11_gives 64 = .ok (.iinc 6 (-1), 3) := by decide +kernel
theorem dX11_gives_67 : decode cX11_gives 67 = .ok (.goto (-51), 3) := by decide +kernel
theorem dX11_gives_70 : decode cX11_gives 70 = .ok (.return_, 1) := by decide +kernel
theorem dX11_prepare_0 : decode cX11_prepare 0 = .ok (.iconst 1, 1) := by decide +kernel
theorem dX11_prepare_1 : decode cX11_prepare 1 = .ok (.istore_n 2, 1) := by decide +kernel
theorem dX11_prepare_2 : decode cX11_prepare 2 = .ok (.iload_n 2, 1) := by decide +kernel
theorem dX11_prepare_3 : decode cX11_prepare 3 = .ok (.aload_n 0, 1) := by decide +kernel
theorem dX11_prepare_4 : decode cX11_prepare 4 = .ok (.getfield 169, 3) := by decide +kernel
theorem dX11_prepare_7 : decode cX11_prepare 7 = .ok (.if_icmp .gt 30, 3) := by decide +kernel
theorem dX11_prepare_10 : decode cX11_prepare 10 = .ok (.aload_n 0, 1) := by decide +kernel
theorem dX11_prepare_11 : decode cX11_prepare 11 = .ok (.getfield 148, 3) := by decide +kernel
theorem dX11_prepare_14 : decode cX11_prepare 14 = .ok (.iload_n 2, 1) := by decide +kernel
theorem dX11_prepare_15 : decode cX11_prepare 15 = .ok (.lconst 0, 1) := by decide +kernel
theorem dX11_prepare_16 : decode cX11_prepare 16 = .ok (.lastore, 1) := by decide +kernel
theorem dX11_prepare_17 : decode cX11_prepare 17 = .ok (.aload_n 0, 1) := by decide +kernel
theorem dX11_prepare_18 : decode cX11_prepare 18 = .ok (.getfield 151, 3) := by decide +kernel
theorem dX11_prepare_21 : decode cX11_prepare 21 = .ok (.iload_n 2, 1) := by decide +kernel
theorem dX11_prepare_22 : decode cX11_prepare 22 = .ok (.lconst 0, 1) := by decide +kernel
theorem dX11_prepare_23 : decode cX11_prepare 23 = .ok (.lastore, 1) := by decide +kernel
theorem dX11_prepare_24 : decode cX11_prepare 24 = .ok (.aload_n 0, 1) := by decide +kernel
theorem dX11_prepare_25 : decode cX11_prepare 25 = .ok (.getfield 154, 3) := by decide +kernel
theorem dX11_prepare_28 : decode cX11_prepare 28 = .ok (.iload_n 2, 1) := by decide +kernel
theorem dX11_prepare_29 : decode cX11_prepare 29 = .ok (.iconst 0, 1) := by decide +kernel
theorem dX11_prepare_30 : decode cX11_prepare 30 = .ok (.bastore, 1) := by decide +kernel
theorem dX11_prepare_31 : decode cX11_prepare 31 = .ok (.iinc 2 1, 3) := by decide +kernel
theorem dX11_prepare_34 : decode cX11_prepare 34 = .ok (.goto (-32), 3) := by decide +kernel
theorem dX11_prepare_37 : decode cX11_prepare 37 = .ok (.iconst 0, 1) := by decide +kernel
theorem dX11_prepare_38 : decode cX11_prepare 38 = .ok (.istore_n 2, 1) := by decide +kernel
theorem dX11_prepare_39 : decode cX11_prepare 39 = .ok (.iload_n 2, 1) := by decide +kernel
theorem dX11_prepare_40 : decode cX11_prepare 40 = .ok (.aload_n 0, 1) := by decide +kernel
theorem dX11_prepare_41 : decode cX11_prepare 41 = .ok (.getfield 313, 3) := by decide +kernel
theorem dX11_prepare_44 : decode cX11_prepare 44 = .ok (.if_icmp .ge 93, 3) := by decide +kernel
theorem dX11_prepare_47 : decode cX11_prepare 47 = .ok (.aload_n 0, 1) := by decide +kernel
theorem dX11_prepare_48 : decode cX11_prepare 48 = .ok (.aload_n 0, 1) := by decide +kernel
theorem dX11_prepare_49 : decode cX11_prepare 49 = .ok (.getfield 142, 3) := by decide +kernel
theorem dX11_prepare_52 : decode cX11_prepare 52 = .ok (.iload_n 2, 1) := by decide +kernel
theorem dX11_prepare_53 : decode cX11_prepare 53 = .ok (.iaload, 1) := by decide +kernel
theorem dX11_prepare_54 : decode cX11_prepare 54 = .ok (.invokevirtual 229, 3) := by decide +kernel
theorem dX11_prepare_57 : decode cX11_prepare 57 = .ok (.iconst 0, 1) := by decide +kernel
theorem dX11_prepare_58 : decode cX11_prepare 58 = .ok (.istore_n 3, 1) := by decide +kernel
theorem dX11_prepare_59 : decode cX11_prepare 59 = .ok (.iload_n 3, 1) := by decide +kernel
theorem dX11_prepare_60 : decode cX11_prepare 60 = .ok (.aload_n 0, 1) := by decide +kernel
theorem dX11_prepare_61 : decode cX11_prepare 61 = .ok (.getfield 199, 3) := by decide +kernel
theorem dX11_prepare_64 : decode cX11_prepare 64 = .ok (.if_icmp .ge 67, 3) := by decide +kernel
theorem dX11_prepare_67 : decode cX11_prepare 67 = .ok (.aload_n 0, 1) := by decide +kernel
theorem dX11_prepare_68 : decode cX11_prepare 68 = .ok (.getfield 124, 3) := by decide +kernel
theorem dX11_prepare_71 : decode cX11_prepare 71 = .ok (.iload_n 3, 1) := by decide +kernel
theorem dX11_prepare_72 : decode cX11_prepare 72 = .ok (.iaload, 1) := by decide +kernel
theorem dX11_prepare_73 : decode cX11_prepare 73 = .ok (.istore 4, 2) := by decide +kernel
theorem dX11_prepare_75 : decode cX11_prepare 75 = .ok (.aload_n 0, 1) := by decide +kernel
theorem dX11_prepare_76 : decode cX11_prepare 76 = .ok (.getfield 154, 3) := by decide +kernel
theorem dX11_prepare_79 : decode cX11_prepare 79 = .ok (.iload 4, 2) := by decide +kernel
theorem dX11_prepare_81 : decode cX11_prepare 81 = .ok (.aload_n 0, 1) := by decide +kernel
theorem dX11_prepare_82 : decode cX11_prepare 82 = .ok (.iload 4, 2) := by decide +kernel
theorem dX11_prepare_84 : decode cX11_prepare 84 = .ok (.iload_n 1, 1) := by decide +kernel
theorem dX11_prepare_85 : decode cX11_prepare 85 = .ok (.invokevirtual 189, 3) := by decide +kernel
theorem dX11_prepare_88 : decode cX11_prepare 88 = .ok (.ifCond .ne 7, 3) := by decide +kernel
theorem dX11_prepare_91 : decode cX11_prepare 91 = .ok (.iconst 1, 1) := by decide +kernel
theorem dX11_prepare_92 : decode cX11_prepare 92 = .ok (.goto 4, 3) := by decide +kernel
theorem dX11_prepare_95 : decode cX11_prepare 95 = .ok (.iconst 0, 1) := by decide +kernel
theorem dX11_prepare_96 : decode cX11_prepare 96 = .ok (.bastore, 1) := by decide +kernel
theorem dX11_prepare_97 : decode cX11_prepare 97 = .ok (.aload_n 0, 1) := by decide +kernel
theorem dX11_prepare_98 : decode cX11_prepare 98 = .ok (.getfield 151, 3) := by decide +kernel
theorem dX11_prepare_101 : decode cX11_prepare 101 = .ok (.iload 4, 2) := by decide +kernel
theorem dX11_prepare_103 : decode cX11_prepare 103 = .ok (.aload_n 0, 1) := by decide +kernel
theorem dX11_prepare_104 : decode cX11_prepare 104 = .ok (.getfield 154, 3) := by decide +kernel
theorem dX11_prepare_107 : decode cX11_prepare 107 = .ok (.iload 4, 2) := by decide +kernel
theorem dX11_prepare_109 : decode cX11_prepare 109 = .ok (.baload, 1) := by decide +kernel
theorem dX11_prepare_110 : decode cX11_prepare 110 = .ok (.ifCond .eq 13, 3) := by decide +kernel
theorem dX11_prepare_113 : decode cX11_prepare 113 = .ok (.aload_n 0, 1) := by decide +kernel
theorem dX11_prepare_114 : decode cX11_prepare 114 = .ok (.getfield 127, 3) := by decide +kernel
theorem dX11_prepare_117 : decode cX11_prepare 117 = .ok (.iload 4, 2) := by decide +kernel
theorem dX11_prepare_119 : decode cX11_prepare 119 = .ok (.laload, 1) := by decide +kernel
theorem dX11_prepare_120 : decode cX11_prepare 120 = .ok (.goto 4, 3) := by decide +kernel
theorem dX11_prepare_123 : decode cX11_prepare 123 = .ok (.lconst 0, 1) := by decide +kernel
theorem dX11_prepare_124 : decode cX11_prepare 124 = .ok (.lastore, 1) := by decide +kernel
theorem dX11_prepare_125 : decode cX11_prepare 125 = .ok (.iinc 3 1, 3) := by decide +kernel
theorem dX11_prepare_128 : decode cX11_prepare 128 = .ok (.goto (-69), 3) := by decide +kernel
theorem dX11_prepare_131 : decode cX11_prepare 131 = .ok (.iinc 2 1, 3) := by decide +kernel
theorem dX11_prepare_134 : decode cX11_prepare 134 = .ok (.goto (-95), 3) := by decide +kernel
theorem dX11_prepare_137 : decode cX11_prepare 137 = .ok (.return_, 1) := by decide +kernel
theorem dX11_give_0 : decode cX11_give 0 = .ok (.aload_n 0, 1) := by decide +kernel
theorem dX11_give_1 : decode cX11_give 1 = .ok (.invokevirtual 257, 3) := by decide +kernel
theorem dX11_give_4 : decode cX11_give 4 = .ok (.aload_n 0, 1) := by decide +kernel
theorem dX11_give_5 : decode cX11_give 5 = .ok (.iload_n 1, 1) := by decide +kernel
theorem dX11_give_6 : decode cX11_give 6 = .ok (.iload_n 2, 1) := by decide +kernel
theorem dX11_give_7 : decode cX11_give 7 = .ok (.invokevirtual 325, 3) := by decide +kernel
theorem dX11_give_10 : decode cX11_give 10 = .ok (.aload_n 0, 1) := by decide +kernel
theorem dX11_give_11 : decode cX11_give 11 = .ok (.iload_n 2, 1) := by decide +kernel
theorem dX11_give_12 : decode cX11_give 12 = .ok (.invokevirtual 334, 3) := by decide +kernel
theorem dX11_give_15 : decode cX11_give 15 = .ok (.lload_n 3, 1) := by decide +kernel
theorem dX11_give_16 : decode cX11_give 16 = .ok (.lload 5, 2) := by decide +kernel
theorem dX11_give_18 : decode cX11_give 18 = .ok (.lsub, 1) := by decide +kernel
theorem dX11_give_19 : decode cX11_give 19 = .ok (.lstore 7, 2) := by decide +kernel
theorem dX11_give_21 : decode cX11_give 21 = .ok (.iconst 0, 1) := by decide +kernel
theorem dX11_give_22 : decode cX11_give 22 = .ok (.istore 9, 2) := by decide +kernel
theorem dX11_give_24 : decode cX11_give 24 = .ok (.iload 9, 2) := by decide +kernel
theorem dX11_give_26 : decode cX11_give 26 = .ok (.aload_n 0, 1) := by decide +kernel
theorem dX11_give_27 : decode cX11_give 27 = .ok (.getfield 302, 3) := by decide +kernel
theorem dX11_give_30 : decode cX11_give 30 = .ok (.if_icmp .ge 91, 3) := by decide +kernel
theorem dX11_give_33 : decode cX11_give 33 = .ok (.aload_n 0, 1) := by decide +kernel
theorem dX11_give_34 : decode cX11_give 34 = .ok (.getfield 136, 3) := by decide +kernel
theorem dX11_give_37 : decode cX11_give 37 = .ok (.iload 9, 2) := by decide +kernel
theorem dX11_give_39 : decode cX11_give 39 = .ok (.iaload, 1) := by decide +kernel
theorem dX11_give_40 : decode cX11_give 40 = .ok (.istore 10, 2) := by decide +kernel
theorem dX11_give_42 : decode cX11_give 42 = .ok (.aload_n 0, 1) := by decide +kernel
theorem dX11_give_43 : decode cX11_give 43 = .ok (.iload 10, 2) := by decide +kernel
theorem dX11_give_45 : decode cX11_give 45 = .ok (.invokevirtual 337, 3) := by decide +kernel
theorem dX11_give_48 : decode cX11_give 48 = .ok (.aload_n 0, 1) := by decide +kernel
theorem dX11_give_49 : decode cX11_give 49 = .ok (.iload 10, 2) := by decide +kernel
theorem dX11_give_51 : decode cX11_give 51 = .ok (.invokevirtual 340, 3) := by decide +kernel
theorem dX11_give_54 : decode cX11_give 54 = .ok (.lsub, 1) := by decide +kernel
theorem dX11_give_55 : decode cX11_give 55 = .ok (.lstore 11, 2) := by decide +kernel
theorem dX11_give_57 : decode cX11_give 57 = .ok (.aload_n 0, 1) := by decide +kernel
theorem dX11_give_58 : decode cX11_give 58 = .ok (.getfield 139, 3) := by decide +kernel
theorem dX11_give_61 : decode cX11_give 61 = .ok (.iload 9, 2) := by decide +kernel
theorem dX11_give_63 : decode cX11_give 63 = .ok (.baload, 1) := by decide +kernel
theorem dX11_give_64 : decode cX11_give 64 = .ok (.ifCond .eq 23, 3) := by decide +kernel
theorem dX11_give_67 : decode cX11_give 67 = .ok (.lload 11, 2) := by decide +kernel
theorem dX11_give_69 : decode cX11_give 69 = .ok (.aload_n 0, 1) := by decide +kernel
theorem dX11_give_70 : decode cX11_give 70 = .ok (.getfield 32, 3) := by decide +kernel
theorem dX11_give_73 : decode cX11_give 73 = .ok (.aload_n 0, 1) := by decide +kernel
theorem dX11_give_74 : decode cX11_give 74 = .ok (.getfield 84, 3) := by decide +kernel
theorem dX11_give_77 : decode cX11_give 77 = .ok (.iload 10, 2) := by decide +kernel
theorem dX11_give_79 : decode cX11_give 79 = .ok (.iaload, 1) := by decide +kernel
theorem dX11_give_80 : decode cX11_give 80 = .ok (.laload, 1) := by decide +kernel
theorem dX11_give_81 : decode cX11_give 81 = .ok (.invokestatic 217, 3) := by decide +kernel
theorem dX11_give_84 : decode cX11_give 84 = .ok (.goto 5, 3) := by decide +kernel
theorem dX11_give_87 : decode cX11_give 87 = .ok (.lload 11, 2) := by decide +kernel
theorem dX11_give_89 : decode cX11_give 89 = .ok (.lstore 13, 2) := by decide +kernel
theorem dX11_give_91 : decode cX11_give 91 = .ok (.lload 7, 2) := by decide +kernel
theorem dX11_give_93 : decode cX11_give 93 = .ok (.lload 13, 2) := by decide +kernel
theorem dX11_give_95 : decode cX11_give 95 = .ok (.invokestatic 217, 3) := by decide +kernel
theorem dX11_give_98 : decode cX11_give 98 = .ok (.lstore 15, 2) := by decide +kernel
theorem dX11_give_100 : decode cX11_give 100 = .ok (.aload_n 0, 1) := by decide +kernel
theorem dX11_give_101 : decode cX11_give 101 = .ok (.iload 10, 2) := by decide +kernel
theorem dX11_give_103 : decode cX11_give 103 = .ok (.lload 15, 2) := by decide +kernel
theorem dX11_give_105 : decode cX11_give 105 = .ok (.invokevirtual 343, 3) := by decide +kernel
theorem dX11_give_108 : decode cX11_give 108 = .ok (.lload 7, 2) := by decide +kernel
theorem dX11_give_110 : decode cX11_give 110 = .ok (.lload 15, 2) := by decide +kernel
theorem dX11_give_112 : decode cX11_give 112 = .ok (.lsub, 1) := by decide +kernel
theorem dX11_give_113 : decode cX11_give 113 = .ok (.lstore 7, 2) := by decide +kernel
theorem dX11_give_115 : decode cX11_give 115 = .ok (.iinc 9 1, 3) := by decide +kernel
theorem dX11_give_118 : decode cX11_give 118 = .ok (.goto (-94), 3) := by decide +kernel
theorem dX11_give_121 : decode cX11_give 121 = .ok (.iconst 1, 1) := by decide +kernel
theorem dX11_give_122 : decode cX11_give 122 = .ok (.istore 9, 2) := by decide +kernel
theorem dX11_give_124 : decode cX11_give 124 = .ok (.iload 9, 2) := by decide +kernel
theorem dX11_give_126 : decode cX11_give 126 = .ok (.aload_n 0, 1) := by decide +kernel
theorem dX11_give_127 : decode cX11_give 127 = .ok (.getfield 275, 3) := by decide +kernel
theorem dX11_give_130 : decode cX11_give 130 = .ok (.if_icmp .gt 128, 3) := by decide +kernel
theorem dX11_give_133 : decode cX11_give 133 = .ok (.aload_n 0, 1) := by decide +kernel
theorem dX11_give_134 : decode cX11_give 134 = .ok (.getfield 20, 3) := by decide +kernel
theorem dX11_give_137 : decode cX11_give 137 = .ok (.aload_n 0, 1) := by decide +kernel
theorem dX11_give_138 : decode cX11_give 138 = .ok (.getfield 99, 3) := by decide +kernel
theorem dX11_give_141 : decode cX11_give 141 = .ok (.iload 9, 2) := by decide +kernel
theorem dX11_give_143 : decode cX11_give 143 = .ok (.iaload, 1) := by decide +kernel
theorem dX11_give_144 : decode cX11_give 144 = .ok (.iaload, 1) := by decide +kernel
theorem dX11_give_145 : decode cX11_give 145 = .ok (.iload_n 1, 1) := by decide +kernel
theorem dX11_give_146 : decode cX11_give 146 = .ok (.if_icmp .ne 106, 3) := by decide +kernel
theorem dX11_give_149 : decode cX11_give 149 = .ok (.aload_n 0, 1) := by decide +kernel
theorem dX11_give_150 : decode cX11_give 150 = .ok (.iload 9, 2) := by decide +kernel
theorem dX11_give_152 : decode cX11_give 152 = .ok (.iload_n 2, 1) := by decide +kernel
theorem dX11_give_153 : decode cX11_give 153 = .ok (.invokevirtual 322, 3) := by decide +kernel
theorem dX11_give_156 : decode cX11_give 156 = .ok (.ifCond .ne 6, 3) := by decide +kernel
theorem dX11_give_159 : decode cX11_give 159 = .ok (.goto 93, 3) := by decide +kernel
theorem dX11_give_162 : decode cX11_give 162 = .ok (.aload_n 0, 1) := by decide +kernel
theorem dX11_give_163 : decode cX11_give 163 = .ok (.getfield 99, 3) := by decide +kernel
theorem dX11_give_166 : decode cX11_give 166 = .ok (.iload 9, 2) := by decide +kernel
theorem dX11_give_168 : decode cX11_give 168 = .ok (.iaload, 1) := by decide +kernel
theorem dX11_give_169 : decode cX11_give 169 = .ok (.istore 10, 2) := by decide +kernel
theorem dX11_give_171 : decode cX11_give 171 = .ok (.aload_n 0, 1) := by decide +kernel
theorem dX11_give_172 : decode cX11_give 172 = .ok (.getfield 102, 3) := by decide +kernel
theorem dX11_give_175 : decode cX11_give 175 = .ok (.iload 9, 2) := by decide +kernel
theorem dX11_give_177 : decode cX11_give 177 = .ok (.iaload, 1) := by decide +kernel
theorem dX11_give_178 : decode cX11_give 178 = .ok (.istore 11, 2) := by decide +kernel
theorem dX11_give_180 : decode cX11_give 180 = .ok (.aload_n 0, 1) := by decide +kernel
theorem dX11_give_181 : decode cX11_give 181 = .ok (.iload 10, 2) := by decide +kernel
theorem dX11_give_183 : decode cX11_give 183 = .ok (.invokevirtual 340, 3) := by decide +kernel
theorem dX11_give_186 : decode cX11_give 186 = .ok (.aload_n 0, 1) := by decide +kernel
theorem dX11_give_187 : decode cX11_give 187 = .ok (.getfield 105, 3) := by decide +kernel
theorem dX11_give_190 : decode cX11_give 190 = .ok (.iload 9, 2) := by decide +kernel
theorem dX11_give_192 : decode cX11_give 192 = .ok (.laload, 1) := by decide +kernel
theorem dX11_give_193 : decode cX11_give 193 = .ok (.aload_n 0, 1) := by decide +kernel
theorem dX11_give_194 : decode cX11_give 194 = .ok (.iload 11, 2) := by decide +kernel
theorem dX11_give_196 : decode cX11_give 196 = .ok (.invokevirtual 337, 3) := by decide +kernel
theorem dX11_give_199 : decode cX11_give 199 = .ok (.invokestatic 217, 3) := by decide +kernel
theorem dX11_give_202 : decode cX11_give 202 = .ok (.invokestatic 217, 3) := by decide +kernel
theorem dX11_give_205 : decode cX11_give 205 = .ok (.lstore 12, 2) := by decide +kernel
theorem dX11_give_207 : decode cX11_give 207 = .ok (.lload 12, 2) := by decide +kernel
theorem dX11_give_209 : decode cX11_give 209 = .ok (.aload_n 0, 1) := by decide +kernel
theorem dX11_give_210 : decode cX11_give 210 = .ok (.iload 11, 2) := by decide +kernel
theorem dX11_give_212 : decode cX11_give 212 = .ok (.invokevirtual 340, 3) := by decide +kernel
theorem dX11_give_215 : decode cX11_give 215 = .ok (.invokestatic 217, 3) := by decide +kernel
theorem dX11_give_218 : decode cX11_give 218 = .ok (.lstore 14, 2) := by decide +kernel
theorem dX11_give_220 : decode cX11_give 220 = .ok (.aload_n 0, 1) := by decide +kernel
theorem dX11_give_221 : decode cX11_give 221 = .ok (.iload 10, 2) := by decide +kernel
theorem dX11_give_223 : decode cX11_give 223 = .ok (.lload 12, 2) := by decide +kernel
theorem dX11_give_225 : decode cX11_give 225 = .ok (.invokevirtual 347, 3) := by decide +kernel
theorem dX11_give_228 : decode cX11_give 228 = .ok (.aload_n 0, 1) := by decide +kernel
theorem dX11_give_229 : decode cX11_give 229 = .ok (.iload 11, 2) := by decide +kernel
theorem dX11_give_231 : decode cX11_give 231 = .ok (.lload 14, 2) := by decide +kernel
theorem dX11_give_233 : decode cX11_give 233 = .ok (.invokevirtual 347, 3) := by decide +kernel
theorem dX11_give_236 : decode cX11_give 236 = .ok (.aload_n 0, 1) := by decide +kernel
theorem dX11_give_237 : decode cX11_give 237 = .ok (.iload 11, 2) := by decide +kernel
theorem dX11_give_239 : decode cX11_give 239 = .ok (.lload 12, 2) := by decide +kernel
theorem dX11_give_241 : decode cX11_give 241 = .ok (.invokevirtual 343, 3) := by decide +kernel
theorem dX11_give_244 : decode cX11_give 244 = .ok (.aload_n 0, 1) := by decide +kernel
theorem dX11_give_245 : decode cX11_give 245 = .ok (.iload 10, 2) := by decide +kernel
theorem dX11_give_247 : decode cX11_give 247 = .ok (.lload 14, 2) := by decide +kernel
theorem dX11_give_249 : decode cX11_give 249 = .ok (.invokevirtual 343, 3) := by decide +kernel
theorem dX11_give_252 : decode cX11_give 252 = .ok (.iinc 9 1, 3) := by decide +kernel
theorem dX11_give_255 : decode cX11_give 255 = .ok (.goto (-131), 3) := by decide +kernel
theorem dX11_give_258 : decode cX11_give 258 = .ok (.iconst 1, 1) := by decide +kernel
theorem dX11_give_259 : decode cX11_give 259 = .ok (.istore 9, 2) := by decide +kernel
theorem dX11_give_261 : decode cX11_give 261 = .ok (.iload 9, 2) := by decide +kernel
theorem dX11_give_263 : decode cX11_give 263 = .ok (.aload_n 0, 1) := by decide +kernel
theorem dX11_give_264 : decode cX11_give 264 = .ok (.getfield 169, 3) := by decide +kernel
theorem dX11_give_267 : decode cX11_give 267 = .ok (.if_icmp .gt 22, 3) := by decide +kernel
theorem dX11_give_270 : decode cX11_give 270 = .ok (.aload_n 0, 1) := by decide +kernel
theorem dX11_give_271 : decode cX11_give 271 = .ok (.getfield 157, 3) := by decide +kernel
theorem dX11_give_274 : decode cX11_give 274 = .ok (.iload 9, 2) := by decide +kernel
theorem dX11_give_276 : decode cX11_give 276 = .ok (.aload_n 0, 1) := by decide +kernel
theorem dX11_give_277 : decode cX11_give 277 = .ok (.iload 9, 2) := by decide +kernel
theorem dX11_give_279 : decode cX11_give 279 = .ok (.invokevirtual 340, 3) := by decide +kernel
theorem dX11_give_282 : decode cX11_give 282 = .ok (.lastore, 1) := by decide +kernel
theorem dX11_give_283 : decode cX11_give 283 = .ok (.iinc 9 1, 3) := by decide +kernel
theorem dX11_give_286 : decode cX11_give 286 = .ok (.goto (-25), 3) := by decide +kernel
theorem dX11_give_289 : decode cX11_give 289 = .ok (.aload_n 0, 1) := by decide +kernel
theorem dX11_give_290 : decode cX11_give 290 = .ok (.getfield 169, 3) := by decide +kernel
theorem dX11_give_293 : decode cX11_give 293 = .ok (.iconst 1, 1) := by decide +kernel
theorem dX11_give_294 : decode cX11_give 294 = .ok (.iadd, 1) := by decide +kernel
theorem dX11_give_295 : decode cX11_give 295 = .ok (.istore 9, 2) := by decide +kernel
theorem dX11_give_297 : decode cX11_give 297 = .ok (.iload 9, 2) := by decide +kernel
theorem dX11_give_299 : decode cX11_give 299 = .ok (.sipush 301, 3) := by decide +kernel
theorem dX11_give_302 : decode cX11_give 302 = .ok (.if_icmp .ge 17, 3) := by decide +kernel
theorem dX11_give_305 : decode cX11_give 305 = .ok (.aload_n 0, 1) := by decide +kernel
theorem dX11_give_306 : decode cX11_give 306 = .ok (.getfield 157, 3) := by decide +kernel
theorem dX11_give_309 : decode cX11_give 309 = .ok (.iload 9, 2) := by decide +kernel
theorem dX11_give_311 : decode cX11_give 311 = .ok (.lconst 0, 1) := by decide +kernel
theorem dX11_give_312 : decode cX11_give 312 = .ok (.lastore, 1) := by decide +kernel
theorem dX11_give_313 : decode cX11_give 313 = .ok (.iinc 9 1, 3) := by decide +kernel
theorem dX11_give_316 : decode cX11_give 316 = .ok (.goto (-19), 3) := by decide +kernel
theorem dX11_give_319 : decode cX11_give 319 = .ok (.aload_n 0, 1) := by decide +kernel
theorem dX11_give_320 : decode cX11_give 320 = .ok (.lload 7, 2) := by decide +kernel
theorem dX11_give_322 : decode cX11_give 322 = .ok (.putfield 350, 3) := by decide +kernel
theorem dX11_give_325 : decode cX11_give 325 = .ok (.lload 7, 2) := by decide +kernel
theorem dX11_give_327 : decode cX11_give 327 = .ok (.lreturn, 1) := by decide +kernel
theorem dX11_wrongSale_0 : decode cX11_wrongSale 0 = .ok (.aload_n 0, 1) := by decide +kernel
theorem dX11_wrongSale_1 : decode cX11_wrongSale 1 = .ok (.iload_n 1, 1) := by decide +kernel
theorem dX11_wrongSale_2 : decode cX11_wrongSale 2 = .ok (.iload_n 2, 1) := by decide +kernel
theorem dX11_wrongSale_3 : decode cX11_wrongSale 3 = .ok (.invokevirtual 235, 3) := by decide +kernel
theorem dX11_wrongSale_6 : decode cX11_wrongSale 6 = .ok (.istore 7, 2) := by decide +kernel
theorem dX11_wrongSale_8 : decode cX11_wrongSale 8 = .ok (.iload 7, 2) := by decide +kernel
theorem dX11_wrongSale_10 : decode cX11_wrongSale 10 = .ok (.ifCond .le 6, 3) := by decide +kernel
theorem dX11_wrongSale_13 : decode cX11_wrongSale 13 = .ok (.iload 7, 2) := by decide +kernel
theorem dX11_wrongSale_15 : decode cX11_wrongSale 15 = .ok (.ireturn, 1) := by decide +kernel
theorem dX11_wrongSale_16 : decode cX11_wrongSale 16 = .ok (.lload_n 3, 1) := by decide +kernel
theorem dX11_wrongSale_17 : decode cX11_wrongSale 17 = .ok (.lconst 0, 1) := by decide +kernel
theorem dX11_wrongSale_18 : decode cX11_wrongSale 18 = .ok (.lcmp, 1) := by decide +kernel
theorem dX11_wrongSale_19 : decode cX11_wrongSale 19 = .ok (.ifCond .lt 34, 3) := by decide +kernel
theorem dX11_wrongSale_22 : decode cX11_wrongSale 22 = .ok (.lload_n 3, 1) := by decide +kernel
theorem dX11_wrongSale_23 : decode cX11_wrongSale 23 = .ok (.ldc2_w 246, 3) := by decide +kernel
theorem dX11_wrongSale_26 : decode cX11_wrongSale 26 = .ok (.lcmp, 1) := by decide +kernel
theorem dX11_wrongSale_27 : decode cX11_wrongSale 27 = .ok (.ifCond .gt 26, 3) := by decide +kernel
theorem dX11_wrongSale_30 : decode cX11_wrongSale 30 = .ok (.lload 5, 2) := by decide +kernel
theorem dX11_wrongSale_32 : decode cX11_wrongSale 32 = .ok (.lconst 0, 1) := by decide +kernel
theorem dX11_wrongSale_33 : decode cX11_wrongSale 33 = .ok (.lcmp, 1) := by decide +kernel
theorem dX11_wrongSale_34 : decode cX11_wrongSale 34 = .ok (.ifCond .lt 19, 3) := by decide +kernel
theorem dX11_wrongSale_37 : decode cX11_wrongSale 37 = .ok (.lload 5, 2) := by decide +kernel
theorem dX11_wrongSale_39 : decode cX11_wrongSale 39 = .ok (.ldc2_w 246, 3) := by decide +kernel
theorem dX11_wrongSale_42 : decode cX11_wrongSale 42 = .ok (.lcmp, 1) := by decide +kernel
theorem dX11_wrongSale_43 : decode cX11_wrongSale 43 = .ok (.ifCond .gt 10, 3) := by decide +kernel
theorem dX11_wrongSale_46 : decode cX11_wrongSale 46 = .ok (.lload 5, 2) := by decide +kernel
theorem dX11_wrongSale_48 : decode cX11_wrongSale 48 = .ok (.lload_n 3, 1) := by decide +kernel
theorem dX11_wrongSale_49 : decode cX11_wrongSale 49 = .ok (.lcmp, 1) := by decide +kernel
theorem dX11_wrongSale_50 : decode cX11_wrongSale 50 = .ok (.ifCond .le 7, 3) := by decide +kernel
theorem dX11_wrongSale_53 : decode cX11_wrongSale 53 = .ok (.iconst 5, 1) := by decide +kernel
theorem dX11_wrongSale_54 : decode cX11_wrongSale 54 = .ok (.goto 4, 3) := by decide +kernel
theorem dX11_wrongSale_57 : decode cX11_wrongSale 57 = .ok (.iconst 0, 1) := by decide +kernel
theorem dX11_wrongSale_58 : decode cX11_wrongSale 58 = .ok (.ireturn, 1) := by decide +kernel
theorem dX11_sale_0 : decode cX11_sale 0 = .ok (.aload_n 0, 1) := by decide +kernel
theorem dX11_sale_1 : decode cX11_sale 1 = .ok (.iload_n 1, 1) := by decide +kernel
theorem dX11_sale_2 : decode cX11_sale 2 = .ok (.iload_n 2, 1) := by decide +kernel
theorem dX11_sale_3 : decode cX11_sale 3 = .ok (.lload_n 3, 1) := by decide +kernel
theorem dX11_sale_4 : decode cX11_sale 4 = .ok (.lload 5, 2) := by decide +kernel
theorem dX11_sale_6 : decode cX11_sale 6 = .ok (.invokevirtual 354, 3) := by decide +kernel
theorem dX11_sale_9 : decode cX11_sale 9 = .ok (.istore 7, 2) := by decide +kernel
theorem dX11_sale_11 : decode cX11_sale 11 = .ok (.iload 7, 2) := by decide +kernel
theorem dX11_sale_13 : decode cX11_sale 13 = .ok (.ifCond .le 11, 3) := by decide +kernel
theorem dX11_sale_16 : decode cX11_sale 16 = .ok (.aload_n 0, 1) := by decide +kernel
theorem dX11_sale_17 : decode cX11_sale 17 = .ok (.iload 7, 2) := by decide +kernel
theorem dX11_sale_19 : decode cX11_sale 19 = .ok (.invokevirtual 231, 3) := by decide +kernel
theorem dX11_sale_22 : decode cX11_sale 22 = .ok (.i2l, 1) := by decide +kernel
theorem dX11_sale_23 : decode cX11_sale 23 = .ok (.lreturn, 1) := by decide +kernel
theorem dX11_sale_24 : decode cX11_sale 24 = .ok (.aload_n 0, 1) := by decide +kernel
theorem dX11_sale_25 : decode cX11_sale 25 = .ok (.iconst 0, 1) := by decide +kernel
theorem dX11_sale_26 : decode cX11_sale 26 = .ok (.putfield 163, 3) := by decide +kernel
theorem dX11_sale_29 : decode cX11_sale 29 = .ok (.aload_n 0, 1) := by decide +kernel
theorem dX11_sale_30 : decode cX11_sale 30 = .ok (.iload_n 1, 1) := by decide +kernel
theorem dX11_sale_31 : decode cX11_sale 31 = .ok (.iload_n 2, 1) := by decide +kernel
theorem dX11_sale_32 : decode cX11_sale 32 = .ok (.lload_n 3, 1) := by decide +kernel
theorem dX11_sale_33 : decode cX11_sale 33 = .ok (.lload 5, 2) := by decide +kernel
theorem dX11_sale_35 : decode cX11_sale 35 = .ok (.invokevirtual 358, 3) := by decide +kernel
theorem dX11_sale_38 : decode cX11_sale 38 = .ok (.lreturn, 1) := by decide +kernel
theorem dX11_sell_0 : decode cX11_sell 0 = .ok (.aload_n 0, 1) := by decide +kernel
theorem dX11_sell_1 : decode cX11_sell 1 = .ok (.iload_n 1, 1) := by decide +kernel
theorem dX11_sell_2 : decode cX11_sell 2 = .ok (.iload_n 2, 1) := by decide +kernel
theorem dX11_sell_3 : decode cX11_sell 3 = .ok (.lload_n 3, 1) := by decide +kernel
theorem dX11_sell_4 : decode cX11_sell 4 = .ok (.lload 5, 2) := by decide +kernel
theorem dX11_sell_6 : decode cX11_sell 6 = .ok (.invokevirtual 354, 3) := by decide +kernel
theorem dX11_sell_9 : decode cX11_sell 9 = .ok (.istore 7, 2) := by decide +kernel
theorem dX11_sell_11 : decode cX11_sell 11 = .ok (.iload 7, 2) := by decide +kernel
theorem dX11_sell_13 : decode cX11_sell 13 = .ok (.ifCond .le 11, 3) := by decide +kernel
theorem dX11_sell_16 : decode cX11_sell 16 = .ok (.aload_n 0, 1) := by decide +kernel
theorem dX11_sell_17 : decode cX11_sell 17 = .ok (.iload 7, 2) := by decide +kernel
theorem dX11_sell_19 : decode cX11_sell 19 = .ok (.invokevirtual 231, 3) := by decide +kernel
theorem dX11_sell_22 : decode cX11_sell 22 = .ok (.i2l, 1) := by decide +kernel
theorem dX11_sell_23 : decode cX11_sell 23 = .ok (.lreturn, 1) := by decide +kernel
theorem dX11_sell_24 : decode cX11_sell 24 = .ok (.aload_n 0, 1) := by decide +kernel
theorem dX11_sell_25 : decode cX11_sell 25 = .ok (.iload_n 1, 1) := by decide +kernel
theorem dX11_sell_26 : decode cX11_sell 26 = .ok (.iload_n 2, 1) := by decide +kernel
theorem dX11_sell_27 : decode cX11_sell 27 = .ok (.lload_n 3, 1) := by decide +kernel
theorem dX11_sell_28 : decode cX11_sell 28 = .ok (.lload 5, 2) := by decide +kernel
theorem dX11_sell_30 : decode cX11_sell 30 = .ok (.invokevirtual 358, 3) := by decide +kernel
theorem dX11_sell_33 : decode cX11_sell 33 = .ok (.lstore 8, 2) := by decide +kernel
theorem dX11_sell_35 : decode cX11_sell 35 = .ok (.iconst 1, 1) := by decide +kernel
theorem dX11_sell_36 : decode cX11_sell 36 = .ok (.istore 10, 2) := by decide +kernel
theorem dX11_sell_38 : decode cX11_sell 38 = .ok (.iload 10, 2) := by decide +kernel
theorem dX11_sell_40 : decode cX11_sell 40 = .ok (.aload_n 0, 1) := by decide +kernel
theorem dX11_sell_41 : decode cX11_sell 41 = .ok (.getfield 169, 3) := by decide +kernel
theorem dX11_sell_44 : decode cX11_sell 44 = .ok (.if_icmp .gt 148, 3) := by decide +kernel
theorem dX11_sell_47 : decode cX11_sell 47 = .ok (.aload_n 0, 1) := by decide +kernel
theorem dX11_sell_48 : decode cX11_sell 48 = .ok (.getfield 154, 3) := by decide +kernel
theorem dX11_sell_51 : decode cX11_sell 51 = .ok (.iload 10, 2) := by decide +kernel
theorem dX11_sell_53 : decode cX11_sell 53 = .ok (.baload, 1) := by decide +kernel
theorem dX11_sell_54 : decode cX11_sell 54 = .ok (.ifCond .ne 6, 3) := by decide +kernel
theorem dX11_sell_57 : decode cX11_sell 57 = .ok (.goto 129, 3) := by decide +kernel
theorem dX11_sell_60 : decode cX11_sell 60 = .ok (.aload_n 0, 1) := by decide +kernel
theorem dX11_sell_61 : decode cX11_sell 61 = .ok (.getfield 151, 3) := by decide +kernel
theorem dX11_sell_64 : decode cX11_sell 64 = .ok (.iload 10, 2) := by decide +kernel
theorem dX11_sell_66 : decode cX11_sell 66 = .ok (.laload, 1) := by decide +kernel
theorem dX11_sell_67 : decode cX11_sell 67 = .ok (.aload_n 0, 1) := by decide +kernel
theorem dX11_sell_68 : decode cX11_sell 68 = .ok (.getfield 148, 3) := by decide +kernel
theorem dX11_sell_71 : decode cX11_sell 71 = .ok (.iload 10, 2) := by decide +kernel
theorem dX11_sell_73 : decode cX11_sell 73 = .ok (.laload, 1) := by decide +kernel
theorem dX11_sell_74 : decode cX11_sell 74 = .ok (.lsub, 1) := by decide +kernel
theorem dX11_sell_75 : decode cX11_sell 75 = .ok (.lstore 11, 2) := by decide +kernel
theorem dX11_sell_77 : decode cX11_sell 77 = .ok (.aload_n 0, 1) := by decide +kernel
theorem dX11_sell_78 : decode cX11_sell 78 = .ok (.getfield 23, 3) := by decide +kernel
theorem dX11_sell_81 : decode cX11_sell 81 = .ok (.iload 10, 2) := by decide +kernel
theorem dX11_sell_83 : decode cX11_sell 83 = .ok (.iaload, 1) := by decide +kernel
theorem dX11_sell_84 : decode cX11_sell 84 = .ok (.istore 13, 2) := by decide +kernel
theorem dX11_sell_86 : decode cX11_sell 86 = .ok (.aload_n 0, 1) := by decide +kernel
theorem dX11_sell_87 : decode cX11_sell 87 = .ok (.getfield 32, 3) := by decide +kernel
theorem dX11_sell_90 : decode cX11_sell 90 = .ok (.iload 10, 2) := by decide +kernel
theorem dX11_sell_92 : decode cX11_sell 92 = .ok (.aload_n 0, 1) := by decide +kernel
theorem dX11_sell_93 : decode cX11_sell 93 = .ok (.getfield 17, 3) := by decide +kernel
theorem dX11_sell_96 : decode cX11_sell 96 = .ok (.iload 10, 2) := by decide +kernel
theorem dX11_sell_98 : decode cX11_sell 98 = .ok (.iaload, 1) := by decide +kernel
theorem dX11_sell_99 : decode cX11_sell 99 = .ok (.iconst 4, 1) := by decide +kernel
theorem dX11_sell_100 : decode cX11_sell 100 = .ok (.if_icmp .ne 8, 3) := by decide +kernel
theorem dX11_sell_103 : decode cX11_sell 103 = .ok (.lload 11, 2) := by decide +kernel
theorem dX11_sell_105 : decode cX11_sell 105 = .ok (.goto 15, 3) := by decide +kernel
theorem dX11_sell_108 : decode cX11_sell 108 = .ok (.aload_n 0, 1) := by decide +kernel
theorem dX11_sell_109 : decode cX11_sell 109 = .ok (.getfield 32, 3) := by decide +kernel
theorem dX11_sell_112 : decode cX11_sell 112 = .ok (.iload 10, 2) := by decide +kernel
theorem dX11_sell_114 : decode cX11_sell 114 = .ok (.laload, 1) := by decide +kernel
theorem dX11_sell_115 : decode cX11_sell 115 = .ok (.lload 11, 2) := by decide +kernel
theorem dX11_sell_117 : decode cX11_sell 117 = .ok (.invokestatic 217, 3) := by decide +kernel
theorem dX11_sell_120 : decode cX11_sell 120 = .ok (.lastore, 1) := by decide +kernel
theorem dX11_sell_121 : decode cX11_sell 121 = .ok (.aload_n 0, 1) := by decide +kernel
theorem dX11_sell_122 : decode cX11_sell 122 = .ok (.getfield 63, 3) := by decide +kernel
theorem dX11_sell_125 : decode cX11_sell 125 = .ok (.iload 13, 2) := by decide +kernel
theorem dX11_sell_127 : decode cX11_sell 127 = .ok (.aload_n 0, 1) := by decide +kernel
theorem dX11_sell_128 : decode cX11_sell 128 = .ok (.getfield 63, 3) := by decide +kernel
theorem dX11_sell_131 : decode cX11_sell 131 = .ok (.iload 13, 2) := by decide +kernel
theorem dX11_sell_133 : decode cX11_sell 133 = .ok (.baload, 1) := by decide +kernel
theorem dX11_sell_134 : decode cX11_sell 134 = .ok (.ifCond .ne 14, 3) := by decide +kernel
theorem dX11_sell_137 : decode cX11_sell 137 = .ok (.aload_n 0, 1) := by decide +kernel
theorem dX11_sell_138 : decode cX11_sell 138 = .ok (.getfield 17, 3) := by decide +kernel
theorem dX11_sell_141 : decode cX11_sell 141 = .ok (.iload 10, 2) := by decide +kernel
theorem dX11_sell_143 : decode cX11_sell 143 = .ok (.iaload, 1) := by decide +kernel
theorem dX11_sell_144 : decode cX11_sell 144 = .ok (.iconst 4, 1) := by decide +kernel
theorem dX11_sell_145 : decode cX11_sell 145 = .ok (.if_icmp .ne 7, 3) := by decide +kernel
theorem dX11_sell_148 : decode cX11_sell 148 = .ok (.iconst 1, 1) := by decide +kernel
theorem dX11_sell_149 : decode cX11_sell 149 = .ok (.goto 4, 3) := by decide +kernel
theorem dX11_sell_152 : decode cX11_sell 152 = .ok (.iconst 0, 1) := by decide +kernel
theorem dX11_sell_153 : decode cX11_sell 153 = .ok (.bastore, 1) := by decide +kernel
theorem dX11_sell_154 : decode cX11_sell 154 = .ok (.aload_n 0, 1) := by decide +kernel
theorem dX11_sell_155 : decode cX11_sell 155 = .ok (.getfield 93, 3) := by decide +kernel
theorem dX11_sell_158 : decode cX11_sell 158 = .ok (.bipush 60, 2) := by decide +kernel
theorem dX11_sell_160 : decode cX11_sell 160 = .ok (.iload 10, 2) := by decide +kernel
theorem dX11_sell_162 : decode cX11_sell 162 = .ok (.imul, 1) := by decide +kernel
theorem dX11_sell_163 : decode cX11_sell 163 = .ok (.iload_n 2, 1) := by decide +kernel
theorem dX11_sell_164 : decode cX11_sell 164 = .ok (.iadd, 1) := by decide +kernel
theorem dX11_sell_165 : decode cX11_sell 165 = .ok (.aload_n 0, 1) := by decide +kernel
theorem dX11_sell_166 : decode cX11_sell 166 = .ok (.getfield 166, 3) := by decide +kernel
theorem dX11_sell_169 : decode cX11_sell 169 = .ok (.iastore, 1) := by decide +kernel
theorem dX11_sell_170 : decode cX11_sell 170 = .ok (.aload_n 0, 1) := by decide +kernel
theorem dX11_sell_171 : decode cX11_sell 171 = .ok (.getfield 96, 3) := by decide +kernel
theorem dX11_sell_174 : decode cX11_sell 174 = .ok (.bipush 60, 2) := by decide +kernel
theorem dX11_sell_176 : decode cX11_sell 176 = .ok (.iload 10, 2) := by decide +kernel
theorem dX11_sell_178 : decode cX11_sell 178 = .ok (.imul, 1) := by decide +kernel
theorem dX11_sell_179 : decode cX11_sell 179 = .ok (.iload_n 2, 1) := by decide +kernel
theorem dX11_sell_180 : decode cX11_sell 180 = .ok (.iadd, 1) := by decide +kernel
theorem dX11_sell_181 : decode cX11_sell 181 = .ok (.aload_n 0, 1) := by decide +kernel
theorem dX11_sell_182 : decode cX11_sell 182 = .ok (.getfield 166, 3) := by decide +kernel
theorem dX11_sell_185 : decode cX11_sell 185 = .ok (.iastore, 1) := by decide +kernel
theorem dX11_sell_186 : decode cX11_sell 186 = .ok (.iinc 10 1, 3) := by decide +kernel
theorem dX11_sell_189 : decode cX11_sell 189 = .ok (.goto (-151), 3) := by decide +kernel
theorem dX11_sell_192 : decode cX11_sell 192 = .ok (.iconst 0, 1) := by decide +kernel
theorem dX11_sell_193 : decode cX11_sell 193 = .ok (.istore 10, 2) := by decide +kernel
theorem dX11_sell_195 : decode cX11_sell 195 = .ok (.iload 10, 2) := by decide +kernel
theorem dX11_sell_197 : decode cX11_sell 197 = .ok (.aload_n 0, 1) := by decide +kernel
theorem dX11_sell_198 : decode cX11_sell 198 = .ok (.getfield 313, 3) := by decide +kernel
theorem dX11_sell_201 : decode cX11_sell 201 = .ok (.if_icmp .ge 25, 3) := by decide +kernel
theorem dX11_sell_204 : decode cX11_sell 204 = .ok (.aload_n 0, 1) := by decide +kernel
theorem dX11_sell_205 : decode cX11_sell 205 = .ok (.getfield 60, 3) := by decide +kernel
theorem dX11_sell_208 : decode cX11_sell 208 = .ok (.aload_n 0, 1) := by decide +kernel
theorem dX11_sell_209 : decode cX11_sell 209 = .ok (.getfield 142, 3) := by decide +kernel
theorem dX11_sell_212 : decode cX11_sell 212 = .ok (.iload 10, 2) := by decide +kernel
theorem dX11_sell_214 : decode cX11_sell 214 = .ok (.iaload, 1) := by decide +kernel
theorem dX11_sell_215 : decode cX11_sell 215 = .ok (.aload_n 0, 1) := by decide +kernel
theorem dX11_sell_216 : decode cX11_sell 216 = .ok (.getfield 166, 3) := by decide +kernel
theorem dX11_sell_219 : decode cX11_sell 219 = .ok (.iastore, 1) := by decide +kernel
theorem dX11_sell_220 : decode cX11_sell 220 = .ok (.iinc 10 1, 3) := by decide +kernel
theorem dX11_sell_223 : decode cX11_sell 223 = .ok (.goto (-28), 3) := by decide +kernel
theorem dX11_sell_226 : decode cX11_sell 226 = .ok (.aload_n 0, 1) := by decide +kernel
theorem dX11_sell_227 : decode cX11_sell 227 = .ok (.dup, 1) := by decide +kernel
theorem dX11_sell_228 : decode cX11_sell 228 = .ok (.getfield 362, 3) := by decide +kernel
theorem dX11_sell_231 : decode cX11_sell 231 = .ok (.iconst 1, 1) := by decide +kernel
theorem dX11_sell_232 : decode cX11_sell 232 = .ok (.iadd, 1) := by decide +kernel
theorem dX11_sell_233 : decode cX11_sell 233 = .ok (.putfield 362, 3) := by decide +kernel
theorem dX11_sell_236 : decode cX11_sell 236 = .ok (.aload_n 0, 1) := by decide +kernel
theorem dX11_sell_237 : decode cX11_sell 237 = .ok (.iconst 0, 1) := by decide +kernel
theorem dX11_sell_238 : decode cX11_sell 238 = .ok (.putfield 163, 3) := by decide +kernel
theorem dX11_sell_241 : decode cX11_sell 241 = .ok (.lload 8, 2) := by decide +kernel
theorem dX11_sell_243 : decode cX11_sell 243 = .ok (.lreturn, 1) := by decide +kernel
theorem dX11_share_0 : decode cX11_share 0 = .ok (.aload_n 0, 1) := by decide +kernel
theorem dX11_share_1 : decode cX11_share 1 = .ok (.iload_n 1, 1) := by decide +kernel
theorem dX11_share_2 : decode cX11_share 2 = .ok (.invokevirtual 224, 3) := by decide +kernel
theorem dX11_share_5 : decode cX11_share 5 = .ok (.ifCond .eq 12, 3) := by decide +kernel
theorem dX11_share_8 : decode cX11_share 8 = .ok (.aload_n 0, 1) := by decide +kernel
theorem dX11_share_9 : decode cX11_share 9 = .ok (.getfield 157, 3) := by decide +kernel
theorem dX11_share_12 : decode cX11_share 12 = .ok (.iload_n 1, 1) := by decide +kernel
theorem dX11_share_13 : decode cX11_share 13 = .ok (.laload, 1) := by decide +kernel
theorem dX11_share_14 : decode cX11_share 14 = .ok (.goto 4, 3) := by decide +kernel
theorem dX11_share_17 : decode cX11_share 17 = .ok (.lconst 0, 1) := by decide +kernel
theorem dX11_share_18 : decode cX11_share 18 = .ok (.lreturn, 1) := by decide +kernel
theorem dX11_tell_0 : decode cX11_tell 0 = .ok (.aload_n 0, 1) := by decide +kernel
theorem dX11_tell_1 : decode cX11_tell 1 = .ok (.iload_n 1, 1) := by decide +kernel
theorem dX11_tell_2 : decode cX11_tell 2 = .ok (.invokevirtual 224, 3) := by decide +kernel
theorem dX11_tell_5 : decode cX11_tell 5 = .ok (.ifCond .ne 9, 3) := by decide +kernel
theorem dX11_tell_8 : decode cX11_tell 8 = .ok (.aload_n 0, 1) := by decide +kernel
theorem dX11_tell_9 : decode cX11_tell 9 = .ok (.iconst 1, 1) := by decide +kernel
theorem dX11_tell_10 : decode cX11_tell 10 = .ok (.invokevirtual 238, 3) := by decide +kernel
theorem dX11_tell_13 : decode cX11_tell 13 = .ok (.ireturn, 1) := by decide +kernel
theorem dX11_tell_14 : decode cX11_tell 14 = .ok (.lload_n 2, 1) := by decide +kernel
theorem dX11_tell_15 : decode cX11_tell 15 = .ok (.lconst 0, 1) := by decide +kernel
theorem dX11_tell_16 : decode cX11_tell 16 = .ok (.lcmp, 1) := by decide +kernel
theorem dX11_tell_17 : decode cX11_tell 17 = .ok (.ifCond .ge 9, 3) := by decide +kernel
theorem dX11_tell_20 : decode cX11_tell 20 = .ok (.aload_n 0, 1) := by decide +kernel
theorem dX11_tell_21 : decode cX11_tell 21 = .ok (.iconst 5, 1) := by decide +kernel
theorem dX11_tell_22 : decode cX11_tell 22 = .ok (.invokevirtual 238, 3) := by decide +kernel
theorem dX11_tell_25 : decode cX11_tell 25 = .ok (.ireturn, 1) := by decide +kernel
theorem dX11_tell_26 : decode cX11_tell 26 = .ok (.aload_n 0, 1) := by decide +kernel
theorem dX11_tell_27 : decode cX11_tell 27 = .ok (.getfield 160, 3) := by decide +kernel
theorem dX11_tell_30 : decode cX11_tell 30 = .ok (.iload_n 1, 1) := by decide +kernel
theorem dX11_tell_31 : decode cX11_tell 31 = .ok (.lload_n 2, 1) := by decide +kernel
theorem dX11_tell_32 : decode cX11_tell 32 = .ok (.lastore, 1) := by decide +kernel
theorem dX11_tell_33 : decode cX11_tell 33 = .ok (.aload_n 0, 1) := by decide +kernel
theorem dX11_tell_34 : decode cX11_tell 34 = .ok (.iconst 0, 1) := by decide +kernel
theorem dX11_tell_35 : decode cX11_tell 35 = .ok (.putfield 163, 3) := by decide +kernel
theorem dX11_tell_38 : decode cX11_tell 38 = .ok (.iconst 1, 1) := by decide +kernel
theorem dX11_tell_39 : decode cX11_tell 39 = .ok (.ireturn, 1) := by decide +kernel
theorem dX11_check_0 : decode cX11_check 0 = .ok (.iconst 0, 1) := by decide +kernel
theorem dX11_check_1 : decode cX11_check 1 = .ok (.istore_n 3, 1) := by decide +kernel
theorem dX11_check_2 : decode cX11_check 2 = .ok (.aload_n 0, 1) := by decide +kernel
theorem dX11_check_3 : decode cX11_check 3 = .ok (.getfield 169, 3) := by decide +kernel
theorem dX11_check_6 : decode cX11_check 6 = .ok (.istore 4, 2) := by decide +kernel
theorem dX11_check_8 : decode cX11_check 8 = .ok (.iload 4, 2) := by decide +kernel
theorem dX11_check_10 : decode cX11_check 10 = .ok (.ifCond .le 48, 3) := by decide +kernel
theorem dX11_check_13 : decode cX11_check 13 = .ok (.aload_n 0, 1) := by decide +kernel
theorem dX11_check_14 : decode cX11_check 14 = .ok (.getfield 26, 3) := by decide +kernel
theorem dX11_check_17 : decode cX11_check 17 = .ok (.iload 4, 2) := by decide +kernel
theorem dX11_check_19 : decode cX11_check 19 = .ok (.iaload, 1) := by decide +kernel
theorem dX11_check_20 : decode cX11_check 20 = .ok (.ifCond .ne 24, 3) := by decide +kernel
theorem dX11_check_23 : decode cX11_check 23 = .ok (.aload_n 0, 1) := by decide +kernel
theorem dX11_check_24 : decode cX11_check 24 = .ok (.getfield 160, 3) := by decide +kernel
theorem dX11_check_27 : decode cX11_check 27 = .ok (.iload 4, 2) := by decide +kernel
theorem dX11_check_29 : decode cX11_check 29 = .ok (.laload, 1) := by decide +kernel
theorem dX11_check_30 : decode cX11_check 30 = .ok (.aload_n 0, 1) := by decide +kernel
theorem dX11_check_31 : decode cX11_check 31 = .ok (.getfield 157, 3) := by decide +kernel
theorem dX11_check_34 : decode cX11_check 34 = .ok (.iload 4, 2) := by decide +kernel
theorem dX11_check_36 : decode cX11_check 36 = .ok (.laload, 1) := by decide +kernel
theorem dX11_check_37 : decode cX11_check 37 = .ok (.lcmp, 1) := by decide +kernel
theorem dX11_check_38 : decode cX11_check 38 = .ok (.ifCond .eq 6, 3) := by decide +kernel
theorem dX11_check_41 : decode cX11_check 41 = .ok (.iload 4, 2) := by decide +kernel
theorem dX11_check_43 : decode cX11_check 43 = .ok (.istore_n 3, 1) := by decide +kernel
theorem dX11_check_44 : decode cX11_check 44 = .ok (.aload_n 0, 1) := by decide +kernel
theorem dX11_check_45 : decode cX11_check 45 = .ok (.getfield 160, 3) := by decide +kernel
theorem dX11_check_48 : decode cX11_check 48 = .ok (.iload 4, 2) := by decide +kernel
theorem dX11_check_50 : decode cX11_check 50 = .ok (.lconst 0, 1) := by decide +kernel
theorem dX11_check_51 : decode cX11_check 51 = .ok (.lastore, 1) := by decide +kernel
theorem dX11_check_52 : decode cX11_check 52 = .ok (.iinc 4 (-1), 3) := by decide +kernel
theorem dX11_check_55 : decode cX11_check 55 = .ok (.goto (-47), 3) := by decide +kernel
theorem dX11_check_58 : decode cX11_check 58 = .ok (.aload_n 0, 1) := by decide +kernel
theorem dX11_check_59 : decode cX11_check 59 = .ok (.iconst 0, 1) := by decide +kernel
theorem dX11_check_60 : decode cX11_check 60 = .ok (.putfield 163, 3) := by decide +kernel
theorem dX11_check_63 : decode cX11_check 63 = .ok (.iload_n 3, 1) := by decide +kernel
theorem dX11_check_64 : decode cX11_check 64 = .ok (.ifCond .eq 7, 3) := by decide +kernel
theorem dX11_check_67 : decode cX11_check 67 = .ok (.iload_n 3, 1) := by decide +kernel
theorem dX11_check_68 : decode cX11_check 68 = .ok (.goto 17, 3) := by decide +kernel
theorem dX11_check_71 : decode cX11_check 71 = .ok (.lload_n 1, 1) := by decide +kernel
theorem dX11_check_72 : decode cX11_check 72 = .ok (.aload_n 0, 1) := by decide +kernel
theorem dX11_check_73 : decode cX11_check 73 = .ok (.getfield 350, 3) := by decide +kernel
theorem dX11_check_76 : decode cX11_check 76 = .ok (.lcmp, 1) := by decide +kernel
theorem dX11_check_77 : decode cX11_check 77 = .ok (.ifCond .ne 7, 3) := by decide +kernel
theorem dX11_check_80 : decode cX11_check 80 = .ok (.iconst 0, 1) := by decide +kernel
theorem dX11_check_81 : decode cX11_check 81 = .ok (.goto 4, 3) := by decide +kernel
theorem dX11_check_84 : decode cX11_check 84 = .ok (.iconst (-1), 1) := by decide +kernel
theorem dX11_check_85 : decode cX11_check 85 = .ok (.ireturn, 1) := by decide +kernel
theorem dX11_kind_0 : decode cX11_kind 0 = .ok (.aload_n 0, 1) := by decide +kernel
theorem dX11_kind_1 : decode cX11_kind 1 = .ok (.iload_n 1, 1) := by decide +kernel
theorem dX11_kind_2 : decode cX11_kind 2 = .ok (.invokevirtual 224, 3) := by decide +kernel
theorem dX11_kind_5 : decode cX11_kind 5 = .ok (.ifCond .ne 5, 3) := by decide +kernel
theorem dX11_kind_8 : decode cX11_kind 8 = .ok (.iconst (-1), 1) := by decide +kernel
theorem dX11_kind_9 : decode cX11_kind 9 = .ok (.ireturn, 1) := by decide +kernel
theorem dX11_kind_10 : decode cX11_kind 10 = .ok (.aload_n 0, 1) := by decide +kernel
theorem dX11_kind_11 : decode cX11_kind 11 = .ok (.getfield 23, 3) := by decide +kernel
theorem dX11_kind_14 : decode cX11_kind 14 = .ok (.iload_n 1, 1) := by decide +kernel
theorem dX11_kind_15 : decode cX11_kind 15 = .ok (.iaload, 1) := by decide +kernel
theorem dX11_kind_16 : decode cX11_kind 16 = .ok (.istore_n 3, 1) := by decide +kernel
theorem dX11_kind_17 : decode cX11_kind 17 = .ok (.iload_n 2, 1) := by decide +kernel
theorem dX11_kind_18 : decode cX11_kind 18 = .ok (.tableswitch 141 0 9 #[54, 61, 68, 70, 77, 84, 98, 105, 112, 127], 54) := by decide +kernel
theorem dX11_kind_72 : decode cX11_kind 72 = .ok (.aload_n 0, 1) := by decide +kernel
theorem dX11_kind_73 : decode cX11_kind 73 = .ok (.getfield 17, 3) := by decide +kernel
theorem dX11_kind_76 : decode cX11_kind 76 = .ok (.iload_n 1, 1) := by decide +kernel
theorem dX11_kind_77 : decode cX11_kind 77 = .ok (.iaload, 1) := by decide +kernel
theorem dX11_kind_78 : decode cX11_kind 78 = .ok (.ireturn, 1) := by decide +kernel
theorem dX11_kind_79 : decode cX11_kind 79 = .ok (.aload_n 0, 1) := by decide +kernel
theorem dX11_kind_80 : decode cX11_kind 80 = .ok (.getfield 20, 3) := by decide +kernel
theorem dX11_kind_83 : decode cX11_kind 83 = .ok (.iload_n 1, 1) := by decide +kernel
theorem dX11_kind_84 : decode cX11_kind 84 = .ok (.iaload, 1) := by decide +kernel
theorem dX11_kind_85 : decode cX11_kind 85 = .ok (.ireturn, 1) := by decide +kernel
theorem dX11_kind_86 : decode cX11_kind 86 = .ok (.iload_n 3, 1) := by decide +kernel
theorem dX11_kind_87 : decode cX11_kind 87 = .ok (.ireturn, 1) := by decide +kernel
theorem dX11_kind_88 : decode cX11_kind 88 = .ok (.aload_n 0, 1) := by decide +kernel
theorem dX11_kind_89 : decode cX11_kind 89 = .ok (.getfield 26, 3) := by decide +kernel
theorem dX11_kind_92 : decode cX11_kind 92 = .ok (.iload_n 1, 1) := by decide +kernel
theorem dX11_kind_93 : decode cX11_kind 93 = .ok (.iaload, 1) := by decide +kernel
theorem dX11_kind_94 : decode cX11_kind 94 = .ok (.ireturn, 1) := by decide +kernel
theorem dX11_kind_95 : decode cX11_kind 95 = .ok (.aload_n 0, 1) := by decide +kernel
theorem dX11_kind_96 : decode cX11_kind 96 = .ok (.getfield 29, 3) := by decide +kernel
theorem dX11_kind_99 : decode cX11_kind 99 = .ok (.iload_n 1, 1) := by decide +kernel
theorem dX11_kind_100 : decode cX11_kind 100 = .ok (.iaload, 1) := by decide +kernel
theorem dX11_kind_101 : decode cX11_kind 101 = .ok (.ireturn, 1) := by decide +kernel
theorem dX11_kind_102 : decode cX11_kind 102 = .ok (.aload_n 0, 1) := by decide +kernel
theorem dX11_kind_103 : decode cX11_kind 103 = .ok (.iload_n 1, 1) := by decide +kernel
theorem dX11_kind_104 : decode cX11_kind 104 = .ok (.invokevirtual 260, 3) := by decide +kernel
theorem dX11_kind_107 : decode cX11_kind 107 = .ok (.ifCond .eq 7, 3) := by decide +kernel
theorem dX11_kind_110 : decode cX11_kind 110 = .ok (.iconst 1, 1) := by decide +kernel
theorem dX11_kind_111 : decode cX11_kind 111 = .ok (.goto 4, 3) := by decide +kernel
theorem dX11_kind_114 : decode cX11_kind 114 = .ok (.iconst 0, 1) := by decide +kernel
theorem dX11_kind_115 : decode cX11_kind 115 = .ok (.ireturn, 1) := by decide +kernel
theorem dX11_kind_116 : decode cX11_kind 116 = .ok (.aload_n 0, 1) := by decide +kernel
theorem dX11_kind_117 : decode cX11_kind 117 = .ok (.getfield 48, 3) := by decide +kernel
theorem dX11_kind_120 : decode cX11_kind 120 = .ok (.iload_n 3, 1) := by decide +kernel
theorem dX11_kind_121 : decode cX11_kind 121 = .ok (.iaload, 1) := by decide +kernel
theorem dX11_kind_122 : decode cX11_kind 122 = .ok (.ireturn, 1) := by decide +kernel
theorem dX11_kind_123 : decode cX11_kind 123 = .ok (.aload_n 0, 1) := by decide +kernel
theorem dX11_kind_124 : decode cX11_kind 124 = .ok (.getfield 51, 3) := by decide +kernel
theorem dX11_kind_127 : decode cX11_kind 127 = .ok (.iload_n 3, 1) := by decide +kernel
theorem dX11_kind_128 : decode cX11_kind 128 = .ok (.iaload, 1) := by decide +kernel
theorem dX11_kind_129 : decode cX11_kind 129 = .ok (.ireturn, 1) := by decide +kernel
theorem dX11_kind_130 : decode cX11_kind 130 = .ok (.aload_n 0, 1) := by decide +kernel
theorem dX11_kind_131 : decode cX11_kind 131 = .ok (.getfield 36, 3) := by decide +kernel
theorem dX11_kind_134 : decode cX11_kind 134 = .ok (.iload_n 1, 1) := by decide +kernel
theorem dX11_kind_135 : decode cX11_kind 135 = .ok (.iaload, 1) := by decide +kernel
theorem dX11_kind_136 : decode cX11_kind 136 = .ok (.ifCond .eq 7, 3) := by decide +kernel
theorem dX11_kind_139 : decode cX11_kind 139 = .ok (.iconst 2, 1) := by decide +kernel
theorem dX11_kind_140 : decode cX11_kind 140 = .ok (.goto 4, 3) := by decide +kernel
theorem dX11_kind_143 : decode cX11_kind 143 = .ok (.iconst 0, 1) := by decide +kernel
theorem dX11_kind_144 : decode cX11_kind 144 = .ok (.ireturn, 1) := by decide +kernel
theorem dX11_kind_145 : decode cX11_kind 145 = .ok (.aload_n 0, 1) := by decide +kernel
theorem dX11_kind_146 : decode cX11_kind 146 = .ok (.getfield 81, 3) := by decide +kernel
theorem dX11_kind_149 : decode cX11_kind 149 = .ok (.iload_n 1, 1) := by decide +kernel
theorem dX11_kind_150 : decode cX11_kind 150 = .ok (.iaload, 1) := by decide +kernel
theorem dX11_kind_151 : decode cX11_kind 151 = .ok (.aload_n 0, 1) := by decide +kernel
theorem dX11_kind_152 : decode cX11_kind 152 = .ok (.getfield 84, 3) := by decide +kernel
theorem dX11_kind_155 : decode cX11_kind 155 = .ok (.iload_n 1, 1) := by decide +kernel
theorem dX11_kind_156 : decode cX11_kind 156 = .ok (.iaload, 1) := by decide +kernel
theorem dX11_kind_157 : decode cX11_kind 157 = .ok (.iadd, 1) := by decide +kernel
theorem dX11_kind_158 : decode cX11_kind 158 = .ok (.ireturn, 1) := by decide +kernel
theorem dX11_kind_159 : decode cX11_kind 159 = .ok (.iconst (-1), 1) := by decide +kernel
theorem dX11_kind_160 : decode cX11_kind 160 = .ok (.ireturn, 1) := by decide +kernel
theorem dX11_sum_0 : decode cX11_sum 0 = .ok (.aload_n 0, 1) := by decide +kernel
theorem dX11_sum_1 : decode cX11_sum 1 = .ok (.iload_n 1, 1) := by decide +kernel
theorem dX11_sum_2 : decode cX11_sum 2 = .ok (.invokevirtual 224, 3) := by decide +kernel
theorem dX11_sum_5 : decode cX11_sum 5 = .ok (.ifCond .eq 11, 3) := by decide +kernel
theorem dX11_sum_8 : decode cX11_sum 8 = .ok (.aload_n 0, 1) := by decide +kernel
theorem dX11_sum_9 : decode cX11_sum 9 = .ok (.iload_n 1, 1) := by decide +kernel
theorem dX11_sum_10 : decode cX11_sum 10 = .ok (.invokevirtual 263, 3) := by decide +kernel
theorem dX11_sum_13 : decode cX11_sum 13 = .ok (.goto 6, 3) := by decide +kernel
theorem dX11_sum_16 : decode cX11_sum 16 = .ok (.ldc2_w 227, 3) := by decide +kernel
theorem dX11_sum_19 : decode cX11_sum 19 = .ok (.lreturn, 1) := by decide +kernel
theorem dX11_parcels_0 : decode cX11_parcels 0 = .ok (.lconst 0, 1) := by decide +kernel
theorem dX11_parcels_1 : decode cX11_parcels 1 = .ok (.lstore_n 2, 1) := by decide +kernel
theorem dX11_parcels_2 : decode cX11_parcels 2 = .ok (.aload_n 0, 1) := by decide +kernel
theorem dX11_parcels_3 : decode cX11_parcels 3 = .ok (.invokevirtual 257, 3) := by decide +kernel
theorem dX11_parcels_6 : decode cX11_parcels 6 = .ok (.iconst 0, 1) := by decide +kernel
theorem dX11_parcels_7 : decode cX11_parcels 7 = .ok (.istore 4, 2) := by decide +kernel
theorem dX11_parcels_9 : decode cX11_parcels 9 = .ok (.aload_n 0, 1) := by decide +kernel
theorem dX11_parcels_10 : decode cX11_parcels 10 = .ok (.iload_n 1, 1) := by decide +kernel
theorem dX11_parcels_11 : decode cX11_parcels 11 = .ok (.invokevirtual 224, 3) := by decide +kernel
theorem dX11_parcels_14 : decode cX11_parcels 14 = .ok (.ifCond .eq 46, 3) := by decide +kernel
theorem dX11_parcels_17 : decode cX11_parcels 17 = .ok (.iload 4, 2) := by decide +kernel
theorem dX11_parcels_19 : decode cX11_parcels 19 = .ok (.aload_n 0, 1) := by decide +kernel
theorem dX11_parcels_20 : decode cX11_parcels 20 = .ok (.getfield 7, 3) := by decide +kernel
theorem dX11_parcels_23 : decode cX11_parcels 23 = .ok (.aload_n 0, 1) := by decide +kernel
theorem dX11_parcels_24 : decode cX11_parcels 24 = .ok (.getfield 20, 3) := by decide +kernel
theorem dX11_parcels_27 : decode cX11_parcels 27 = .ok (.iload_n 1, 1) := by decide +kernel
theorem dX11_parcels_28 : decode cX11_parcels 28 = .ok (.iaload, 1) := by decide +kernel
theorem dX11_parcels_29 : decode cX11_parcels 29 = .ok (.iaload, 1) := by decide +kernel
theorem dX11_parcels_30 : decode cX11_parcels 30 = .ok (.if_icmp .ge 30, 3) := by decide +kernel
theorem dX11_parcels_33 : decode cX11_parcels 33 = .ok (.lload_n 2, 1) := by decide +kernel
theorem dX11_parcels_34 : decode cX11_parcels 34 = .ok (.aload_n 0, 1) := by decide +kernel
theorem dX11_parcels_35 : decode cX11_parcels 35 = .ok (.iload_n 1, 1) := by decide +kernel
theorem dX11_parcels_36 : decode cX11_parcels 36 = .ok (.iload 4, 2) := by decide +kernel
theorem dX11_parcels_38 : decode cX11_parcels 38 = .ok (.invokevirtual 293, 3) := by decide +kernel
theorem dX11_parcels_41 : decode cX11_parcels 41 = .ok (.ifCond .eq 10, 3) := by decide +kernel
theorem dX11_parcels_44 : decode cX11_parcels 44 = .ok (.lconst 1, 1) := by decide +kernel
theorem dX11_parcels_45 : decode cX11_parcels 45 = .ok (.iload 4, 2) := by decide +kernel
theorem dX11_parcels_47 : decode cX11_parcels 47 = .ok (.lshl, 1) := by decide +kernel
theorem dX11_parcels_48 : decode cX11_parcels 48 = .ok (.goto 4, 3) := by decide +kernel
theorem dX11_parcels_51 : decode cX11_parcels 51 = .ok (.lconst 0, 1) := by decide +kernel
theorem dX11_parcels_52 : decode cX11_parcels 52 = .ok (.lor, 1) := by decide +kernel
theorem dX11_parcels_53 : decode cX11_parcels 53 = .ok (.lstore_n 2, 1) := by decide +kernel
theorem dX11_parcels_54 : decode cX11_parcels 54 = .ok (.iinc 4 1, 3) := by decide +kernel
theorem dX11_parcels_57 : decode cX11_parcels 57 = .ok (.goto (-48), 3) := by decide +kernel
theorem dX11_parcels_60 : decode cX11_parcels 60 = .ok (.lload_n 2, 1) := by decide +kernel
theorem dX11_parcels_61 : decode cX11_parcels 61 = .ok (.lreturn, 1) := by decide +kernel
theorem dX11_status_0 : decode cX11_status 0 = .ok (.aload_n 0, 1) := by decide +kernel
theorem dX11_status_1 : decode cX11_status 1 = .ok (.getfield 163, 3) := by decide +kernel
theorem dX11_status_4 : decode cX11_status 4 = .ok (.ireturn, 1) := by decide +kernel
theorem dX11_count_0 : decode cX11_count 0 = .ok (.iload_n 1, 1) := by decide +kernel
theorem dX11_count_1 : decode cX11_count 1 = .ok (.tableswitch 78 0 6 #[43, 48, 53, 58, 63, 68, 73], 43) := by decide +kernel
theorem dX11_count_44 : decode cX11_count 44 = .ok (.aload_n 0, 1) := by decide +kernel
theorem dX11_count_45 : decode cX11_count 45 = .ok (.getfield 166, 3) := by decide +kernel
theorem dX11_count_48 : decode cX11_count 48 = .ok (.ireturn, 1) := by decide +kernel
theorem dX11_count_49 : decode cX11_count 49 = .ok (.aload_n 0, 1) := by decide +kernel
theorem dX11_count_50 : decode cX11_count 50 = .ok (.getfield 172, 3) := by decide +kernel
theorem dX11_count_53 : decode cX11_count 53 = .ok (.ireturn, 1) := by decide +kernel
theorem dX11_count_54 : decode cX11_count 54 = .ok (.aload_n 0, 1) := by decide +kernel
theorem dX11_count_55 : decode cX11_count 55 = .ok (.getfield 169, 3) := by decide +kernel
theorem dX11_count_58 : decode cX11_count 58 = .ok (.ireturn, 1) := by decide +kernel
theorem dX11_count_59 : decode cX11_count 59 = .ok (.aload_n 0, 1) := by decide +kernel
theorem dX11_count_60 : decode cX11_count 60 = .ok (.getfield 275, 3) := by decide +kernel
theorem dX11_count_63 : decode cX11_count 63 = .ok (.ireturn, 1) := by decide +kernel
theorem dX11_count_64 : decode cX11_count 64 = .ok (.aload_n 0, 1) := by decide +kernel
theorem dX11_count_65 : decode cX11_count 65 = .ok (.invokevirtual 252, 3) := by decide +kernel
theorem dX11_count_68 : decode cX11_count 68 = .ok (.ireturn, 1) := by decide +kernel
theorem dX11_count_69 : decode cX11_count 69 = .ok (.aload_n 0, 1) := by decide +kernel
theorem dX11_count_70 : decode cX11_count 70 = .ok (.getfield 362, 3) := by decide +kernel
theorem dX11_count_73 : decode cX11_count 73 = .ok (.ireturn, 1) := by decide +kernel
theorem dX11_count_74 : decode cX11_count 74 = .ok (.aload_n 0, 1) := by decide +kernel
theorem dX11_count_75 : decode cX11_count 75 = .ok (.getfield 290, 3) := by decide +kernel
theorem dX11_count_78 : decode cX11_count 78 = .ok (.ireturn, 1) := by decide +kernel
theorem dX11_count_79 : decode cX11_count 79 = .ok (.iconst (-1), 1) := by decide +kernel
theorem dX11_count_80 : decode cX11_count 80 = .ok (.ireturn, 1) := by decide +kernel
end
section
theorem dL_law_0 : decode cL_law 0 = .ok (.new 7, 3) := by decide +kernel
theorem dL_law_3 : decode cL_law 3 = .ok (.dup, 1) := by decide +kernel
theorem dL_law_4 : decode cL_law 4 = .ok (.invokespecial 9, 3) := by decide +kernel
theorem dL_law_7 : decode cL_law 7 = .ok (.astore_n 1, 1) := by decide +kernel
theorem dL_law_8 : decode cL_law 8 = .ok (.new 10, 3) := by decide +kernel
theorem dL_law_11 : decode cL_law 11 = .ok (.dup, 1) := by decide +kernel
theorem dL_law_12 : decode cL_law 12 = .ok (.invokespecial 12, 3) := by decide +kernel
theorem dL_law_15 : decode cL_law 15 = .ok (.astore_n 2, 1) := by decide +kernel
theorem dL_law_16 : decode cL_law 16 = .ok (.iconst 0, 1) := by decide +kernel
theorem dL_law_17 : decode cL_law 17 = .ok (.istore_n 3, 1) := by decide +kernel
theorem dL_law_18 : decode cL_law 18 = .ok (.iload_n 3, 1) := by decide +kernel
theorem dL_law_19 : decode cL_law 19 = .ok (.aload_n 0, 1) := by decide +kernel
theorem dL_law_20 : decode cL_law 20 = .ok (.arraylength, 1) := by decide +kernel
theorem dL_law_21 : decode cL_law 21 = .ok (.bipush 8, 2) := by decide +kernel
theorem dL_law_23 : decode cL_law 23 = .ok (.isub, 1) := by decide +kernel
theorem dL_law_24 : decode cL_law 24 = .ok (.if_icmp .gt 1689, 3) := by decide +kernel
theorem dL_law_27 : decode cL_law 27 = .ok (.aload_n 0, 1) := by decide +kernel
theorem dL_law_28 : decode cL_law 28 = .ok (.iload_n 3, 1) := by decide +kernel
theorem dL_law_29 : decode cL_law 29 = .ok (.iaload, 1) := by decide +kernel
theorem dL_law_30 : decode cL_law 30 = .ok (.bipush 63, 2) := by decide +kernel
theorem dL_law_32 : decode cL_law 32 = .ok (.iand, 1) := by decide +kernel
theorem dL_law_33 : decode cL_law 33 = .ok (.tableswitch 1674 0 33 #[151, 174, 207, 230, 253, 380, 423, 486, 550, 599, 662, 735, 808, 831, 864, 887, 920, 953, 996, 1029, 1062, 1115, 1138, 1254, 1370, 1394, 1457, 1510, 1533, 1557, 1590, 1614, 1638, 1651], 151) := by decide +kernel
theorem dL_law_184 : decode cL_law 184 = .ok (.aload_n 1, 1) := by decide +kernel
theorem dL_law_185 : decode cL_law 185 = .ok (.aload_n 0, 1) := by decide +kernel
theorem dL_law_186 : decode cL_law 186 = .ok (.iload_n 3, 1) := by decide +kernel
theorem dL_law_187 : decode cL_law 187 = .ok (.iconst 1, 1) := by decide +kernel
theorem dL_law_188 : decode cL_law 188 = .ok (.iadd, 1) := by decide +kernel
theorem dL_law_189 : decode cL_law 189 = .ok (.iaload, 1) := by decide +kernel
theorem dL_law_190 : decode cL_law 190 = .ok (.invokevirtual 13, 3) := by decide +kernel
theorem dL_law_193 : decode cL_law 193 = .ok (.aload_n 2, 1) := by decide +kernel
theorem dL_law_194 : decode cL_law 194 = .ok (.aload_n 0, 1) := by decide +kernel
theorem dL_law_195 : decode cL_law 195 = .ok (.iload_n 3, 1) := by decide +kernel
theorem dL_law_196 : decode cL_law 196 = .ok (.iconst 1, 1) := by decide +kernel
theorem dL_law_197 : decode cL_law 197 = .ok (.iadd, 1) := by decide +kernel
theorem dL_law_198 : decode cL_law 198 = .ok (.iaload, 1) := by decide +kernel
theorem dL_law_199 : decode cL_law 199 = .ok (.invokevirtual 17, 3) := by decide +kernel
theorem dL_law_202 : decode cL_law 202 = .ok (.if_icmp .eq 1505, 3) := by decide +kernel
theorem dL_law_205 : decode cL_law 205 = .ok (.iconst 0, 1) := by decide +kernel
theorem dL_law_206 : decode cL_law 206 = .ok (.ireturn, 1) := by decide +kernel
theorem dL_law_207 : decode cL_law 207 = .ok (.aload_n 1, 1) := by decide +kernel
theorem dL_law_208 : decode cL_law 208 = .ok (.aload_n 0, 1) := by decide +kernel
theorem dL_law_209 : decode cL_law 209 = .ok (.iload_n 3, 1) := by decide +kernel
theorem dL_law_210 : decode cL_law 210 = .ok (.iconst 1, 1) := by decide +kernel
theorem dL_law_211 : decode cL_law 211 = .ok (.iadd, 1) := by decide +kernel
theorem dL_law_212 : decode cL_law 212 = .ok (.iaload, 1) := by decide +kernel
theorem dL_law_213 : decode cL_law 213 = .ok (.aload_n 0, 1) := by decide +kernel
theorem dL_law_214 : decode cL_law 214 = .ok (.iload_n 3, 1) := by decide +kernel
theorem dL_law_215 : decode cL_law 215 = .ok (.iconst 2, 1) := by decide +kernel
theorem dL_law_216 : decode cL_law 216 = .ok (.iadd, 1) := by decide +kernel
theorem dL_law_217 : decode cL_law 217 = .ok (.iaload, 1) := by decide +kernel
theorem dL_law_218 : decode cL_law 218 = .ok (.invokevirtual 18, 3) := by decide +kernel
theorem dL_law_221 : decode cL_law 221 = .ok (.aload_n 2, 1) := by decide +kernel
theorem dL_law_222 : decode cL_law 222 = .ok (.aload_n 0, 1) := by decide +kernel
theorem dL_law_223 : decode cL_law 223 = .ok (.iload_n 3, 1) := by decide +kernel
theorem dL_law_224 : decode cL_law 224 = .ok (.iconst 1, 1) := by decide +kernel
theorem dL_law_225 : decode cL_law 225 = .ok (.iadd, 1) := by decide +kernel
theorem dL_law_226 : decode cL_law 226 = .ok (.iaload, 1) := by decide +kernel
theorem dL_law_227 : decode cL_law 227 = .ok (.aload_n 0, 1) := by decide +kernel
theorem dL_law_228 : decode cL_law 228 = .ok (.iload_n 3, 1) := by decide +kernel
theorem dL_law_229 : decode cL_law 229 = .ok (.iconst 2, 1) := by decide +kernel
theorem dL_law_230 : decode cL_law 230 = .ok (.iadd, 1) := by decide +kernel
theorem dL_law_231 : decode cL_law 231 = .ok (.iaload, 1) := by decide +kernel
theorem dL_law_232 : decode cL_law 232 = .ok (.invokevirtual 22, 3) := by decide +kernel
theorem dL_law_235 : decode cL_law 235 = .ok (.if_icmp .eq 1472, 3) := by decide +kernel
theorem dL_law_238 : decode cL_law 238 = .ok (.iconst 0, 1) := by decide +kernel
theorem dL_law_239 : decode cL_law 239 = .ok (.ireturn, 1) := by decide +kernel
theorem dL_law_240 : decode cL_law 240 = .ok (.aload_n 1, 1) := by decide +kernel
theorem dL_law_241 : decode cL_law 241 = .ok (.aload_n 0, 1) := by decide +kernel
theorem dL_law_242 : decode cL_law 242 = .ok (.iload_n 3, 1) := by decide +kernel
theorem dL_law_243 : decode cL_law 243 = .ok (.iconst 1, 1) := by decide +kernel
theorem dL_law_244 : decode cL_law 244 = .ok (.iadd, 1) := by decide +kernel
theorem dL_law_245 : decode cL_law 245 = .ok (.iaload, 1) := by decide +kernel
theorem dL_law_246 : decode cL_law 246 = .ok (.invokevirtual 23, 3) := by decide +kernel
theorem dL_law_249 : decode cL_law 249 = .ok (.aload_n 2, 1) := by decide +kernel
theorem dL_law_250 : decode cL_law 250 = .ok (.aload_n 0, 1) := by decide +kernel
theorem dL_law_251 : decode cL_law 251 = .ok (.iload_n 3, 1) := by decide +kernel
theorem dL_law_252 : decode cL_law 252 = .ok (.iconst 1, 1) := by decide +kernel
theorem dL_law_253 : decode cL_law 253 = .ok (.iadd, 1) := by decide +kernel
theorem dL_law_254 : decode cL_law 254 = .ok (.iaload, 1) := by decide +kernel
theorem dL_law_255 : decode cL_law 255 = .ok (.invokevirtual 27, 3) := by decide +kernel
theorem dL_law_258 : decode cL_law 258 = .ok (.if_icmp .eq 1449, 3) := by decide +kernel
theorem dL_law_261 : decode cL_law 261 = .ok (.iconst 0, 1) := by decide +kernel
theorem dL_law_262 : decode cL_law 262 = .ok (.ireturn, 1) := by decide +kernel
theorem dL_law_263 : decode cL_law 263 = .ok (.aload_n 1, 1) := by decide +kernel
theorem dL_law_264 : decode cL_law 264 = .ok (.aload_n 0, 1) := by decide +kernel
theorem dL_law_265 : decode cL_law 265 = .ok (.iload_n 3, 1) := by decide +kernel
theorem dL_law_266 : decode cL_law 266 = .ok (.iconst 1, 1) := by decide +kernel
theorem dL_law_267 : decode cL_law 267 = .ok (.iadd, 1) := by decide +kernel
theorem dL_law_268 : decode cL_law 268 = .ok (.iaload, 1) := by decide +kernel
theorem dL_law_269 : decode cL_law 269 = .ok (.invokevirtual 28, 3) := by decide +kernel
theorem dL_law_272 : decode cL_law 272 = .ok (.aload_n 2, 1) := by decide +kernel
theorem dL_law_273 : decode cL_law 273 = .ok (.aload_n 0, 1) := by decide +kernel
theorem dL_law_274 : decode cL_law 274 = .ok (.iload_n 3, 1) := by decide +kernel
theorem dL_law_275 : decode cL_law 275 = .ok (.iconst 1, 1) := by decide +kernel
theorem dL_law_276 : decode cL_law 276 = .ok (.iadd, 1) := by decide +kernel
theorem dL_law_277 : decode cL_law 277 = .ok (.iaload, 1) := by decide +kernel
theorem dL_law_278 : decode cL_law 278 = .ok (.invokevirtual 31, 3) := by decide +kernel
theorem dL_law_281 : decode cL_law 281 = .ok (.if_icmp .eq 1426, 3) := by decide +kernel
theorem dL_law_284 : decode cL_law 284 = .ok (.iconst 0, 1) := by decide +kernel
theorem dL_law_285 : decode cL_law 285 = .ok (.ireturn, 1) := by decide +kernel
theorem dL_law_286 : decode cL_law 286 = .ok (.aload_n 1, 1) := by decide +kernel
theorem dL_law_287 : decode cL_law 287 = .ok (.aload_n 0, 1) := by decide +kernel
theorem dL_law_288 : decode cL_law 288 = .ok (.iload_n 3, 1) := by decide +kernel
theorem dL_law_289 : decode cL_law 289 = .ok (.iconst 1, 1) := by decide +kernel
theorem dL_law_290 : decode cL_law 290 = .ok (.iadd, 1) := by decide +kernel
theorem dL_law_291 : decode cL_law 291 = .ok (.iaload, 1) := by decide +kernel
theorem dL_law_292 : decode cL_law 292 = .ok (.aload_n 0, 1) := by decide +kernel
theorem dL_law_293 : decode cL_law 293 = .ok (.iload_n 3, 1) := by decide +kernel
theorem dL_law_294 : decode cL_law 294 = .ok (.iconst 2, 1) := by decide +kernel
theorem dL_law_295 : decode cL_law 295 = .ok (.iadd, 1) := by decide +kernel
theorem dL_law_296 : decode cL_law 296 = .ok (.iaload, 1) := by decide +kernel
theorem dL_law_297 : decode cL_law 297 = .ok (.aload_n 0, 1) := by decide +kernel
theorem dL_law_298 : decode cL_law 298 = .ok (.iload_n 3, 1) := by decide +kernel
theorem dL_law_299 : decode cL_law 299 = .ok (.iconst 3, 1) := by decide +kernel
theorem dL_law_300 : decode cL_law 300 = .ok (.iadd, 1) := by decide +kernel
theorem dL_law_301 : decode cL_law 301 = .ok (.iaload, 1) := by decide +kernel
theorem dL_law_302 : decode cL_law 302 = .ok (.i2l, 1) := by decide +kernel
theorem dL_law_303 : decode cL_law 303 = .ok (.bipush 32, 2) := by decide +kernel
theorem dL_law_305 : decode cL_law 305 = .ok (.lshl, 1) := by decide +kernel
theorem dL_law_306 : decode cL_law 306 = .ok (.aload_n 0, 1) := by decide +kernel
theorem dL_law_307 : decode cL_law 307 = .ok (.iload_n 3, 1) := by decide +kernel
theorem dL_law_308 : decode cL_law 308 = .ok (.iconst 4, 1) := by decide +kernel
theorem dL_law_309 : decode cL_law 309 = .ok (.iadd, 1) := by decide +kernel
theorem dL_law_310 : decode cL_law 310 = .ok (.iaload, 1) := by decide +kernel
theorem dL_law_311 : decode cL_law 311 = .ok (.i2l, 1) := by decide +kernel
theorem dL_law_312 : decode cL_law 312 = .ok (.ldc2_w 32, 3) := by decide +kernel
theorem dL_law_315 : decode cL_law 315 = .ok (.land, 1) := by decide +kernel
theorem dL_law_316 : decode cL_law 316 = .ok (.lor, 1) := by decide +kernel
theorem dL_law_317 : decode cL_law 317 = .ok (.aload_n 0, 1) := by decide +kernel
theorem dL_law_318 : decode cL_law 318 = .ok (.iload_n 3, 1) := by decide +kernel
theorem dL_law_319 : decode cL_law 319 = .ok (.iconst 5, 1) := by decide +kernel
theorem dL_law_320 : decode cL_law 320 = .ok (.iadd, 1) := by decide +kernel
theorem dL_law_321 : decode cL_law 321 = .ok (.iaload, 1) := by decide +kernel
theorem dL_law_322 : decode cL_law 322 = .ok (.aload_n 0, 1) := by decide +kernel
theorem dL_law_323 : decode cL_law 323 = .ok (.iload_n 3, 1) := by decide +kernel
theorem dL_law_324 : decode cL_law 324 = .ok (.bipush 6, 2) := by decide +kernel
theorem dL_law_326 : decode cL_law 326 = .ok (.iadd, 1) := by decide +kernel
theorem dL_law_327 : decode cL_law 327 = .ok (.iaload, 1) := by decide +kernel
theorem dL_law_328 : decode cL_law 328 = .ok (.i2l, 1) := by decide +kernel
theorem dL_law_329 : decode cL_law 329 = .ok (.bipush 32, 2) := by decide +kernel
theorem dL_law_331 : decode cL_law 331 = .ok (.lshl, 1) := by decide +kernel
theorem dL_law_332 : decode cL_law 332 = .ok (.aload_n 0, 1) := by decide +kernel
theorem dL_law_333 : decode cL_law 333 = .ok (.iload_n 3, 1) := by decide +kernel
theorem dL_law_334 : decode cL_law 334 = .ok (.bipush 7, 2) := by decide +kernel
theorem dL_law_336 : decode cL_law 336 = .ok (.iadd, 1) := by decide +kernel
theorem dL_law_337 : decode cL_law 337 = .ok (.iaload, 1) := by decide +kernel
theorem dL_law_338 : decode cL_law 338 = .ok (.i2l, 1) := by decide +kernel
theorem dL_law_339 : decode cL_law 339 = .ok (.ldc2_w 32, 3) := by decide +kernel
theorem dL_law_342 : decode cL_law 342 = .ok (.land, 1) := by decide +kernel
theorem dL_law_343 : decode cL_law 343 = .ok (.lor, 1) := by decide +kernel
theorem dL_law_344 : decode cL_law 344 = .ok (.invokevirtual 34, 3) := by decide +kernel
theorem dL_law_347 : decode cL_law 347 = .ok (.aload_n 2, 1) := by decide +kernel
theorem dL_law_348 : decode cL_law 348 = .ok (.aload_n 0, 1) := by decide +kernel
theorem dL_law_349 : decode cL_law 349 = .ok (.iload_n 3, 1) := by decide +kernel
theorem dL_law_350 : decode cL_law 350 = .ok (.iconst 1, 1) := by decide +kernel
theorem dL_law_351 : decode cL_law 351 = .ok (.iadd, 1) := by decide +kernel
theorem dL_law_352 : decode cL_law 352 = .ok (.iaload, 1) := by decide +kernel
theorem dL_law_353 : decode cL_law 353 = .ok (.aload_n 0, 1) := by decide +kernel
theorem dL_law_354 : decode cL_law 354 = .ok (.iload_n 3, 1) := by decide +kernel
theorem dL_law_355 : decode cL_law 355 = .ok (.iconst 2, 1) := by decide +kernel
theorem dL_law_356 : decode cL_law 356 = .ok (.iadd, 1) := by decide +kernel
theorem dL_law_357 : decode cL_law 357 = .ok (.iaload, 1) := by decide +kernel
theorem dL_law_358 : decode cL_law 358 = .ok (.aload_n 0, 1) := by decide +kernel
theorem dL_law_359 : decode cL_law 359 = .ok (.iload_n 3, 1) := by decide +kernel
theorem dL_law_360 : decode cL_law 360 = .ok (.iconst 3, 1) := by decide +kernel
theorem dL_law_361 : decode cL_law 361 = .ok (.iadd, 1) := by decide +kernel
theorem dL_law_362 : decode cL_law 362 = .ok (.iaload, 1) := by decide +kernel
theorem dL_law_363 : decode cL_law 363 = .ok (.i2l, 1) := by decide +kernel
theorem dL_law_364 : decode cL_law 364 = .ok (.bipush 32, 2) := by decide +kernel
theorem dL_law_366 : decode cL_law 366 = .ok (.lshl, 1) := by decide +kernel
theorem dL_law_367 : decode cL_law 367 = .ok (.aload_n 0, 1) := by decide +kernel
theorem dL_law_368 : decode cL_law 368 = .ok (.iload_n 3, 1) := by decide +kernel
theorem dL_law_369 : decode cL_law 369 = .ok (.iconst 4, 1) := by decide +kernel
theorem dL_law_370 : decode cL_law 370 = .ok (.iadd, 1) := by decide +kernel
theorem dL_law_371 : decode cL_law 371 = .ok (.iaload, 1) := by decide +kernel
theorem dL_law_372 : decode cL_law 372 = .ok (.i2l, 1) := by decide +kernel
theorem dL_law_373 : decode cL_law 373 = .ok (.ldc2_w 32, 3) := by decide +kernel
theorem dL_law_376 : decode cL_law 376 = .ok (.land, 1) := by decide +kernel
theorem dL_law_377 : decode cL_law 377 = .ok (.lor, 1) := by decide +kernel
theorem dL_law_378 : decode cL_law 378 = .ok (.aload_n 0, 1) := by decide +kernel
theorem dL_law_379 : decode cL_law 379 = .ok (.iload_n 3, 1) := by decide +kernel
theorem dL_law_380 : decode cL_law 380 = .ok (.iconst 5, 1) := by decide +kernel
theorem dL_law_381 : decode cL_law 381 = .ok (.iadd, 1) := by decide +kernel
theorem dL_law_382 : decode cL_law 382 = .ok (.iaload, 1) := by decide +kernel
theorem dL_law_383 : decode cL_law 383 = .ok (.aload_n 0, 1) := by decide +kernel
theorem dL_law_384 : decode cL_law 384 = .ok (.iload_n 3, 1) := by decide +kernel
theorem dL_law_385 : decode cL_law 385 = .ok (.bipush 6, 2) := by decide +kernel
theorem dL_law_387 : decode cL_law 387 = .ok (.iadd, 1) := by decide +kernel
theorem dL_law_388 : decode cL_law 388 = .ok (.iaload, 1) := by decide +kernel
theorem dL_law_389 : decode cL_law 389 = .ok (.i2l, 1) := by decide +kernel
theorem dL_law_390 : decode cL_law 390 = .ok (.bipush 32, 2) := by decide +kernel
theorem dL_law_392 : decode cL_law 392 = .ok (.lshl, 1) := by decide +kernel
theorem dL_law_393 : decode cL_law 393 = .ok (.aload_n 0, 1) := by decide +kernel
theorem dL_law_394 : decode cL_law 394 = .ok (.iload_n 3, 1) := by decide +kernel
theorem dL_law_395 : decode cL_law 395 = .ok (.bipush 7, 2) := by decide +kernel
theorem dL_law_397 : decode cL_law 397 = .ok (.iadd, 1) := by decide +kernel
theorem dL_law_398 : decode cL_law 398 = .ok (.iaload, 1) := by decide +kernel
theorem dL_law_399 : decode cL_law 399 = .ok (.i2l, 1) := by decide +kernel
theorem dL_law_400 : decode cL_law 400 = .ok (.ldc2_w 32, 3) := by decide +kernel
theorem dL_law_403 : decode cL_law 403 = .ok (.land, 1) := by decide +kernel
theorem dL_law_404 : decode cL_law 404 = .ok (.lor, 1) := by decide +kernel
theorem dL_law_405 : decode cL_law 405 = .ok (.invokevirtual 38, 3) := by decide +kernel
theorem dL_law_408 : decode cL_law 408 = .ok (.if_icmp .eq 1299, 3) := by decide +kernel
theorem dL_law_411 : decode cL_law 411 = .ok (.iconst 0, 1) := by decide +kernel
theorem dL_law_412 : decode cL_law 412 = .ok (.ireturn, 1) := by decide +kernel
theorem dL_law_413 : decode cL_law 413 = .ok (.aload_n 1, 1) := by decide +kernel
theorem dL_law_414 : decode cL_law 414 = .ok (.aload_n 0, 1) := by decide +kernel
theorem dL_law_415 : decode cL_law 415 = .ok (.iload_n 3, 1) := by decide +kernel
theorem dL_law_416 : decode cL_law 416 = .ok (.iconst 1, 1) := by decide +kernel
theorem dL_law_417 : decode cL_law 417 = .ok (.iadd, 1) := by decide +kernel
theorem dL_law_418 : decode cL_law 418 = .ok (.iaload, 1) := by decide +kernel
theorem dL_law_419 : decode cL_law 419 = .ok (.aload_n 0, 1) := by decide +kernel
theorem dL_law_420 : decode cL_law 420 = .ok (.iload_n 3, 1) := by decide +kernel
theorem dL_law_421 : decode cL_law 421 = .ok (.iconst 2, 1) := by decide +kernel
theorem dL_law_422 : decode cL_law 422 = .ok (.iadd, 1) := by decide +kernel
theorem dL_law_423 : decode cL_law 423 = .ok (.iaload, 1) := by decide +kernel
theorem dL_law_424 : decode cL_law 424 = .ok (.aload_n 0, 1) := by decide +kernel
theorem dL_law_425 : decode cL_law 425 = .ok (.iload_n 3, 1) := by decide +kernel
theorem dL_law_426 : decode cL_law 426 = .ok (.iconst 3, 1) := by decide +kernel
theorem dL_law_427 : decode cL_law 427 = .ok (.iadd, 1) := by decide +kernel
theorem dL_law_428 : decode cL_law 428 = .ok (.iaload, 1) := by decide +kernel
theorem dL_law_429 : decode cL_law 429 = .ok (.invokevirtual 39, 3) := by decide +kernel
theorem dL_law_432 : decode cL_law 432 = .ok (.aload_n 2, 1) := by decide +kernel
theorem dL_law_433 : decode cL_law 433 = .ok (.aload_n 0, 1) := by decide +kernel
theorem dL_law_434 : decode cL_law 434 = .ok (.iload_n 3, 1) := by decide +kernel
theorem dL_law_435 : decode cL_law 435 = .ok (.iconst 1, 1) := by decide +kernel
theorem dL_law_436 : decode cL_law 436 = .ok (.iadd, 1) := by decide +kernel
theorem dL_law_437 : decode cL_law 437 = .ok (.iaload, 1) := by decide +kernel
theorem dL_law_438 : decode cL_law 438 = .ok (.aload_n 0, 1) := by decide +kernel
theorem dL_law_439 : decode cL_law 439 = .ok (.iload_n 3, 1) := by decide +kernel
theorem dL_law_440 : decode cL_law 440 = .ok (.iconst 2, 1) := by decide +kernel
theorem dL_law_441 : decode cL_law 441 = .ok (.iadd, 1) := by decide +kernel
theorem dL_law_442 : decode cL_law 442 = .ok (.iaload, 1) := by decide +kernel
theorem dL_law_443 : decode cL_law 443 = .ok (.aload_n 0, 1) := by decide +kernel
theorem dL_law_444 : decode cL_law 444 = .ok (.iload_n 3, 1) := by decide +kernel
theorem dL_law_445 : decode cL_law 445 = .ok (.iconst 3, 1) := by decide +kernel
theorem dL_law_446 : decode cL_law 446 = .ok (.iadd, 1) := by decide +kernel
theorem dL_law_447 : decode cL_law 447 = .ok (.iaload, 1) := by decide +kernel
theorem dL_law_448 : decode cL_law 448 = .ok (.invokevirtual 43, 3) := by decide +kernel
theorem dL_law_451 : decode cL_law 451 = .ok (.if_icmp .eq 1256, 3) := by decide +kernel
theorem dL_law_454 : decode cL_law 454 = .ok (.iconst 0, 1) := by decide +kernel
theorem dL_law_455 : decode cL_law 455 = .ok (.ireturn, 1) := by decide +kernel
theorem dL_law_456 : decode cL_law 456 = .ok (.aload_n 1, 1) := by decide +kernel
theorem dL_law_457 : decode cL_law 457 = .ok (.aload_n 0, 1) := by decide +kernel
theorem dL_law_458 : decode cL_law 458 = .ok (.iload_n 3, 1) := by decide +kernel
theorem dL_law_459 : decode cL_law 459 = .ok (.iconst 1, 1) := by decide +kernel
theorem dL_law_460 : decode cL_law 460 = .ok (.iadd, 1) := by decide +kernel
theorem dL_law_461 : decode cL_law 461 = .ok (.iaload, 1) := by decide +kernel
theorem dL_law_462 : decode cL_law 462 = .ok (.aload_n 0, 1) := by decide +kernel
theorem dL_law_463 : decode cL_law 463 = .ok (.iload_n 3, 1) := by decide +kernel
theorem dL_law_464 : decode cL_law 464 = .ok (.iconst 2, 1) := by decide +kernel
theorem dL_law_465 : decode cL_law 465 = .ok (.iadd, 1) := by decide +kernel
theorem dL_law_466 : decode cL_law 466 = .ok (.iaload, 1) := by decide +kernel
theorem dL_law_467 : decode cL_law 467 = .ok (.i2l, 1) := by decide +kernel
theorem dL_law_468 : decode cL_law 468 = .ok (.bipush 32, 2) := by decide +kernel
theorem dL_law_470 : decode cL_law 470 = .ok (.lshl, 1) := by decide +kernel
theorem dL_law_471 : decode cL_law 471 = .ok (.aload_n 0, 1) := by decide +kernel
theorem dL_law_472 : decode cL_law 472 = .ok (.iload_n 3, 1) := by decide +kernel
theorem dL_law_473 : decode cL_law 473 = .ok (.iconst 3, 1) := by decide +kernel
theorem dL_law_474 : decode cL_law 474 = .ok (.iadd, 1) := by decide +kernel
theorem dL_law_475 : decode cL_law 475 = .ok (.iaload, 1) := by decide +kernel
theorem dL_law_476 : decode cL_law 476 = .ok (.i2l, 1) := by decide +kernel
theorem dL_law_477 : decode cL_law 477 = .ok (.ldc2_w 32, 3) := by decide +kernel
theorem dL_law_480 : decode cL_law 480 = .ok (.land, 1) := by decide +kernel
theorem dL_law_481 : decode cL_law 481 = .ok (.lor, 1) := by decide +kernel
theorem dL_law_482 : decode cL_law 482 = .ok (.invokevirtual 44, 3) := by decide +kernel
theorem dL_law_485 : decode cL_law 485 = .ok (.aload_n 2, 1) := by decide +kernel
theorem dL_law_486 : decode cL_law 486 = .ok (.aload_n 0, 1) := by decide +kernel
theorem dL_law_487 : decode cL_law 487 = .ok (.iload_n 3, 1) := by decide +kernel
theorem dL_law_488 : decode cL_law 488 = .ok (.iconst 1, 1) := by decide +kernel
theorem dL_law_489 : decode cL_law 489 = .ok (.iadd, 1) := by decide +kernel
theorem dL_law_490 : decode cL_law 490 = .ok (.iaload, 1) := by decide +kernel
theorem dL_law_491 : decode cL_law 491 = .ok (.aload_n 0, 1) := by decide +kernel
theorem dL_law_492 : decode cL_law 492 = .ok (.iload_n 3, 1) := by decide +kernel
theorem dL_law_493 : decode cL_law 493 = .ok (.iconst 2, 1) := by decide +kernel
theorem dL_law_494 : decode cL_law 494 = .ok (.iadd, 1) := by decide +kernel
theorem dL_law_495 : decode cL_law 495 = .ok (.iaload, 1) := by decide +kernel
theorem dL_law_496 : decode cL_law 496 = .ok (.i2l, 1) := by decide +kernel
theorem dL_law_497 : decode cL_law 497 = .ok (.bipush 32, 2) := by decide +kernel
theorem dL_law_499 : decode cL_law 499 = .ok (.lshl, 1) := by decide +kernel
theorem dL_law_500 : decode cL_law 500 = .ok (.aload_n 0, 1) := by decide +kernel
theorem dL_law_501 : decode cL_law 501 = .ok (.iload_n 3, 1) := by decide +kernel
theorem dL_law_502 : decode cL_law 502 = .ok (.iconst 3, 1) := by decide +kernel
theorem dL_law_503 : decode cL_law 503 = .ok (.iadd, 1) := by decide +kernel
theorem dL_law_504 : decode cL_law 504 = .ok (.iaload, 1) := by decide +kernel
theorem dL_law_505 : decode cL_law 505 = .ok (.i2l, 1) := by decide +kernel
theorem dL_law_506 : decode cL_law 506 = .ok (.ldc2_w 32, 3) := by decide +kernel
theorem dL_law_509 : decode cL_law 509 = .ok (.land, 1) := by decide +kernel
theorem dL_law_510 : decode cL_law 510 = .ok (.lor, 1) := by decide +kernel
theorem dL_law_511 : decode cL_law 511 = .ok (.invokevirtual 48, 3) := by decide +kernel
theorem dL_law_514 : decode cL_law 514 = .ok (.if_icmp .eq 1193, 3) := by decide +kernel
theorem dL_law_517 : decode cL_law 517 = .ok (.iconst 0, 1) := by decide +kernel
theorem dL_law_518 : decode cL_law 518 = .ok (.ireturn, 1) := by decide +kernel
theorem dL_law_519 : decode cL_law 519 = .ok (.aload_n 1, 1) := by decide +kernel
theorem dL_law_520 : decode cL_law 520 = .ok (.aload_n 0, 1) := by decide +kernel
theorem dL_law_521 : decode cL_law 521 = .ok (.iload_n 3, 1) := by decide +kernel
theorem dL_law_522 : decode cL_law 522 = .ok (.iconst 1, 1) := by decide +kernel
theorem dL_law_523 : decode cL_law 523 = .ok (.iadd, 1) := by decide +kernel
theorem dL_law_524 : decode cL_law 524 = .ok (.iaload, 1) := by decide +kernel
theorem dL_law_525 : decode cL_law 525 = .ok (.aload_n 0, 1) := by decide +kernel
theorem dL_law_526 : decode cL_law 526 = .ok (.iload_n 3, 1) := by decide +kernel
theorem dL_law_527 : decode cL_law 527 = .ok (.iconst 2, 1) := by decide +kernel
theorem dL_law_528 : decode cL_law 528 = .ok (.iadd, 1) := by decide +kernel
theorem dL_law_529 : decode cL_law 529 = .ok (.iaload, 1) := by decide +kernel
theorem dL_law_530 : decode cL_law 530 = .ok (.i2l, 1) := by decide +kernel
theorem dL_law_531 : decode cL_law 531 = .ok (.bipush 32, 2) := by decide +kernel
theorem dL_law_533 : decode cL_law 533 = .ok (.lshl, 1) := by decide +kernel
theorem dL_law_534 : decode cL_law 534 = .ok (.aload_n 0, 1) := by decide +kernel
theorem dL_law_535 : decode cL_law 535 = .ok (.iload_n 3, 1) := by decide +kernel
theorem dL_law_536 : decode cL_law 536 = .ok (.iconst 3, 1) := by decide +kernel
theorem dL_law_537 : decode cL_law 537 = .ok (.iadd, 1) := by decide +kernel
theorem dL_law_538 : decode cL_law 538 = .ok (.iaload, 1) := by decide +kernel
theorem dL_law_539 : decode cL_law 539 = .ok (.i2l, 1) := by decide +kernel
theorem dL_law_540 : decode cL_law 540 = .ok (.ldc2_w 32, 3) := by decide +kernel
theorem dL_law_543 : decode cL_law 543 = .ok (.land, 1) := by decide +kernel
theorem dL_law_544 : decode cL_law 544 = .ok (.lor, 1) := by decide +kernel
theorem dL_law_545 : decode cL_law 545 = .ok (.invokevirtual 49, 3) := by decide +kernel
theorem dL_law_548 : decode cL_law 548 = .ok (.aload_n 2, 1) := by decide +kernel
theorem dL_law_549 : decode cL_law 549 = .ok (.aload_n 0, 1) := by decide +kernel
theorem dL_law_550 : decode cL_law 550 = .ok (.iload_n 3, 1) := by decide +kernel
theorem dL_law_551 : decode cL_law 551 = .ok (.iconst 1, 1) := by decide +kernel
theorem dL_law_552 : decode cL_law 552 = .ok (.iadd, 1) := by decide +kernel
theorem dL_law_553 : decode cL_law 553 = .ok (.iaload, 1) := by decide +kernel
theorem dL_law_554 : decode cL_law 554 = .ok (.aload_n 0, 1) := by decide +kernel
theorem dL_law_555 : decode cL_law 555 = .ok (.iload_n 3, 1) := by decide +kernel
theorem dL_law_556 : decode cL_law 556 = .ok (.iconst 2, 1) := by decide +kernel
theorem dL_law_557 : decode cL_law 557 = .ok (.iadd, 1) := by decide +kernel
theorem dL_law_558 : decode cL_law 558 = .ok (.iaload, 1) := by decide +kernel
theorem dL_law_559 : decode cL_law 559 = .ok (.i2l, 1) := by decide +kernel
theorem dL_law_560 : decode cL_law 560 = .ok (.bipush 32, 2) := by decide +kernel
theorem dL_law_562 : decode cL_law 562 = .ok (.lshl, 1) := by decide +kernel
theorem dL_law_563 : decode cL_law 563 = .ok (.aload_n 0, 1) := by decide +kernel
theorem dL_law_564 : decode cL_law 564 = .ok (.iload_n 3, 1) := by decide +kernel
theorem dL_law_565 : decode cL_law 565 = .ok (.iconst 3, 1) := by decide +kernel
theorem dL_law_566 : decode cL_law 566 = .ok (.iadd, 1) := by decide +kernel
theorem dL_law_567 : decode cL_law 567 = .ok (.iaload, 1) := by decide +kernel
theorem dL_law_568 : decode cL_law 568 = .ok (.i2l, 1) := by decide +kernel
theorem dL_law_569 : decode cL_law 569 = .ok (.ldc2_w 32, 3) := by decide +kernel
theorem dL_law_572 : decode cL_law 572 = .ok (.land, 1) := by decide +kernel
theorem dL_law_573 : decode cL_law 573 = .ok (.lor, 1) := by decide +kernel
theorem dL_law_574 : decode cL_law 574 = .ok (.invokevirtual 53, 3) := by decide +kernel
theorem dL_law_577 : decode cL_law 577 = .ok (.lcmp, 1) := by decide +kernel
theorem dL_law_578 : decode cL_law 578 = .ok (.ifCond .eq 1129, 3) := by decide +kernel
theorem dL_law_581 : decode cL_law 581 = .ok (.iconst 0, 1) := by decide +kernel
theorem dL_law_582 : decode cL_law 582 = .ok (.ireturn, 1) := by decide +kernel
theorem dL_law_583 : decode cL_law 583 = .ok (.aload_n 1, 1) := by decide +kernel
theorem dL_law_584 : decode cL_law 584 = .ok (.aload_n 0, 1) := by decide +kernel
theorem dL_law_585 : decode cL_law 585 = .ok (.iload_n 3, 1) := by decide +kernel
theorem dL_law_586 : decode cL_law 586 = .ok (.iconst 1, 1) := by decide +kernel
theorem dL_law_587 : decode cL_law 587 = .ok (.iadd, 1) := by decide +kernel
theorem dL_law_588 : decode cL_law 588 = .ok (.iaload, 1) := by decide +kernel
theorem dL_law_589 : decode cL_law 589 = .ok (.aload_n 0, 1) := by decide +kernel
theorem dL_law_590 : decode cL_law 590 = .ok (.iload_n 3, 1) := by decide +kernel
theorem dL_law_591 : decode cL_law 591 = .ok (.iconst 2, 1) := by decide +kernel
theorem dL_law_592 : decode cL_law 592 = .ok (.iadd, 1) := by decide +kernel
theorem dL_law_593 : decode cL_law 593 = .ok (.iaload, 1) := by decide +kernel
theorem dL_law_594 : decode cL_law 594 = .ok (.ifCond .eq 7, 3) := by decide +kernel
theorem dL_law_597 : decode cL_law 597 = .ok (.iconst 1, 1) := by decide +kernel
theorem dL_law_598 : decode cL_law 598 = .ok (.goto 4, 3) := by decide +kernel
theorem dL_law_601 : decode cL_law 601 = .ok (.iconst 0, 1) := by decide +kernel
theorem dL_law_602 : decode cL_law 602 = .ok (.invokevirtual 54, 3) := by decide +kernel
theorem dL_law_605 : decode cL_law 605 = .ok (.aload_n 2, 1) := by decide +kernel
theorem dL_law_606 : decode cL_law 606 = .ok (.aload_n 0, 1) := by decide +kernel
theorem dL_law_607 : decode cL_law 607 = .ok (.iload_n 3, 1) := by decide +kernel
theorem dL_law_608 : decode cL_law 608 = .ok (.iconst 1, 1) := by decide +kernel
theorem dL_law_609 : decode cL_law 609 = .ok (.iadd, 1) := by decide +kernel
theorem dL_law_610 : decode cL_law 610 = .ok (.iaload, 1) := by decide +kernel
theorem dL_law_611 : decode cL_law 611 = .ok (.aload_n 0, 1) := by decide +kernel
theorem dL_law_612 : decode cL_law 612 = .ok (.iload_n 3, 1) := by decide +kernel
theorem dL_law_613 : decode cL_law 613 = .ok (.iconst 2, 1) := by decide +kernel
theorem dL_law_614 : decode cL_law 614 = .ok (.iadd, 1) := by decide +kernel
theorem dL_law_615 : decode cL_law 615 = .ok (.iaload, 1) := by decide +kernel
theorem dL_law_616 : decode cL_law 616 = .ok (.ifCond .eq 7, 3) := by decide +kernel
theorem dL_law_619 : decode cL_law 619 = .ok (.iconst 1, 1) := by decide +kernel
theorem dL_law_620 : decode cL_law 620 = .ok (.goto 4, 3) := by decide +kernel
theorem dL_law_623 : decode cL_law 623 = .ok (.iconst 0, 1) := by decide +kernel
theorem dL_law_624 : decode cL_law 624 = .ok (.invokevirtual 58, 3) := by decide +kernel
theorem dL_law_627 : decode cL_law 627 = .ok (.if_icmp .eq 1080, 3) := by decide +kernel
theorem dL_law_630 : decode cL_law 630 = .ok (.iconst 0, 1) := by decide +kernel
theorem dL_law_631 : decode cL_law 631 = .ok (.ireturn, 1) := by decide +kernel
theorem dL_law_632 : decode cL_law 632 = .ok (.aload_n 1, 1) := by decide +kernel
theorem dL_law_633 : decode cL_law 633 = .ok (.aload_n 0, 1) := by decide +kernel
theorem dL_law_634 : decode cL_law 634 = .ok (.iload_n 3, 1) := by decide +kernel
theorem dL_law_635 : decode cL_law 635 = .ok (.iconst 1, 1) := by decide +kernel
theorem dL_law_636 : decode cL_law 636 = .ok (.iadd, 1) := by decide +kernel
theorem dL_law_637 : decode cL_law 637 = .ok (.iaload, 1) := by decide +kernel
theorem dL_law_638 : decode cL_law 638 = .ok (.aload_n 0, 1) := by decide +kernel
theorem dL_law_639 : decode cL_law 639 = .ok (.iload_n 3, 1) := by decide +kernel
theorem dL_law_640 : decode cL_law 640 = .ok (.iconst 2, 1) := by decide +kernel
theorem dL_law_641 : decode cL_law 641 = .ok (.iadd, 1) := by decide +kernel
theorem dL_law_642 : decode cL_law 642 = .ok (.iaload, 1) := by decide +kernel
theorem dL_law_643 : decode cL_law 643 = .ok (.i2l, 1) := by decide +kernel
theorem dL_law_644 : decode cL_law 644 = .ok (.bipush 32, 2) := by decide +kernel
theorem dL_law_646 : decode cL_law 646 = .ok (.lshl, 1) := by decide +kernel
theorem dL_law_647 : decode cL_law 647 = .ok (.aload_n 0, 1) := by decide +kernel
theorem dL_law_648 : decode cL_law 648 = .ok (.iload_n 3, 1) := by decide +kernel
theorem dL_law_649 : decode cL_law 649 = .ok (.iconst 3, 1) := by decide +kernel
theorem dL_law_650 : decode cL_law 650 = .ok (.iadd, 1) := by decide +kernel
theorem dL_law_651 : decode cL_law 651 = .ok (.iaload, 1) := by decide +kernel
theorem dL_law_652 : decode cL_law 652 = .ok (.i2l, 1) := by decide +kernel
theorem dL_law_653 : decode cL_law 653 = .ok (.ldc2_w 32, 3) := by decide +kernel
theorem dL_law_656 : decode cL_law 656 = .ok (.land, 1) := by decide +kernel
theorem dL_law_657 : decode cL_law 657 = .ok (.lor, 1) := by decide +kernel
theorem dL_law_658 : decode cL_law 658 = .ok (.invokevirtual 59, 3) := by decide +kernel
theorem dL_law_661 : decode cL_law 661 = .ok (.aload_n 2, 1) := by decide +kernel
theorem dL_law_662 : decode cL_law 662 = .ok (.aload_n 0, 1) := by decide +kernel
theorem dL_law_663 : decode cL_law 663 = .ok (.iload_n 3, 1) := by decide +kernel
theorem dL_law_664 : decode cL_law 664 = .ok (.iconst 1, 1) := by decide +kernel
theorem dL_law_665 : decode cL_law 665 = .ok (.iadd, 1) := by decide +kernel
theorem dL_law_666 : decode cL_law 666 = .ok (.iaload, 1) := by decide +kernel
theorem dL_law_667 : decode cL_law 667 = .ok (.aload_n 0, 1) := by decide +kernel
theorem dL_law_668 : decode cL_law 668 = .ok (.iload_n 3, 1) := by decide +kernel
theorem dL_law_669 : decode cL_law 669 = .ok (.iconst 2, 1) := by decide +kernel
theorem dL_law_670 : decode cL_law 670 = .ok (.iadd, 1) := by decide +kernel
theorem dL_law_671 : decode cL_law 671 = .ok (.iaload, 1) := by decide +kernel
theorem dL_law_672 : decode cL_law 672 = .ok (.i2l, 1) := by decide +kernel
theorem dL_law_673 : decode cL_law 673 = .ok (.bipush 32, 2) := by decide +kernel
theorem dL_law_675 : decode cL_law 675 = .ok (.lshl, 1) := by decide +kernel
theorem dL_law_676 : decode cL_law 676 = .ok (.aload_n 0, 1) := by decide +kernel
theorem dL_law_677 : decode cL_law 677 = .ok (.iload_n 3, 1) := by decide +kernel
theorem dL_law_678 : decode cL_law 678 = .ok (.iconst 3, 1) := by decide +kernel
theorem dL_law_679 : decode cL_law 679 = .ok (.iadd, 1) := by decide +kernel
theorem dL_law_680 : decode cL_law 680 = .ok (.iaload, 1) := by decide +kernel
theorem dL_law_681 : decode cL_law 681 = .ok (.i2l, 1) := by decide +kernel
theorem dL_law_682 : decode cL_law 682 = .ok (.ldc2_w 32, 3) := by decide +kernel
theorem dL_law_685 : decode cL_law 685 = .ok (.land, 1) := by decide +kernel
theorem dL_law_686 : decode cL_law 686 = .ok (.lor, 1) := by decide +kernel
theorem dL_law_687 : decode cL_law 687 = .ok (.invokevirtual 63, 3) := by decide +kernel
theorem dL_law_690 : decode cL_law 690 = .ok (.if_icmp .eq 1017, 3) := by decide +kernel
theorem dL_law_693 : decode cL_law 693 = .ok (.iconst 0, 1) := by decide +kernel
theorem dL_law_694 : decode cL_law 694 = .ok (.ireturn, 1) := by decide +kernel
theorem dL_law_695 : decode cL_law 695 = .ok (.aload_n 1, 1) := by decide +kernel
theorem dL_law_696 : decode cL_law 696 = .ok (.aload_n 0, 1) := by decide +kernel
theorem dL_law_697 : decode cL_law 697 = .ok (.iload_n 3, 1) := by decide +kernel
theorem dL_law_698 : decode cL_law 698 = .ok (.iconst 1, 1) := by decide +kernel
theorem dL_law_699 : decode cL_law 699 = .ok (.iadd, 1) := by decide +kernel
theorem dL_law_700 : decode cL_law 700 = .ok (.iaload, 1) := by decide +kernel
theorem dL_law_701 : decode cL_law 701 = .ok (.aload_n 0, 1) := by decide +kernel
theorem dL_law_702 : decode cL_law 702 = .ok (.iload_n 3, 1) := by decide +kernel
theorem dL_law_703 : decode cL_law 703 = .ok (.iconst 2, 1) := by decide +kernel
theorem dL_law_704 : decode cL_law 704 = .ok (.iadd, 1) := by decide +kernel
theorem dL_law_705 : decode cL_law 705 = .ok (.iaload, 1) := by decide +kernel
theorem dL_law_706 : decode cL_law 706 = .ok (.i2l, 1) := by decide +kernel
theorem dL_law_707 : decode cL_law 707 = .ok (.bipush 32, 2) := by decide +kernel
theorem dL_law_709 : decode cL_law 709 = .ok (.lshl, 1) := by decide +kernel
theorem dL_law_710 : decode cL_law 710 = .ok (.aload_n 0, 1) := by decide +kernel
theorem dL_law_711 : decode cL_law 711 = .ok (.iload_n 3, 1) := by decide +kernel
theorem dL_law_712 : decode cL_law 712 = .ok (.iconst 3, 1) := by decide +kernel
theorem dL_law_713 : decode cL_law 713 = .ok (.iadd, 1) := by decide +kernel
theorem dL_law_714 : decode cL_law 714 = .ok (.iaload, 1) := by decide +kernel
theorem dL_law_715 : decode cL_law 715 = .ok (.i2l, 1) := by decide +kernel
theorem dL_law_716 : decode cL_law 716 = .ok (.ldc2_w 32, 3) := by decide +kernel
theorem dL_law_719 : decode cL_law 719 = .ok (.land, 1) := by decide +kernel
theorem dL_law_720 : decode cL_law 720 = .ok (.lor, 1) := by decide +kernel
theorem dL_law_721 : decode cL_law 721 = .ok (.aload_n 0, 1) := by decide +kernel
theorem dL_law_722 : decode cL_law 722 = .ok (.iload_n 3, 1) := by decide +kernel
theorem dL_law_723 : decode cL_law 723 = .ok (.iconst 4, 1) := by decide +kernel
theorem dL_law_724 : decode cL_law 724 = .ok (.iadd, 1) := by decide +kernel
theorem dL_law_725 : decode cL_law 725 = .ok (.iaload, 1) := by decide +kernel
theorem dL_law_726 : decode cL_law 726 = .ok (.invokevirtual 64, 3) := by decide +kernel
theorem dL_law_729 : decode cL_law 729 = .ok (.aload_n 2, 1) := by decide +kernel
theorem dL_law_730 : decode cL_law 730 = .ok (.aload_n 0, 1) := by decide +kernel
theorem dL_law_731 : decode cL_law 731 = .ok (.iload_n 3, 1) := by decide +kernel
theorem dL_law_732 : decode cL_law 732 = .ok (.iconst 1, 1) := by decide +kernel
theorem dL_law_733 : decode cL_law 733 = .ok (.iadd, 1) := by decide +kernel
theorem dL_law_734 : decode cL_law 734 = .ok (.iaload, 1) := by decide +kernel
theorem dL_law_735 : decode cL_law 735 = .ok (.aload_n 0, 1) := by decide +kernel
theorem dL_law_736 : decode cL_law 736 = .ok (.iload_n 3, 1) := by decide +kernel
theorem dL_law_737 : decode cL_law 737 = .ok (.iconst 2, 1) := by decide +kernel
theorem dL_law_738 : decode cL_law 738 = .ok (.iadd, 1) := by decide +kernel
theorem dL_law_739 : decode cL_law 739 = .ok (.iaload, 1) := by decide +kernel
theorem dL_law_740 : decode cL_law 740 = .ok (.i2l, 1) := by decide +kernel
theorem dL_law_741 : decode cL_law 741 = .ok (.bipush 32, 2) := by decide +kernel
theorem dL_law_743 : decode cL_law 743 = .ok (.lshl, 1) := by decide +kernel
theorem dL_law_744 : decode cL_law 744 = .ok (.aload_n 0, 1) := by decide +kernel
theorem dL_law_745 : decode cL_law 745 = .ok (.iload_n 3, 1) := by decide +kernel
theorem dL_law_746 : decode cL_law 746 = .ok (.iconst 3, 1) := by decide +kernel
theorem dL_law_747 : decode cL_law 747 = .ok (.iadd, 1) := by decide +kernel
theorem dL_law_748 : decode cL_law 748 = .ok (.iaload, 1) := by decide +kernel
theorem dL_law_749 : decode cL_law 749 = .ok (.i2l, 1) := by decide +kernel
theorem dL_law_750 : decode cL_law 750 = .ok (.ldc2_w 32, 3) := by decide +kernel
theorem dL_law_753 : decode cL_law 753 = .ok (.land, 1) := by decide +kernel
theorem dL_law_754 : decode cL_law 754 = .ok (.lor, 1) := by decide +kernel
theorem dL_law_755 : decode cL_law 755 = .ok (.aload_n 0, 1) := by decide +kernel
theorem dL_law_756 : decode cL_law 756 = .ok (.iload_n 3, 1) := by decide +kernel
theorem dL_law_757 : decode cL_law 757 = .ok (.iconst 4, 1) := by decide +kernel
theorem dL_law_758 : decode cL_law 758 = .ok (.iadd, 1) := by decide +kernel
theorem dL_law_759 : decode cL_law 759 = .ok (.iaload, 1) := by decide +kernel
theorem dL_law_760 : decode cL_law 760 = .ok (.invokevirtual 68, 3) := by decide +kernel
theorem dL_law_763 : decode cL_law 763 = .ok (.if_icmp .eq 944, 3) := by decide +kernel
theorem dL_law_766 : decode cL_law 766 = .ok (.iconst 0, 1) := by decide +kernel
theorem dL_law_767 : decode cL_law 767 = .ok (.ireturn, 1) := by decide +kernel
theorem dL_law_768 : decode cL_law 768 = .ok (.aload_n 1, 1) := by decide +kernel
theorem dL_law_769 : decode cL_law 769 = .ok (.aload_n 0, 1) := by decide +kernel
theorem dL_law_770 : decode cL_law 770 = .ok (.iload_n 3, 1) := by decide +kernel
theorem dL_law_771 : decode cL_law 771 = .ok (.iconst 1, 1) := by decide +kernel
theorem dL_law_772 : decode cL_law 772 = .ok (.iadd, 1) := by decide +kernel
theorem dL_law_773 : decode cL_law 773 = .ok (.iaload, 1) := by decide +kernel
theorem dL_law_774 : decode cL_law 774 = .ok (.aload_n 0, 1) := by decide +kernel
theorem dL_law_775 : decode cL_law 775 = .ok (.iload_n 3, 1) := by decide +kernel
theorem dL_law_776 : decode cL_law 776 = .ok (.iconst 2, 1) := by decide +kernel
theorem dL_law_777 : decode cL_law 777 = .ok (.iadd, 1) := by decide +kernel
theorem dL_law_778 : decode cL_law 778 = .ok (.iaload, 1) := by decide +kernel
theorem dL_law_779 : decode cL_law 779 = .ok (.aload_n 0, 1) := by decide +kernel
theorem dL_law_780 : decode cL_law 780 = .ok (.iload_n 3, 1) := by decide +kernel
theorem dL_law_781 : decode cL_law 781 = .ok (.iconst 3, 1) := by decide +kernel
theorem dL_law_782 : decode cL_law 782 = .ok (.iadd, 1) := by decide +kernel
theorem dL_law_783 : decode cL_law 783 = .ok (.iaload, 1) := by decide +kernel
theorem dL_law_784 : decode cL_law 784 = .ok (.i2l, 1) := by decide +kernel
theorem dL_law_785 : decode cL_law 785 = .ok (.bipush 32, 2) := by decide +kernel
theorem dL_law_787 : decode cL_law 787 = .ok (.lshl, 1) := by decide +kernel
theorem dL_law_788 : decode cL_law 788 = .ok (.aload_n 0, 1) := by decide +kernel
theorem dL_law_789 : decode cL_law 789 = .ok (.iload_n 3, 1) := by decide +kernel
theorem dL_law_790 : decode cL_law 790 = .ok (.iconst 4, 1) := by decide +kernel
theorem dL_law_791 : decode cL_law 791 = .ok (.iadd, 1) := by decide +kernel
theorem dL_law_792 : decode cL_law 792 = .ok (.iaload, 1) := by decide +kernel
theorem dL_law_793 : decode cL_law 793 = .ok (.i2l, 1) := by decide +kernel
theorem dL_law_794 : decode cL_law 794 = .ok (.ldc2_w 32, 3) := by decide +kernel
theorem dL_law_797 : decode cL_law 797 = .ok (.land, 1) := by decide +kernel
theorem dL_law_798 : decode cL_law 798 = .ok (.lor, 1) := by decide +kernel
theorem dL_law_799 : decode cL_law 799 = .ok (.invokevirtual 69, 3) := by decide +kernel
theorem dL_law_802 : decode cL_law 802 = .ok (.aload_n 2, 1) := by decide +kernel
theorem dL_law_803 : decode cL_law 803 = .ok (.aload_n 0, 1) := by decide +kernel
theorem dL_law_804 : decode cL_law 804 = .ok (.iload_n 3, 1) := by decide +kernel
theorem dL_law_805 : decode cL_law 805 = .ok (.iconst 1, 1) := by decide +kernel
theorem dL_law_806 : decode cL_law 806 = .ok (.iadd, 1) := by decide +kernel
theorem dL_law_807 : decode cL_law 807 = .ok (.iaload, 1) := by decide +kernel
theorem dL_law_808 : decode cL_law 808 = .ok (.aload_n 0, 1) := by decide +kernel
theorem dL_law_809 : decode cL_law 809 = .ok (.iload_n 3, 1) := by decide +kernel
theorem dL_law_810 : decode cL_law 810 = .ok (.iconst 2, 1) := by decide +kernel
theorem dL_law_811 : decode cL_law 811 = .ok (.iadd, 1) := by decide +kernel
theorem dL_law_812 : decode cL_law 812 = .ok (.iaload, 1) := by decide +kernel
theorem dL_law_813 : decode cL_law 813 = .ok (.aload_n 0, 1) := by decide +kernel
theorem dL_law_814 : decode cL_law 814 = .ok (.iload_n 3, 1) := by decide +kernel
theorem dL_law_815 : decode cL_law 815 = .ok (.iconst 3, 1) := by decide +kernel
theorem dL_law_816 : decode cL_law 816 = .ok (.iadd, 1) := by decide +kernel
theorem dL_law_817 : decode cL_law 817 = .ok (.iaload, 1) := by decide +kernel
theorem dL_law_818 : decode cL_law 818 = .ok (.i2l, 1) := by decide +kernel
theorem dL_law_819 : decode cL_law 819 = .ok (.bipush 32, 2) := by decide +kernel
theorem dL_law_821 : decode cL_law 821 = .ok (.lshl, 1) := by decide +kernel
theorem dL_law_822 : decode cL_law 822 = .ok (.aload_n 0, 1) := by decide +kernel
theorem dL_law_823 : decode cL_law 823 = .ok (.iload_n 3, 1) := by decide +kernel
theorem dL_law_824 : decode cL_law 824 = .ok (.iconst 4, 1) := by decide +kernel
theorem dL_law_825 : decode cL_law 825 = .ok (.iadd, 1) := by decide +kernel
theorem dL_law_826 : decode cL_law 826 = .ok (.iaload, 1) := by decide +kernel
theorem dL_law_827 : decode cL_law 827 = .ok (.i2l, 1) := by decide +kernel
theorem dL_law_828 : decode cL_law 828 = .ok (.ldc2_w 32, 3) := by decide +kernel
theorem dL_law_831 : decode cL_law 831 = .ok (.land, 1) := by decide +kernel
theorem dL_law_832 : decode cL_law 832 = .ok (.lor, 1) := by decide +kernel
theorem dL_law_833 : decode cL_law 833 = .ok (.invokevirtual 73, 3) := by decide +kernel
theorem dL_law_836 : decode cL_law 836 = .ok (.if_icmp .eq 871, 3) := by decide +kernel
theorem dL_law_839 : decode cL_law 839 = .ok (.iconst 0, 1) := by decide +kernel
theorem dL_law_840 : decode cL_law 840 = .ok (.ireturn, 1) := by decide +kernel
theorem dL_law_841 : decode cL_law 841 = .ok (.aload_n 1, 1) := by decide +kernel
theorem dL_law_842 : decode cL_law 842 = .ok (.aload_n 0, 1) := by decide +kernel
theorem dL_law_843 : decode cL_law 843 = .ok (.iload_n 3, 1) := by decide +kernel
theorem dL_law_844 : decode cL_law 844 = .ok (.iconst 1, 1) := by decide +kernel
theorem dL_law_845 : decode cL_law 845 = .ok (.iadd, 1) := by decide +kernel
theorem dL_law_846 : decode cL_law 846 = .ok (.iaload, 1) := by decide +kernel
theorem dL_law_847 : decode cL_law 847 = .ok (.invokevirtual 74, 3) := by decide +kernel
theorem dL_law_850 : decode cL_law 850 = .ok (.aload_n 2, 1) := by decide +kernel
theorem dL_law_851 : decode cL_law 851 = .ok (.aload_n 0, 1) := by decide +kernel
theorem dL_law_852 : decode cL_law 852 = .ok (.iload_n 3, 1) := by decide +kernel
theorem dL_law_853 : decode cL_law 853 = .ok (.iconst 1, 1) := by decide +kernel
theorem dL_law_854 : decode cL_law 854 = .ok (.iadd, 1) := by decide +kernel
theorem dL_law_855 : decode cL_law 855 = .ok (.iaload, 1) := by decide +kernel
theorem dL_law_856 : decode cL_law 856 = .ok (.invokevirtual 77, 3) := by decide +kernel
theorem dL_law_859 : decode cL_law 859 = .ok (.if_icmp .eq 848, 3) := by decide +kernel
theorem dL_law_862 : decode cL_law 862 = .ok (.iconst 0, 1) := by decide +kernel
theorem dL_law_863 : decode cL_law 863 = .ok (.ireturn, 1) := by decide +kernel
theorem dL_law_864 : decode cL_law 864 = .ok (.aload_n 1, 1) := by decide +kernel
theorem dL_law_865 : decode cL_law 865 = .ok (.aload_n 0, 1) := by decide +kernel
theorem dL_law_866 : decode cL_law 866 = .ok (.iload_n 3, 1) := by decide +kernel
theorem dL_law_867 : decode cL_law 867 = .ok (.iconst 1, 1) := by decide +kernel
theorem dL_law_868 : decode cL_law 868 = .ok (.iadd, 1) := by decide +kernel
theorem dL_law_869 : decode cL_law 869 = .ok (.iaload, 1) := by decide +kernel
theorem dL_law_870 : decode cL_law 870 = .ok (.aload_n 0, 1) := by decide +kernel
theorem dL_law_871 : decode cL_law 871 = .ok (.iload_n 3, 1) := by decide +kernel
theorem dL_law_872 : decode cL_law 872 = .ok (.iconst 2, 1) := by decide +kernel
theorem dL_law_873 : decode cL_law 873 = .ok (.iadd, 1) := by decide +kernel
theorem dL_law_874 : decode cL_law 874 = .ok (.iaload, 1) := by decide +kernel
theorem dL_law_875 : decode cL_law 875 = .ok (.invokevirtual 78, 3) := by decide +kernel
theorem dL_law_878 : decode cL_law 878 = .ok (.aload_n 2, 1) := by decide +kernel
theorem dL_law_879 : decode cL_law 879 = .ok (.aload_n 0, 1) := by decide +kernel
theorem dL_law_880 : decode cL_law 880 = .ok (.iload_n 3, 1) := by decide +kernel
theorem dL_law_881 : decode cL_law 881 = .ok (.iconst 1, 1) := by decide +kernel
theorem dL_law_882 : decode cL_law 882 = .ok (.iadd, 1) := by decide +kernel
theorem dL_law_883 : decode cL_law 883 = .ok (.iaload, 1) := by decide +kernel
theorem dL_law_884 : decode cL_law 884 = .ok (.aload_n 0, 1) := by decide +kernel
theorem dL_law_885 : decode cL_law 885 = .ok (.iload_n 3, 1) := by decide +kernel
theorem dL_law_886 : decode cL_law 886 = .ok (.iconst 2, 1) := by decide +kernel
theorem dL_law_887 : decode cL_law 887 = .ok (.iadd, 1) := by decide +kernel
theorem dL_law_888 : decode cL_law 888 = .ok (.iaload, 1) := by decide +kernel
theorem dL_law_889 : decode cL_law 889 = .ok (.invokevirtual 81, 3) := by decide +kernel
theorem dL_law_892 : decode cL_law 892 = .ok (.if_icmp .eq 815, 3) := by decide +kernel
theorem dL_law_895 : decode cL_law 895 = .ok (.iconst 0, 1) := by decide +kernel
theorem dL_law_896 : decode cL_law 896 = .ok (.ireturn, 1) := by decide +kernel
theorem dL_law_897 : decode cL_law 897 = .ok (.aload_n 1, 1) := by decide +kernel
theorem dL_law_898 : decode cL_law 898 = .ok (.aload_n 0, 1) := by decide +kernel
theorem dL_law_899 : decode cL_law 899 = .ok (.iload_n 3, 1) := by decide +kernel
theorem dL_law_900 : decode cL_law 900 = .ok (.iconst 1, 1) := by decide +kernel
theorem dL_law_901 : decode cL_law 901 = .ok (.iadd, 1) := by decide +kernel
theorem dL_law_902 : decode cL_law 902 = .ok (.iaload, 1) := by decide +kernel
theorem dL_law_903 : decode cL_law 903 = .ok (.invokevirtual 82, 3) := by decide +kernel
theorem dL_law_906 : decode cL_law 906 = .ok (.aload_n 2, 1) := by decide +kernel
theorem dL_law_907 : decode cL_law 907 = .ok (.aload_n 0, 1) := by decide +kernel
theorem dL_law_908 : decode cL_law 908 = .ok (.iload_n 3, 1) := by decide +kernel
theorem dL_law_909 : decode cL_law 909 = .ok (.iconst 1, 1) := by decide +kernel
theorem dL_law_910 : decode cL_law 910 = .ok (.iadd, 1) := by decide +kernel
theorem dL_law_911 : decode cL_law 911 = .ok (.iaload, 1) := by decide +kernel
theorem dL_law_912 : decode cL_law 912 = .ok (.invokevirtual 85, 3) := by decide +kernel
theorem dL_law_915 : decode cL_law 915 = .ok (.if_icmp .eq 792, 3) := by decide +kernel
theorem dL_law_918 : decode cL_law 918 = .ok (.iconst 0, 1) := by decide +kernel
theorem dL_law_919 : decode cL_law 919 = .ok (.ireturn, 1) := by decide +kernel
theorem dL_law_920 : decode cL_law 920 = .ok (.aload_n 1, 1) := by decide +kernel
theorem dL_law_921 : decode cL_law 921 = .ok (.aload_n 0, 1) := by decide +kernel
theorem dL_law_922 : decode cL_law 922 = .ok (.iload_n 3, 1) := by decide +kernel
theorem dL_law_923 : decode cL_law 923 = .ok (.iconst 1, 1) := by decide +kernel
theorem dL_law_924 : decode cL_law 924 = .ok (.iadd, 1) := by decide +kernel
theorem dL_law_925 : decode cL_law 925 = .ok (.iaload, 1) := by decide +kernel
theorem dL_law_926 : decode cL_law 926 = .ok (.aload_n 0, 1) := by decide +kernel
theorem dL_law_927 : decode cL_law 927 = .ok (.iload_n 3, 1) := by decide +kernel
theorem dL_law_928 : decode cL_law 928 = .ok (.iconst 2, 1) := by decide +kernel
theorem dL_law_929 : decode cL_law 929 = .ok (.iadd, 1) := by decide +kernel
theorem dL_law_930 : decode cL_law 930 = .ok (.iaload, 1) := by decide +kernel
theorem dL_law_931 : decode cL_law 931 = .ok (.invokevirtual 86, 3) := by decide +kernel
theorem dL_law_934 : decode cL_law 934 = .ok (.aload_n 2, 1) := by decide +kernel
theorem dL_law_935 : decode cL_law 935 = .ok (.aload_n 0, 1) := by decide +kernel
theorem dL_law_936 : decode cL_law 936 = .ok (.iload_n 3, 1) := by decide +kernel
theorem dL_law_937 : decode cL_law 937 = .ok (.iconst 1, 1) := by decide +kernel
theorem dL_law_938 : decode cL_law 938 = .ok (.iadd, 1) := by decide +kernel
theorem dL_law_939 : decode cL_law 939 = .ok (.iaload, 1) := by decide +kernel
theorem dL_law_940 : decode cL_law 940 = .ok (.aload_n 0, 1) := by decide +kernel
theorem dL_law_941 : decode cL_law 941 = .ok (.iload_n 3, 1) := by decide +kernel
theorem dL_law_942 : decode cL_law 942 = .ok (.iconst 2, 1) := by decide +kernel
theorem dL_law_943 : decode cL_law 943 = .ok (.iadd, 1) := by decide +kernel
theorem dL_law_944 : decode cL_law 944 = .ok (.iaload, 1) := by decide +kernel
theorem dL_law_945 : decode cL_law 945 = .ok (.invokevirtual 89, 3) := by decide +kernel
theorem dL_law_948 : decode cL_law 948 = .ok (.if_icmp .eq 759, 3) := by decide +kernel
theorem dL_law_951 : decode cL_law 951 = .ok (.iconst 0, 1) := by decide +kernel
theorem dL_law_952 : decode cL_law 952 = .ok (.ireturn, 1) := by decide +kernel
theorem dL_law_953 : decode cL_law 953 = .ok (.aload_n 1, 1) := by decide +kernel
theorem dL_law_954 : decode cL_law 954 = .ok (.aload_n 0, 1) := by decide +kernel
theorem dL_law_955 : decode cL_law 955 = .ok (.iload_n 3, 1) := by decide +kernel
theorem dL_law_956 : decode cL_law 956 = .ok (.iconst 1, 1) := by decide +kernel
theorem dL_law_957 : decode cL_law 957 = .ok (.iadd, 1) := by decide +kernel
theorem dL_law_958 : decode cL_law 958 = .ok (.iaload, 1) := by decide +kernel
theorem dL_law_959 : decode cL_law 959 = .ok (.aload_n 0, 1) := by decide +kernel
theorem dL_law_960 : decode cL_law 960 = .ok (.iload_n 3, 1) := by decide +kernel
theorem dL_law_961 : decode cL_law 961 = .ok (.iconst 2, 1) := by decide +kernel
theorem dL_law_962 : decode cL_law 962 = .ok (.iadd, 1) := by decide +kernel
theorem dL_law_963 : decode cL_law 963 = .ok (.iaload, 1) := by decide +kernel
theorem dL_law_964 : decode cL_law 964 = .ok (.invokevirtual 90, 3) := by decide +kernel
theorem dL_law_967 : decode cL_law 967 = .ok (.aload_n 2, 1) := by decide +kernel
theorem dL_law_968 : decode cL_law 968 = .ok (.aload_n 0, 1) := by decide +kernel
theorem dL_law_969 : decode cL_law 969 = .ok (.iload_n 3, 1) := by decide +kernel
theorem dL_law_970 : decode cL_law 970 = .ok (.iconst 1, 1) := by decide +kernel
theorem dL_law_971 : decode cL_law 971 = .ok (.iadd, 1) := by decide +kernel
theorem dL_law_972 : decode cL_law 972 = .ok (.iaload, 1) := by decide +kernel
theorem dL_law_973 : decode cL_law 973 = .ok (.aload_n 0, 1) := by decide +kernel
theorem dL_law_974 : decode cL_law 974 = .ok (.iload_n 3, 1) := by decide +kernel
theorem dL_law_975 : decode cL_law 975 = .ok (.iconst 2, 1) := by decide +kernel
theorem dL_law_976 : decode cL_law 976 = .ok (.iadd, 1) := by decide +kernel
theorem dL_law_977 : decode cL_law 977 = .ok (.iaload, 1) := by decide +kernel
theorem dL_law_978 : decode cL_law 978 = .ok (.invokevirtual 94, 3) := by decide +kernel
theorem dL_law_981 : decode cL_law 981 = .ok (.if_icmp .eq 726, 3) := by decide +kernel
theorem dL_law_984 : decode cL_law 984 = .ok (.iconst 0, 1) := by decide +kernel
theorem dL_law_985 : decode cL_law 985 = .ok (.ireturn, 1) := by decide +kernel
theorem dL_law_986 : decode cL_law 986 = .ok (.aload_n 1, 1) := by decide +kernel
theorem dL_law_987 : decode cL_law 987 = .ok (.aload_n 0, 1) := by decide +kernel
theorem dL_law_988 : decode cL_law 988 = .ok (.iload_n 3, 1) := by decide +kernel
theorem dL_law_989 : decode cL_law 989 = .ok (.iconst 1, 1) := by decide +kernel
theorem dL_law_990 : decode cL_law 990 = .ok (.iadd, 1) := by decide +kernel
theorem dL_law_991 : decode cL_law 991 = .ok (.iaload, 1) := by decide +kernel
theorem dL_law_992 : decode cL_law 992 = .ok (.aload_n 0, 1) := by decide +kernel
theorem dL_law_993 : decode cL_law 993 = .ok (.iload_n 3, 1) := by decide +kernel
theorem dL_law_994 : decode cL_law 994 = .ok (.iconst 2, 1) := by decide +kernel
theorem dL_law_995 : decode cL_law 995 = .ok (.iadd, 1) := by decide +kernel
theorem dL_law_996 : decode cL_law 996 = .ok (.iaload, 1) := by decide +kernel
theorem dL_law_997 : decode cL_law 997 = .ok (.aload_n 0, 1) := by decide +kernel
theorem dL_law_998 : decode cL_law 998 = .ok (.iload_n 3, 1) := by decide +kernel
theorem dL_law_999 : decode cL_law 999 = .ok (.iconst 3, 1) := by decide +kernel
theorem dL_law_1000 : decode cL_law 1000 = .ok (.iadd, 1) := by decide +kernel
theorem dL_law_1001 : decode cL_law 1001 = .ok (.iaload, 1) := by decide +kernel
theorem dL_law_1002 : decode cL_law 1002 = .ok (.invokevirtual 95, 3) := by decide +kernel
theorem dL_law_1005 : decode cL_law 1005 = .ok (.aload_n 2, 1) := by decide +kernel
theorem dL_law_1006 : decode cL_law 1006 = .ok (.aload_n 0, 1) := by decide +kernel
theorem dL_law_1007 : decode cL_law 1007 = .ok (.iload_n 3, 1) := by decide +kernel
theorem dL_law_1008 : decode cL_law 1008 = .ok (.iconst 1, 1) := by decide +kernel
theorem dL_law_1009 : decode cL_law 1009 = .ok (.iadd, 1) := by decide +kernel
theorem dL_law_1010 : decode cL_law 1010 = .ok (.iaload, 1) := by decide +kernel
theorem dL_law_1011 : decode cL_law 1011 = .ok (.aload_n 0, 1) := by decide +kernel
theorem dL_law_1012 : decode cL_law 1012 = .ok (.iload_n 3, 1) := by decide +kernel
theorem dL_law_1013 : decode cL_law 1013 = .ok (.iconst 2, 1) := by decide +kernel
theorem dL_law_1014 : decode cL_law 1014 = .ok (.iadd, 1) := by decide +kernel
theorem dL_law_1015 : decode cL_law 1015 = .ok (.iaload, 1) := by decide +kernel
theorem dL_law_1016 : decode cL_law 1016 = .ok (.aload_n 0, 1) := by decide +kernel
theorem dL_law_1017 : decode cL_law 1017 = .ok (.iload_n 3, 1) := by decide +kernel
theorem dL_law_1018 : decode cL_law 1018 = .ok (.iconst 3, 1) := by decide +kernel
theorem dL_law_1019 : decode cL_law 1019 = .ok (.iadd, 1) := by decide +kernel
theorem dL_law_1020 : decode cL_law 1020 = .ok (.iaload, 1) := by decide +kernel
theorem dL_law_1021 : decode cL_law 1021 = .ok (.invokevirtual 99, 3) := by decide +kernel
theorem dL_law_1024 : decode cL_law 1024 = .ok (.if_icmp .eq 683, 3) := by decide +kernel
theorem dL_law_1027 : decode cL_law 1027 = .ok (.iconst 0, 1) := by decide +kernel
theorem dL_law_1028 : decode cL_law 1028 = .ok (.ireturn, 1) := by decide +kernel
theorem dL_law_1029 : decode cL_law 1029 = .ok (.aload_n 1, 1) := by decide +kernel
theorem dL_law_1030 : decode cL_law 1030 = .ok (.aload_n 0, 1) := by decide +kernel
theorem dL_law_1031 : decode cL_law 1031 = .ok (.iload_n 3, 1) := by decide +kernel
theorem dL_law_1032 : decode cL_law 1032 = .ok (.iconst 1, 1) := by decide +kernel
theorem dL_law_1033 : decode cL_law 1033 = .ok (.iadd, 1) := by decide +kernel
theorem dL_law_1034 : decode cL_law 1034 = .ok (.iaload, 1) := by decide +kernel
theorem dL_law_1035 : decode cL_law 1035 = .ok (.aload_n 0, 1) := by decide +kernel
theorem dL_law_1036 : decode cL_law 1036 = .ok (.iload_n 3, 1) := by decide +kernel
theorem dL_law_1037 : decode cL_law 1037 = .ok (.iconst 2, 1) := by decide +kernel
theorem dL_law_1038 : decode cL_law 1038 = .ok (.iadd, 1) := by decide +kernel
theorem dL_law_1039 : decode cL_law 1039 = .ok (.iaload, 1) := by decide +kernel
theorem dL_law_1040 : decode cL_law 1040 = .ok (.invokevirtual 100, 3) := by decide +kernel
theorem dL_law_1043 : decode cL_law 1043 = .ok (.aload_n 2, 1) := by decide +kernel
theorem dL_law_1044 : decode cL_law 1044 = .ok (.aload_n 0, 1) := by decide +kernel
theorem dL_law_1045 : decode cL_law 1045 = .ok (.iload_n 3, 1) := by decide +kernel
theorem dL_law_1046 : decode cL_law 1046 = .ok (.iconst 1, 1) := by decide +kernel
theorem dL_law_1047 : decode cL_law 1047 = .ok (.iadd, 1) := by decide +kernel
theorem dL_law_1048 : decode cL_law 1048 = .ok (.iaload, 1) := by decide +kernel
theorem dL_law_1049 : decode cL_law 1049 = .ok (.aload_n 0, 1) := by decide +kernel
theorem dL_law_1050 : decode cL_law 1050 = .ok (.iload_n 3, 1) := by decide +kernel
theorem dL_law_1051 : decode cL_law 1051 = .ok (.iconst 2, 1) := by decide +kernel
theorem dL_law_1052 : decode cL_law 1052 = .ok (.iadd, 1) := by decide +kernel
theorem dL_law_1053 : decode cL_law 1053 = .ok (.iaload, 1) := by decide +kernel
theorem dL_law_1054 : decode cL_law 1054 = .ok (.invokevirtual 103, 3) := by decide +kernel
theorem dL_law_1057 : decode cL_law 1057 = .ok (.if_icmp .eq 650, 3) := by decide +kernel
theorem dL_law_1060 : decode cL_law 1060 = .ok (.iconst 0, 1) := by decide +kernel
theorem dL_law_1061 : decode cL_law 1061 = .ok (.ireturn, 1) := by decide +kernel
theorem dL_law_1062 : decode cL_law 1062 = .ok (.aload_n 1, 1) := by decide +kernel
theorem dL_law_1063 : decode cL_law 1063 = .ok (.aload_n 0, 1) := by decide +kernel
theorem dL_law_1064 : decode cL_law 1064 = .ok (.iload_n 3, 1) := by decide +kernel
theorem dL_law_1065 : decode cL_law 1065 = .ok (.iconst 1, 1) := by decide +kernel
theorem dL_law_1066 : decode cL_law 1066 = .ok (.iadd, 1) := by decide +kernel
theorem dL_law_1067 : decode cL_law 1067 = .ok (.iaload, 1) := by decide +kernel
theorem dL_law_1068 : decode cL_law 1068 = .ok (.aload_n 0, 1) := by decide +kernel
theorem dL_law_1069 : decode cL_law 1069 = .ok (.iload_n 3, 1) := by decide +kernel
theorem dL_law_1070 : decode cL_law 1070 = .ok (.iconst 2, 1) := by decide +kernel
theorem dL_law_1071 : decode cL_law 1071 = .ok (.iadd, 1) := by decide +kernel
theorem dL_law_1072 : decode cL_law 1072 = .ok (.iaload, 1) := by decide +kernel
theorem dL_law_1073 : decode cL_law 1073 = .ok (.invokevirtual 104, 3) := by decide +kernel
theorem dL_law_1076 : decode cL_law 1076 = .ok (.aload_n 2, 1) := by decide +kernel
theorem dL_law_1077 : decode cL_law 1077 = .ok (.aload_n 0, 1) := by decide +kernel
theorem dL_law_1078 : decode cL_law 1078 = .ok (.iload_n 3, 1) := by decide +kernel
theorem dL_law_1079 : decode cL_law 1079 = .ok (.iconst 1, 1) := by decide +kernel
theorem dL_law_1080 : decode cL_law 1080 = .ok (.iadd, 1) := by decide +kernel
theorem dL_law_1081 : decode cL_law 1081 = .ok (.iaload, 1) := by decide +kernel
theorem dL_law_1082 : decode cL_law 1082 = .ok (.aload_n 0, 1) := by decide +kernel
theorem dL_law_1083 : decode cL_law 1083 = .ok (.iload_n 3, 1) := by decide +kernel
theorem dL_law_1084 : decode cL_law 1084 = .ok (.iconst 2, 1) := by decide +kernel
theorem dL_law_1085 : decode cL_law 1085 = .ok (.iadd, 1) := by decide +kernel
theorem dL_law_1086 : decode cL_law 1086 = .ok (.iaload, 1) := by decide +kernel
theorem dL_law_1087 : decode cL_law 1087 = .ok (.invokevirtual 107, 3) := by decide +kernel
theorem dL_law_1090 : decode cL_law 1090 = .ok (.if_icmp .eq 617, 3) := by decide +kernel
theorem dL_law_1093 : decode cL_law 1093 = .ok (.iconst 0, 1) := by decide +kernel
theorem dL_law_1094 : decode cL_law 1094 = .ok (.ireturn, 1) := by decide +kernel
theorem dL_law_1095 : decode cL_law 1095 = .ok (.aload_n 1, 1) := by decide +kernel
theorem dL_law_1096 : decode cL_law 1096 = .ok (.aload_n 0, 1) := by decide +kernel
theorem dL_law_1097 : decode cL_law 1097 = .ok (.iload_n 3, 1) := by decide +kernel
theorem dL_law_1098 : decode cL_law 1098 = .ok (.iconst 1, 1) := by decide +kernel
theorem dL_law_1099 : decode cL_law 1099 = .ok (.iadd, 1) := by decide +kernel
theorem dL_law_1100 : decode cL_law 1100 = .ok (.iaload, 1) := by decide +kernel
theorem dL_law_1101 : decode cL_law 1101 = .ok (.aload_n 0, 1) := by decide +kernel
theorem dL_law_1102 : decode cL_law 1102 = .ok (.iload_n 3, 1) := by decide +kernel
theorem dL_law_1103 : decode cL_law 1103 = .ok (.iconst 2, 1) := by decide +kernel
theorem dL_law_1104 : decode cL_law 1104 = .ok (.iadd, 1) := by decide +kernel
theorem dL_law_1105 : decode cL_law 1105 = .ok (.iaload, 1) := by decide +kernel
theorem dL_law_1106 : decode cL_law 1106 = .ok (.aload_n 0, 1) := by decide +kernel
theorem dL_law_1107 : decode cL_law 1107 = .ok (.iload_n 3, 1) := by decide +kernel
theorem dL_law_1108 : decode cL_law 1108 = .ok (.iconst 3, 1) := by decide +kernel
theorem dL_law_1109 : decode cL_law 1109 = .ok (.iadd, 1) := by decide +kernel
theorem dL_law_1110 : decode cL_law 1110 = .ok (.iaload, 1) := by decide +kernel
theorem dL_law_1111 : decode cL_law 1111 = .ok (.aload_n 0, 1) := by decide +kernel
theorem dL_law_1112 : decode cL_law 1112 = .ok (.iload_n 3, 1) := by decide +kernel
theorem dL_law_1113 : decode cL_law 1113 = .ok (.iconst 4, 1) := by decide +kernel
theorem dL_law_1114 : decode cL_law 1114 = .ok (.iadd, 1) := by decide +kernel
theorem dL_law_1115 : decode cL_law 1115 = .ok (.iaload, 1) := by decide +kernel
theorem dL_law_1116 : decode cL_law 1116 = .ok (.invokevirtual 108, 3) := by decide +kernel
theorem dL_law_1119 : decode cL_law 1119 = .ok (.aload_n 2, 1) := by decide +kernel
theorem dL_law_1120 : decode cL_law 1120 = .ok (.aload_n 0, 1) := by decide +kernel
theorem dL_law_1121 : decode cL_law 1121 = .ok (.iload_n 3, 1) := by decide +kernel
theorem dL_law_1122 : decode cL_law 1122 = .ok (.iconst 1, 1) := by decide +kernel
theorem dL_law_1123 : decode cL_law 1123 = .ok (.iadd, 1) := by decide +kernel
theorem dL_law_1124 : decode cL_law 1124 = .ok (.iaload, 1) := by decide +kernel
theorem dL_law_1125 : decode cL_law 1125 = .ok (.aload_n 0, 1) := by decide +kernel
theorem dL_law_1126 : decode cL_law 1126 = .ok (.iload_n 3, 1) := by decide +kernel
theorem dL_law_1127 : decode cL_law 1127 = .ok (.iconst 2, 1) := by decide +kernel
theorem dL_law_1128 : decode cL_law 1128 = .ok (.iadd, 1) := by decide +kernel
theorem dL_law_1129 : decode cL_law 1129 = .ok (.iaload, 1) := by decide +kernel
theorem dL_law_1130 : decode cL_law 1130 = .ok (.aload_n 0, 1) := by decide +kernel
theorem dL_law_1131 : decode cL_law 1131 = .ok (.iload_n 3, 1) := by decide +kernel
theorem dL_law_1132 : decode cL_law 1132 = .ok (.iconst 3, 1) := by decide +kernel
theorem dL_law_1133 : decode cL_law 1133 = .ok (.iadd, 1) := by decide +kernel
theorem dL_law_1134 : decode cL_law 1134 = .ok (.iaload, 1) := by decide +kernel
theorem dL_law_1135 : decode cL_law 1135 = .ok (.aload_n 0, 1) := by decide +kernel
theorem dL_law_1136 : decode cL_law 1136 = .ok (.iload_n 3, 1) := by decide +kernel
theorem dL_law_1137 : decode cL_law 1137 = .ok (.iconst 4, 1) := by decide +kernel
theorem dL_law_1138 : decode cL_law 1138 = .ok (.iadd, 1) := by decide +kernel
theorem dL_law_1139 : decode cL_law 1139 = .ok (.iaload, 1) := by decide +kernel
theorem dL_law_1140 : decode cL_law 1140 = .ok (.invokevirtual 112, 3) := by decide +kernel
theorem dL_law_1143 : decode cL_law 1143 = .ok (.if_icmp .eq 564, 3) := by decide +kernel
theorem dL_law_1146 : decode cL_law 1146 = .ok (.iconst 0, 1) := by decide +kernel
theorem dL_law_1147 : decode cL_law 1147 = .ok (.ireturn, 1) := by decide +kernel
theorem dL_law_1148 : decode cL_law 1148 = .ok (.aload_n 1, 1) := by decide +kernel
theorem dL_law_1149 : decode cL_law 1149 = .ok (.aload_n 0, 1) := by decide +kernel
theorem dL_law_1150 : decode cL_law 1150 = .ok (.iload_n 3, 1) := by decide +kernel
theorem dL_law_1151 : decode cL_law 1151 = .ok (.iconst 1, 1) := by decide +kernel
theorem dL_law_1152 : decode cL_law 1152 = .ok (.iadd, 1) := by decide +kernel
theorem dL_law_1153 : decode cL_law 1153 = .ok (.iaload, 1) := by decide +kernel
theorem dL_law_1154 : decode cL_law 1154 = .ok (.invokevirtual 113, 3) := by decide +kernel
theorem dL_law_1157 : decode cL_law 1157 = .ok (.aload_n 2, 1) := by decide +kernel
theorem dL_law_1158 : decode cL_law 1158 = .ok (.aload_n 0, 1) := by decide +kernel
theorem dL_law_1159 : decode cL_law 1159 = .ok (.iload_n 3, 1) := by decide +kernel
theorem dL_law_1160 : decode cL_law 1160 = .ok (.iconst 1, 1) := by decide +kernel
theorem dL_law_1161 : decode cL_law 1161 = .ok (.iadd, 1) := by decide +kernel
theorem dL_law_1162 : decode cL_law 1162 = .ok (.iaload, 1) := by decide +kernel
theorem dL_law_1163 : decode cL_law 1163 = .ok (.invokevirtual 116, 3) := by decide +kernel
theorem dL_law_1166 : decode cL_law 1166 = .ok (.if_icmp .eq 541, 3) := by decide +kernel
theorem dL_law_1169 : decode cL_law 1169 = .ok (.iconst 0, 1) := by decide +kernel
theorem dL_law_1170 : decode cL_law 1170 = .ok (.ireturn, 1) := by decide +kernel
theorem dL_law_1171 : decode cL_law 1171 = .ok (.aload_n 1, 1) := by decide +kernel
theorem dL_law_1172 : decode cL_law 1172 = .ok (.aload_n 0, 1) := by decide +kernel
theorem dL_law_1173 : decode cL_law 1173 = .ok (.iload_n 3, 1) := by decide +kernel
theorem dL_law_1174 : decode cL_law 1174 = .ok (.iconst 1, 1) := by decide +kernel
theorem dL_law_1175 : decode cL_law 1175 = .ok (.iadd, 1) := by decide +kernel
theorem dL_law_1176 : decode cL_law 1176 = .ok (.iaload, 1) := by decide +kernel
theorem dL_law_1177 : decode cL_law 1177 = .ok (.aload_n 0, 1) := by decide +kernel
theorem dL_law_1178 : decode cL_law 1178 = .ok (.iload_n 3, 1) := by decide +kernel
theorem dL_law_1179 : decode cL_law 1179 = .ok (.iconst 2, 1) := by decide +kernel
theorem dL_law_1180 : decode cL_law 1180 = .ok (.iadd, 1) := by decide +kernel
theorem dL_law_1181 : decode cL_law 1181 = .ok (.iaload, 1) := by decide +kernel
theorem dL_law_1182 : decode cL_law 1182 = .ok (.aload_n 0, 1) := by decide +kernel
theorem dL_law_1183 : decode cL_law 1183 = .ok (.iload_n 3, 1) := by decide +kernel
theorem dL_law_1184 : decode cL_law 1184 = .ok (.iconst 3, 1) := by decide +kernel
theorem dL_law_1185 : decode cL_law 1185 = .ok (.iadd, 1) := by decide +kernel
theorem dL_law_1186 : decode cL_law 1186 = .ok (.iaload, 1) := by decide +kernel
theorem dL_law_1187 : decode cL_law 1187 = .ok (.i2l, 1) := by decide +kernel
theorem dL_law_1188 : decode cL_law 1188 = .ok (.bipush 32, 2) := by decide +kernel
theorem dL_law_1190 : decode cL_law 1190 = .ok (.lshl, 1) := by decide +kernel
theorem dL_law_1191 : decode cL_law 1191 = .ok (.aload_n 0, 1) := by decide +kernel
theorem dL_law_1192 : decode cL_law 1192 = .ok (.iload_n 3, 1) := by decide +kernel
theorem dL_law_1193 : decode cL_law 1193 = .ok (.iconst 4, 1) := by decide +kernel
theorem dL_law_1194 : decode cL_law 1194 = .ok (.iadd, 1) := by decide +kernel
theorem dL_law_1195 : decode cL_law 1195 = .ok (.iaload, 1) := by decide +kernel
theorem dL_law_1196 : decode cL_law 1196 = .ok (.i2l, 1) := by decide +kernel
theorem dL_law_1197 : decode cL_law 1197 = .ok (.ldc2_w 32, 3) := by decide +kernel
theorem dL_law_1200 : decode cL_law 1200 = .ok (.land, 1) := by decide +kernel
theorem dL_law_1201 : decode cL_law 1201 = .ok (.lor, 1) := by decide +kernel
theorem dL_law_1202 : decode cL_law 1202 = .ok (.aload_n 0, 1) := by decide +kernel
theorem dL_law_1203 : decode cL_law 1203 = .ok (.iload_n 3, 1) := by decide +kernel
theorem dL_law_1204 : decode cL_law 1204 = .ok (.iconst 5, 1) := by decide +kernel
theorem dL_law_1205 : decode cL_law 1205 = .ok (.iadd, 1) := by decide +kernel
theorem dL_law_1206 : decode cL_law 1206 = .ok (.iaload, 1) := by decide +kernel
theorem dL_law_1207 : decode cL_law 1207 = .ok (.i2l, 1) := by decide +kernel
theorem dL_law_1208 : decode cL_law 1208 = .ok (.bipush 32, 2) := by decide +kernel
theorem dL_law_1210 : decode cL_law 1210 = .ok (.lshl, 1) := by decide +kernel
theorem dL_law_1211 : decode cL_law 1211 = .ok (.aload_n 0, 1) := by decide +kernel
theorem dL_law_1212 : decode cL_law 1212 = .ok (.iload_n 3, 1) := by decide +kernel
theorem dL_law_1213 : decode cL_law 1213 = .ok (.bipush 6, 2) := by decide +kernel
theorem dL_law_1215 : decode cL_law 1215 = .ok (.iadd, 1) := by decide +kernel
theorem dL_law_1216 : decode cL_law 1216 = .ok (.iaload, 1) := by decide +kernel
theorem dL_law_1217 : decode cL_law 1217 = .ok (.i2l, 1) := by decide +kernel
theorem dL_law_1218 : decode cL_law 1218 = .ok (.ldc2_w 32, 3) := by decide +kernel
theorem dL_law_1221 : decode cL_law 1221 = .ok (.land, 1) := by decide +kernel
theorem dL_law_1222 : decode cL_law 1222 = .ok (.lor, 1) := by decide +kernel
theorem dL_law_1223 : decode cL_law 1223 = .ok (.invokevirtual 117, 3) := by decide +kernel
theorem dL_law_1226 : decode cL_law 1226 = .ok (.aload_n 2, 1) := by decide +kernel
theorem dL_law_1227 : decode cL_law 1227 = .ok (.aload_n 0, 1) := by decide +kernel
theorem dL_law_1228 : decode cL_law 1228 = .ok (.iload_n 3, 1) := by decide +kernel
theorem dL_law_1229 : decode cL_law 1229 = .ok (.iconst 1, 1) := by decide +kernel
theorem dL_law_1230 : decode cL_law 1230 = .ok (.iadd, 1) := by decide +kernel
theorem dL_law_1231 : decode cL_law 1231 = .ok (.iaload, 1) := by decide +kernel
theorem dL_law_1232 : decode cL_law 1232 = .ok (.aload_n 0, 1) := by decide +kernel
theorem dL_law_1233 : decode cL_law 1233 = .ok (.iload_n 3, 1) := by decide +kernel
theorem dL_law_1234 : decode cL_law 1234 = .ok (.iconst 2, 1) := by decide +kernel
theorem dL_law_1235 : decode cL_law 1235 = .ok (.iadd, 1) := by decide +kernel
theorem dL_law_1236 : decode cL_law 1236 = .ok (.iaload, 1) := by decide +kernel
theorem dL_law_1237 : decode cL_law 1237 = .ok (.aload_n 0, 1) := by decide +kernel
theorem dL_law_1238 : decode cL_law 1238 = .ok (.iload_n 3, 1) := by decide +kernel
theorem dL_law_1239 : decode cL_law 1239 = .ok (.iconst 3, 1) := by decide +kernel
theorem dL_law_1240 : decode cL_law 1240 = .ok (.iadd, 1) := by decide +kernel
theorem dL_law_1241 : decode cL_law 1241 = .ok (.iaload, 1) := by decide +kernel
theorem dL_law_1242 : decode cL_law 1242 = .ok (.i2l, 1) := by decide +kernel
theorem dL_law_1243 : decode cL_law 1243 = .ok (.bipush 32, 2) := by decide +kernel
theorem dL_law_1245 : decode cL_law 1245 = .ok (.lshl, 1) := by decide +kernel
theorem dL_law_1246 : decode cL_law 1246 = .ok (.aload_n 0, 1) := by decide +kernel
theorem dL_law_1247 : decode cL_law 1247 = .ok (.iload_n 3, 1) := by decide +kernel
theorem dL_law_1248 : decode cL_law 1248 = .ok (.iconst 4, 1) := by decide +kernel
theorem dL_law_1249 : decode cL_law 1249 = .ok (.iadd, 1) := by decide +kernel
theorem dL_law_1250 : decode cL_law 1250 = .ok (.iaload, 1) := by decide +kernel
theorem dL_law_1251 : decode cL_law 1251 = .ok (.i2l, 1) := by decide +kernel
theorem dL_law_1252 : decode cL_law 1252 = .ok (.ldc2_w 32, 3) := by decide +kernel
theorem dL_law_1255 : decode cL_law 1255 = .ok (.land, 1) := by decide +kernel
theorem dL_law_1256 : decode cL_law 1256 = .ok (.lor, 1) := by decide +kernel
theorem dL_law_1257 : decode cL_law 1257 = .ok (.aload_n 0, 1) := by decide +kernel
theorem dL_law_1258 : decode cL_law 1258 = .ok (.iload_n 3, 1) := by decide +kernel
theorem dL_law_1259 : decode cL_law 1259 = .ok (.iconst 5, 1) := by decide +kernel
theorem dL_law_1260 : decode cL_law 1260 = .ok (.iadd, 1) := by decide +kernel
theorem dL_law_1261 : decode cL_law 1261 = .ok (.iaload, 1) := by decide +kernel
theorem dL_law_1262 : decode cL_law 1262 = .ok (.i2l, 1) := by decide +kernel
theorem dL_law_1263 : decode cL_law 1263 = .ok (.bipush 32, 2) := by decide +kernel
theorem dL_law_1265 : decode cL_law 1265 = .ok (.lshl, 1) := by decide +kernel
theorem dL_law_1266 : decode cL_law 1266 = .ok (.aload_n 0, 1) := by decide +kernel
theorem dL_law_1267 : decode cL_law 1267 = .ok (.iload_n 3, 1) := by decide +kernel
theorem dL_law_1268 : decode cL_law 1268 = .ok (.bipush 6, 2) := by decide +kernel
theorem dL_law_1270 : decode cL_law 1270 = .ok (.iadd, 1) := by decide +kernel
theorem dL_law_1271 : decode cL_law 1271 = .ok (.iaload, 1) := by decide +kernel
theorem dL_law_1272 : decode cL_law 1272 = .ok (.i2l, 1) := by decide +kernel
theorem dL_law_1273 : decode cL_law 1273 = .ok (.ldc2_w 32, 3) := by decide +kernel
theorem dL_law_1276 : decode cL_law 1276 = .ok (.land, 1) := by decide +kernel
theorem dL_law_1277 : decode cL_law 1277 = .ok (.lor, 1) := by decide +kernel
theorem dL_law_1278 : decode cL_law 1278 = .ok (.invokevirtual 121, 3) := by decide +kernel
theorem dL_law_1281 : decode cL_law 1281 = .ok (.lcmp, 1) := by decide +kernel
theorem dL_law_1282 : decode cL_law 1282 = .ok (.ifCond .eq 425, 3) := by decide +kernel
theorem dL_law_1285 : decode cL_law 1285 = .ok (.iconst 0, 1) := by decide +kernel
theorem dL_law_1286 : decode cL_law 1286 = .ok (.ireturn, 1) := by decide +kernel
theorem dL_law_1287 : decode cL_law 1287 = .ok (.aload_n 1, 1) := by decide +kernel
theorem dL_law_1288 : decode cL_law 1288 = .ok (.aload_n 0, 1) := by decide +kernel
theorem dL_law_1289 : decode cL_law 1289 = .ok (.iload_n 3, 1) := by decide +kernel
theorem dL_law_1290 : decode cL_law 1290 = .ok (.iconst 1, 1) := by decide +kernel
theorem dL_law_1291 : decode cL_law 1291 = .ok (.iadd, 1) := by decide +kernel
theorem dL_law_1292 : decode cL_law 1292 = .ok (.iaload, 1) := by decide +kernel
theorem dL_law_1293 : decode cL_law 1293 = .ok (.aload_n 0, 1) := by decide +kernel
theorem dL_law_1294 : decode cL_law 1294 = .ok (.iload_n 3, 1) := by decide +kernel
theorem dL_law_1295 : decode cL_law 1295 = .ok (.iconst 2, 1) := by decide +kernel
theorem dL_law_1296 : decode cL_law 1296 = .ok (.iadd, 1) := by decide +kernel
theorem dL_law_1297 : decode cL_law 1297 = .ok (.iaload, 1) := by decide +kernel
theorem dL_law_1298 : decode cL_law 1298 = .ok (.aload_n 0, 1) := by decide +kernel
theorem dL_law_1299 : decode cL_law 1299 = .ok (.iload_n 3, 1) := by decide +kernel
theorem dL_law_1300 : decode cL_law 1300 = .ok (.iconst 3, 1) := by decide +kernel
theorem dL_law_1301 : decode cL_law 1301 = .ok (.iadd, 1) := by decide +kernel
theorem dL_law_1302 : decode cL_law 1302 = .ok (.iaload, 1) := by decide +kernel
theorem dL_law_1303 : decode cL_law 1303 = .ok (.i2l, 1) := by decide +kernel
theorem dL_law_1304 : decode cL_law 1304 = .ok (.bipush 32, 2) := by decide +kernel
theorem dL_law_1306 : decode cL_law 1306 = .ok (.lshl, 1) := by decide +kernel
theorem dL_law_1307 : decode cL_law 1307 = .ok (.aload_n 0, 1) := by decide +kernel
theorem dL_law_1308 : decode cL_law 1308 = .ok (.iload_n 3, 1) := by decide +kernel
theorem dL_law_1309 : decode cL_law 1309 = .ok (.iconst 4, 1) := by decide +kernel
theorem dL_law_1310 : decode cL_law 1310 = .ok (.iadd, 1) := by decide +kernel
theorem dL_law_1311 : decode cL_law 1311 = .ok (.iaload, 1) := by decide +kernel
theorem dL_law_1312 : decode cL_law 1312 = .ok (.i2l, 1) := by decide +kernel
theorem dL_law_1313 : decode cL_law 1313 = .ok (.ldc2_w 32, 3) := by decide +kernel
theorem dL_law_1316 : decode cL_law 1316 = .ok (.land, 1) := by decide +kernel
theorem dL_law_1317 : decode cL_law 1317 = .ok (.lor, 1) := by decide +kernel
theorem dL_law_1318 : decode cL_law 1318 = .ok (.aload_n 0, 1) := by decide +kernel
theorem dL_law_1319 : decode cL_law 1319 = .ok (.iload_n 3, 1) := by decide +kernel
theorem dL_law_1320 : decode cL_law 1320 = .ok (.iconst 5, 1) := by decide +kernel
theorem dL_law_1321 : decode cL_law 1321 = .ok (.iadd, 1) := by decide +kernel
theorem dL_law_1322 : decode cL_law 1322 = .ok (.iaload, 1) := by decide +kernel
theorem dL_law_1323 : decode cL_law 1323 = .ok (.i2l, 1) := by decide +kernel
theorem dL_law_1324 : decode cL_law 1324 = .ok (.bipush 32, 2) := by decide +kernel
theorem dL_law_1326 : decode cL_law 1326 = .ok (.lshl, 1) := by decide +kernel
theorem dL_law_1327 : decode cL_law 1327 = .ok (.aload_n 0, 1) := by decide +kernel
theorem dL_law_1328 : decode cL_law 1328 = .ok (.iload_n 3, 1) := by decide +kernel
theorem dL_law_1329 : decode cL_law 1329 = .ok (.bipush 6, 2) := by decide +kernel
theorem dL_law_1331 : decode cL_law 1331 = .ok (.iadd, 1) := by decide +kernel
theorem dL_law_1332 : decode cL_law 1332 = .ok (.iaload, 1) := by decide +kernel
theorem dL_law_1333 : decode cL_law 1333 = .ok (.i2l, 1) := by decide +kernel
theorem dL_law_1334 : decode cL_law 1334 = .ok (.ldc2_w 32, 3) := by decide +kernel
theorem dL_law_1337 : decode cL_law 1337 = .ok (.land, 1) := by decide +kernel
theorem dL_law_1338 : decode cL_law 1338 = .ok (.lor, 1) := by decide +kernel
theorem dL_law_1339 : decode cL_law 1339 = .ok (.invokevirtual 122, 3) := by decide +kernel
theorem dL_law_1342 : decode cL_law 1342 = .ok (.aload_n 2, 1) := by decide +kernel
theorem dL_law_1343 : decode cL_law 1343 = .ok (.aload_n 0, 1) := by decide +kernel
theorem dL_law_1344 : decode cL_law 1344 = .ok (.iload_n 3, 1) := by decide +kernel
theorem dL_law_1345 : decode cL_law 1345 = .ok (.iconst 1, 1) := by decide +kernel
theorem dL_law_1346 : decode cL_law 1346 = .ok (.iadd, 1) := by decide +kernel
theorem dL_law_1347 : decode cL_law 1347 = .ok (.iaload, 1) := by decide +kernel
theorem dL_law_1348 : decode cL_law 1348 = .ok (.aload_n 0, 1) := by decide +kernel
theorem dL_law_1349 : decode cL_law 1349 = .ok (.iload_n 3, 1) := by decide +kernel
theorem dL_law_1350 : decode cL_law 1350 = .ok (.iconst 2, 1) := by decide +kernel
theorem dL_law_1351 : decode cL_law 1351 = .ok (.iadd, 1) := by decide +kernel
theorem dL_law_1352 : decode cL_law 1352 = .ok (.iaload, 1) := by decide +kernel
theorem dL_law_1353 : decode cL_law 1353 = .ok (.aload_n 0, 1) := by decide +kernel
theorem dL_law_1354 : decode cL_law 1354 = .ok (.iload_n 3, 1) := by decide +kernel
theorem dL_law_1355 : decode cL_law 1355 = .ok (.iconst 3, 1) := by decide +kernel
theorem dL_law_1356 : decode cL_law 1356 = .ok (.iadd, 1) := by decide +kernel
theorem dL_law_1357 : decode cL_law 1357 = .ok (.iaload, 1) := by decide +kernel
theorem dL_law_1358 : decode cL_law 1358 = .ok (.i2l, 1) := by decide +kernel
theorem dL_law_1359 : decode cL_law 1359 = .ok (.bipush 32, 2) := by decide +kernel
theorem dL_law_1361 : decode cL_law 1361 = .ok (.lshl, 1) := by decide +kernel
theorem dL_law_1362 : decode cL_law 1362 = .ok (.aload_n 0, 1) := by decide +kernel
theorem dL_law_1363 : decode cL_law 1363 = .ok (.iload_n 3, 1) := by decide +kernel
theorem dL_law_1364 : decode cL_law 1364 = .ok (.iconst 4, 1) := by decide +kernel
theorem dL_law_1365 : decode cL_law 1365 = .ok (.iadd, 1) := by decide +kernel
theorem dL_law_1366 : decode cL_law 1366 = .ok (.iaload, 1) := by decide +kernel
theorem dL_law_1367 : decode cL_law 1367 = .ok (.i2l, 1) := by decide +kernel
theorem dL_law_1368 : decode cL_law 1368 = .ok (.ldc2_w 32, 3) := by decide +kernel
theorem dL_law_1371 : decode cL_law 1371 = .ok (.land, 1) := by decide +kernel
theorem dL_law_1372 : decode cL_law 1372 = .ok (.lor, 1) := by decide +kernel
theorem dL_law_1373 : decode cL_law 1373 = .ok (.aload_n 0, 1) := by decide +kernel
theorem dL_law_1374 : decode cL_law 1374 = .ok (.iload_n 3, 1) := by decide +kernel
theorem dL_law_1375 : decode cL_law 1375 = .ok (.iconst 5, 1) := by decide +kernel
theorem dL_law_1376 : decode cL_law 1376 = .ok (.iadd, 1) := by decide +kernel
theorem dL_law_1377 : decode cL_law 1377 = .ok (.iaload, 1) := by decide +kernel
theorem dL_law_1378 : decode cL_law 1378 = .ok (.i2l, 1) := by decide +kernel
theorem dL_law_1379 : decode cL_law 1379 = .ok (.bipush 32, 2) := by decide +kernel
theorem dL_law_1381 : decode cL_law 1381 = .ok (.lshl, 1) := by decide +kernel
theorem dL_law_1382 : decode cL_law 1382 = .ok (.aload_n 0, 1) := by decide +kernel
theorem dL_law_1383 : decode cL_law 1383 = .ok (.iload_n 3, 1) := by decide +kernel
theorem dL_law_1384 : decode cL_law 1384 = .ok (.bipush 6, 2) := by decide +kernel
theorem dL_law_1386 : decode cL_law 1386 = .ok (.iadd, 1) := by decide +kernel
theorem dL_law_1387 : decode cL_law 1387 = .ok (.iaload, 1) := by decide +kernel
theorem dL_law_1388 : decode cL_law 1388 = .ok (.i2l, 1) := by decide +kernel
theorem dL_law_1389 : decode cL_law 1389 = .ok (.ldc2_w 32, 3) := by decide +kernel
theorem dL_law_1392 : decode cL_law 1392 = .ok (.land, 1) := by decide +kernel
theorem dL_law_1393 : decode cL_law 1393 = .ok (.lor, 1) := by decide +kernel
theorem dL_law_1394 : decode cL_law 1394 = .ok (.invokevirtual 125, 3) := by decide +kernel
theorem dL_law_1397 : decode cL_law 1397 = .ok (.lcmp, 1) := by decide +kernel
theorem dL_law_1398 : decode cL_law 1398 = .ok (.ifCond .eq 309, 3) := by decide +kernel
theorem dL_law_1401 : decode cL_law 1401 = .ok (.iconst 0, 1) := by decide +kernel
theorem dL_law_1402 : decode cL_law 1402 = .ok (.ireturn, 1) := by decide +kernel
theorem dL_law_1403 : decode cL_law 1403 = .ok (.aload_n 1, 1) := by decide +kernel
theorem dL_law_1404 : decode cL_law 1404 = .ok (.aload_n 0, 1) := by decide +kernel
theorem dL_law_1405 : decode cL_law 1405 = .ok (.iload_n 3, 1) := by decide +kernel
theorem dL_law_1406 : decode cL_law 1406 = .ok (.iconst 1, 1) := by decide +kernel
theorem dL_law_1407 : decode cL_law 1407 = .ok (.iadd, 1) := by decide +kernel
theorem dL_law_1408 : decode cL_law 1408 = .ok (.iaload, 1) := by decide +kernel
theorem dL_law_1409 : decode cL_law 1409 = .ok (.invokevirtual 126, 3) := by decide +kernel
theorem dL_law_1412 : decode cL_law 1412 = .ok (.aload_n 2, 1) := by decide +kernel
theorem dL_law_1413 : decode cL_law 1413 = .ok (.aload_n 0, 1) := by decide +kernel
theorem dL_law_1414 : decode cL_law 1414 = .ok (.iload_n 3, 1) := by decide +kernel
theorem dL_law_1415 : decode cL_law 1415 = .ok (.iconst 1, 1) := by decide +kernel
theorem dL_law_1416 : decode cL_law 1416 = .ok (.iadd, 1) := by decide +kernel
theorem dL_law_1417 : decode cL_law 1417 = .ok (.iaload, 1) := by decide +kernel
theorem dL_law_1418 : decode cL_law 1418 = .ok (.invokevirtual 130, 3) := by decide +kernel
theorem dL_law_1421 : decode cL_law 1421 = .ok (.lcmp, 1) := by decide +kernel
theorem dL_law_1422 : decode cL_law 1422 = .ok (.ifCond .eq 285, 3) := by decide +kernel
theorem dL_law_1425 : decode cL_law 1425 = .ok (.iconst 0, 1) := by decide +kernel
theorem dL_law_1426 : decode cL_law 1426 = .ok (.ireturn, 1) := by decide +kernel
theorem dL_law_1427 : decode cL_law 1427 = .ok (.aload_n 1, 1) := by decide +kernel
theorem dL_law_1428 : decode cL_law 1428 = .ok (.aload_n 0, 1) := by decide +kernel
theorem dL_law_1429 : decode cL_law 1429 = .ok (.iload_n 3, 1) := by decide +kernel
theorem dL_law_1430 : decode cL_law 1430 = .ok (.iconst 1, 1) := by decide +kernel
theorem dL_law_1431 : decode cL_law 1431 = .ok (.iadd, 1) := by decide +kernel
theorem dL_law_1432 : decode cL_law 1432 = .ok (.iaload, 1) := by decide +kernel
theorem dL_law_1433 : decode cL_law 1433 = .ok (.aload_n 0, 1) := by decide +kernel
theorem dL_law_1434 : decode cL_law 1434 = .ok (.iload_n 3, 1) := by decide +kernel
theorem dL_law_1435 : decode cL_law 1435 = .ok (.iconst 2, 1) := by decide +kernel
theorem dL_law_1436 : decode cL_law 1436 = .ok (.iadd, 1) := by decide +kernel
theorem dL_law_1437 : decode cL_law 1437 = .ok (.iaload, 1) := by decide +kernel
theorem dL_law_1438 : decode cL_law 1438 = .ok (.i2l, 1) := by decide +kernel
theorem dL_law_1439 : decode cL_law 1439 = .ok (.bipush 32, 2) := by decide +kernel
theorem dL_law_1441 : decode cL_law 1441 = .ok (.lshl, 1) := by decide +kernel
theorem dL_law_1442 : decode cL_law 1442 = .ok (.aload_n 0, 1) := by decide +kernel
theorem dL_law_1443 : decode cL_law 1443 = .ok (.iload_n 3, 1) := by decide +kernel
theorem dL_law_1444 : decode cL_law 1444 = .ok (.iconst 3, 1) := by decide +kernel
theorem dL_law_1445 : decode cL_law 1445 = .ok (.iadd, 1) := by decide +kernel
theorem dL_law_1446 : decode cL_law 1446 = .ok (.iaload, 1) := by decide +kernel
theorem dL_law_1447 : decode cL_law 1447 = .ok (.i2l, 1) := by decide +kernel
theorem dL_law_1448 : decode cL_law 1448 = .ok (.ldc2_w 32, 3) := by decide +kernel
theorem dL_law_1451 : decode cL_law 1451 = .ok (.land, 1) := by decide +kernel
theorem dL_law_1452 : decode cL_law 1452 = .ok (.lor, 1) := by decide +kernel
theorem dL_law_1453 : decode cL_law 1453 = .ok (.invokevirtual 131, 3) := by decide +kernel
theorem dL_law_1456 : decode cL_law 1456 = .ok (.aload_n 2, 1) := by decide +kernel
theorem dL_law_1457 : decode cL_law 1457 = .ok (.aload_n 0, 1) := by decide +kernel
theorem dL_law_1458 : decode cL_law 1458 = .ok (.iload_n 3, 1) := by decide +kernel
theorem dL_law_1459 : decode cL_law 1459 = .ok (.iconst 1, 1) := by decide +kernel
theorem dL_law_1460 : decode cL_law 1460 = .ok (.iadd, 1) := by decide +kernel
theorem dL_law_1461 : decode cL_law 1461 = .ok (.iaload, 1) := by decide +kernel
theorem dL_law_1462 : decode cL_law 1462 = .ok (.aload_n 0, 1) := by decide +kernel
theorem dL_law_1463 : decode cL_law 1463 = .ok (.iload_n 3, 1) := by decide +kernel
theorem dL_law_1464 : decode cL_law 1464 = .ok (.iconst 2, 1) := by decide +kernel
theorem dL_law_1465 : decode cL_law 1465 = .ok (.iadd, 1) := by decide +kernel
theorem dL_law_1466 : decode cL_law 1466 = .ok (.iaload, 1) := by decide +kernel
theorem dL_law_1467 : decode cL_law 1467 = .ok (.i2l, 1) := by decide +kernel
theorem dL_law_1468 : decode cL_law 1468 = .ok (.bipush 32, 2) := by decide +kernel
theorem dL_law_1470 : decode cL_law 1470 = .ok (.lshl, 1) := by decide +kernel
theorem dL_law_1471 : decode cL_law 1471 = .ok (.aload_n 0, 1) := by decide +kernel
theorem dL_law_1472 : decode cL_law 1472 = .ok (.iload_n 3, 1) := by decide +kernel
theorem dL_law_1473 : decode cL_law 1473 = .ok (.iconst 3, 1) := by decide +kernel
theorem dL_law_1474 : decode cL_law 1474 = .ok (.iadd, 1) := by decide +kernel
theorem dL_law_1475 : decode cL_law 1475 = .ok (.iaload, 1) := by decide +kernel
theorem dL_law_1476 : decode cL_law 1476 = .ok (.i2l, 1) := by decide +kernel
theorem dL_law_1477 : decode cL_law 1477 = .ok (.ldc2_w 32, 3) := by decide +kernel
theorem dL_law_1480 : decode cL_law 1480 = .ok (.land, 1) := by decide +kernel
theorem dL_law_1481 : decode cL_law 1481 = .ok (.lor, 1) := by decide +kernel
theorem dL_law_1482 : decode cL_law 1482 = .ok (.invokevirtual 134, 3) := by decide +kernel
theorem dL_law_1485 : decode cL_law 1485 = .ok (.if_icmp .eq 222, 3) := by decide +kernel
theorem dL_law_1488 : decode cL_law 1488 = .ok (.iconst 0, 1) := by decide +kernel
theorem dL_law_1489 : decode cL_law 1489 = .ok (.ireturn, 1) := by decide +kernel
theorem dL_law_1490 : decode cL_law 1490 = .ok (.aload_n 1, 1) := by decide +kernel
theorem dL_law_1491 : decode cL_law 1491 = .ok (.aload_n 0, 1) := by decide +kernel
theorem dL_law_1492 : decode cL_law 1492 = .ok (.iload_n 3, 1) := by decide +kernel
theorem dL_law_1493 : decode cL_law 1493 = .ok (.iconst 1, 1) := by decide +kernel
theorem dL_law_1494 : decode cL_law 1494 = .ok (.iadd, 1) := by decide +kernel
theorem dL_law_1495 : decode cL_law 1495 = .ok (.iaload, 1) := by decide +kernel
theorem dL_law_1496 : decode cL_law 1496 = .ok (.i2l, 1) := by decide +kernel
theorem dL_law_1497 : decode cL_law 1497 = .ok (.bipush 32, 2) := by decide +kernel
theorem dL_law_1499 : decode cL_law 1499 = .ok (.lshl, 1) := by decide +kernel
theorem dL_law_1500 : decode cL_law 1500 = .ok (.aload_n 0, 1) := by decide +kernel
theorem dL_law_1501 : decode cL_law 1501 = .ok (.iload_n 3, 1) := by decide +kernel
theorem dL_law_1502 : decode cL_law 1502 = .ok (.iconst 2, 1) := by decide +kernel
theorem dL_law_1503 : decode cL_law 1503 = .ok (.iadd, 1) := by decide +kernel
theorem dL_law_1504 : decode cL_law 1504 = .ok (.iaload, 1) := by decide +kernel
theorem dL_law_1505 : decode cL_law 1505 = .ok (.i2l, 1) := by decide +kernel
theorem dL_law_1506 : decode cL_law 1506 = .ok (.ldc2_w 32, 3) := by decide +kernel
theorem dL_law_1509 : decode cL_law 1509 = .ok (.land, 1) := by decide +kernel
theorem dL_law_1510 : decode cL_law 1510 = .ok (.lor, 1) := by decide +kernel
theorem dL_law_1511 : decode cL_law 1511 = .ok (.invokevirtual 135, 3) := by decide +kernel
theorem dL_law_1514 : decode cL_law 1514 = .ok (.aload_n 2, 1) := by decide +kernel
theorem dL_law_1515 : decode cL_law 1515 = .ok (.aload_n 0, 1) := by decide +kernel
theorem dL_law_1516 : decode cL_law 1516 = .ok (.iload_n 3, 1) := by decide +kernel
theorem dL_law_1517 : decode cL_law 1517 = .ok (.iconst 1, 1) := by decide +kernel
theorem dL_law_1518 : decode cL_law 1518 = .ok (.iadd, 1) := by decide +kernel
theorem dL_law_1519 : decode cL_law 1519 = .ok (.iaload, 1) := by decide +kernel
theorem dL_law_1520 : decode cL_law 1520 = .ok (.i2l, 1) := by decide +kernel
theorem dL_law_1521 : decode cL_law 1521 = .ok (.bipush 32, 2) := by decide +kernel
theorem dL_law_1523 : decode cL_law 1523 = .ok (.lshl, 1) := by decide +kernel
theorem dL_law_1524 : decode cL_law 1524 = .ok (.aload_n 0, 1) := by decide +kernel
theorem dL_law_1525 : decode cL_law 1525 = .ok (.iload_n 3, 1) := by decide +kernel
theorem dL_law_1526 : decode cL_law 1526 = .ok (.iconst 2, 1) := by decide +kernel
theorem dL_law_1527 : decode cL_law 1527 = .ok (.iadd, 1) := by decide +kernel
theorem dL_law_1528 : decode cL_law 1528 = .ok (.iaload, 1) := by decide +kernel
theorem dL_law_1529 : decode cL_law 1529 = .ok (.i2l, 1) := by decide +kernel
theorem dL_law_1530 : decode cL_law 1530 = .ok (.ldc2_w 32, 3) := by decide +kernel
theorem dL_law_1533 : decode cL_law 1533 = .ok (.land, 1) := by decide +kernel
theorem dL_law_1534 : decode cL_law 1534 = .ok (.lor, 1) := by decide +kernel
theorem dL_law_1535 : decode cL_law 1535 = .ok (.invokevirtual 139, 3) := by decide +kernel
theorem dL_law_1538 : decode cL_law 1538 = .ok (.if_icmp .eq 169, 3) := by decide +kernel
theorem dL_law_1541 : decode cL_law 1541 = .ok (.iconst 0, 1) := by decide +kernel
theorem dL_law_1542 : decode cL_law 1542 = .ok (.ireturn, 1) := by decide +kernel
theorem dL_law_1543 : decode cL_law 1543 = .ok (.aload_n 1, 1) := by decide +kernel
theorem dL_law_1544 : decode cL_law 1544 = .ok (.aload_n 0, 1) := by decide +kernel
theorem dL_law_1545 : decode cL_law 1545 = .ok (.iload_n 3, 1) := by decide +kernel
theorem dL_law_1546 : decode cL_law 1546 = .ok (.iconst 1, 1) := by decide +kernel
theorem dL_law_1547 : decode cL_law 1547 = .ok (.iadd, 1) := by decide +kernel
theorem dL_law_1548 : decode cL_law 1548 = .ok (.iaload, 1) := by decide +kernel
theorem dL_law_1549 : decode cL_law 1549 = .ok (.invokevirtual 140, 3) := by decide +kernel
theorem dL_law_1552 : decode cL_law 1552 = .ok (.aload_n 2, 1) := by decide +kernel
theorem dL_law_1553 : decode cL_law 1553 = .ok (.aload_n 0, 1) := by decide +kernel
theorem dL_law_1554 : decode cL_law 1554 = .ok (.iload_n 3, 1) := by decide +kernel
theorem dL_law_1555 : decode cL_law 1555 = .ok (.iconst 1, 1) := by decide +kernel
theorem dL_law_1556 : decode cL_law 1556 = .ok (.iadd, 1) := by decide +kernel
theorem dL_law_1557 : decode cL_law 1557 = .ok (.iaload, 1) := by decide +kernel
theorem dL_law_1558 : decode cL_law 1558 = .ok (.invokevirtual 143, 3) := by decide +kernel
theorem dL_law_1561 : decode cL_law 1561 = .ok (.if_icmp .eq 146, 3) := by decide +kernel
theorem dL_law_1564 : decode cL_law 1564 = .ok (.iconst 0, 1) := by decide +kernel
theorem dL_law_1565 : decode cL_law 1565 = .ok (.ireturn, 1) := by decide +kernel
theorem dL_law_1566 : decode cL_law 1566 = .ok (.aload_n 1, 1) := by decide +kernel
theorem dL_law_1567 : decode cL_law 1567 = .ok (.aload_n 0, 1) := by decide +kernel
theorem dL_law_1568 : decode cL_law 1568 = .ok (.iload_n 3, 1) := by decide +kernel
theorem dL_law_1569 : decode cL_law 1569 = .ok (.iconst 1, 1) := by decide +kernel
theorem dL_law_1570 : decode cL_law 1570 = .ok (.iadd, 1) := by decide +kernel
theorem dL_law_1571 : decode cL_law 1571 = .ok (.iaload, 1) := by decide +kernel
theorem dL_law_1572 : decode cL_law 1572 = .ok (.invokevirtual 144, 3) := by decide +kernel
theorem dL_law_1575 : decode cL_law 1575 = .ok (.aload_n 2, 1) := by decide +kernel
theorem dL_law_1576 : decode cL_law 1576 = .ok (.aload_n 0, 1) := by decide +kernel
theorem dL_law_1577 : decode cL_law 1577 = .ok (.iload_n 3, 1) := by decide +kernel
theorem dL_law_1578 : decode cL_law 1578 = .ok (.iconst 1, 1) := by decide +kernel
theorem dL_law_1579 : decode cL_law 1579 = .ok (.iadd, 1) := by decide +kernel
theorem dL_law_1580 : decode cL_law 1580 = .ok (.iaload, 1) := by decide +kernel
theorem dL_law_1581 : decode cL_law 1581 = .ok (.invokevirtual 147, 3) := by decide +kernel
theorem dL_law_1584 : decode cL_law 1584 = .ok (.lcmp, 1) := by decide +kernel
theorem dL_law_1585 : decode cL_law 1585 = .ok (.ifCond .eq 122, 3) := by decide +kernel
theorem dL_law_1588 : decode cL_law 1588 = .ok (.iconst 0, 1) := by decide +kernel
theorem dL_law_1589 : decode cL_law 1589 = .ok (.ireturn, 1) := by decide +kernel
theorem dL_law_1590 : decode cL_law 1590 = .ok (.aload_n 1, 1) := by decide +kernel
theorem dL_law_1591 : decode cL_law 1591 = .ok (.aload_n 0, 1) := by decide +kernel
theorem dL_law_1592 : decode cL_law 1592 = .ok (.iload_n 3, 1) := by decide +kernel
theorem dL_law_1593 : decode cL_law 1593 = .ok (.iconst 1, 1) := by decide +kernel
theorem dL_law_1594 : decode cL_law 1594 = .ok (.iadd, 1) := by decide +kernel
theorem dL_law_1595 : decode cL_law 1595 = .ok (.iaload, 1) := by decide +kernel
theorem dL_law_1596 : decode cL_law 1596 = .ok (.aload_n 0, 1) := by decide +kernel
theorem dL_law_1597 : decode cL_law 1597 = .ok (.iload_n 3, 1) := by decide +kernel
theorem dL_law_1598 : decode cL_law 1598 = .ok (.iconst 2, 1) := by decide +kernel
theorem dL_law_1599 : decode cL_law 1599 = .ok (.iadd, 1) := by decide +kernel
theorem dL_law_1600 : decode cL_law 1600 = .ok (.iaload, 1) := by decide +kernel
theorem dL_law_1601 : decode cL_law 1601 = .ok (.invokevirtual 148, 3) := by decide +kernel
theorem dL_law_1604 : decode cL_law 1604 = .ok (.aload_n 2, 1) := by decide +kernel
theorem dL_law_1605 : decode cL_law 1605 = .ok (.aload_n 0, 1) := by decide +kernel
theorem dL_law_1606 : decode cL_law 1606 = .ok (.iload_n 3, 1) := by decide +kernel
theorem dL_law_1607 : decode cL_law 1607 = .ok (.iconst 1, 1) := by decide +kernel
theorem dL_law_1608 : decode cL_law 1608 = .ok (.iadd, 1) := by decide +kernel
theorem dL_law_1609 : decode cL_law 1609 = .ok (.iaload, 1) := by decide +kernel
theorem dL_law_1610 : decode cL_law 1610 = .ok (.aload_n 0, 1) := by decide +kernel
theorem dL_law_1611 : decode cL_law 1611 = .ok (.iload_n 3, 1) := by decide +kernel
theorem dL_law_1612 : decode cL_law 1612 = .ok (.iconst 2, 1) := by decide +kernel
theorem dL_law_1613 : decode cL_law 1613 = .ok (.iadd, 1) := by decide +kernel
theorem dL_law_1614 : decode cL_law 1614 = .ok (.iaload, 1) := by decide +kernel
theorem dL_law_1615 : decode cL_law 1615 = .ok (.invokevirtual 151, 3) := by decide +kernel
theorem dL_law_1618 : decode cL_law 1618 = .ok (.if_icmp .eq 89, 3) := by decide +kernel
theorem dL_law_1621 : decode cL_law 1621 = .ok (.iconst 0, 1) := by decide +kernel
theorem dL_law_1622 : decode cL_law 1622 = .ok (.ireturn, 1) := by decide +kernel
theorem dL_law_1623 : decode cL_law 1623 = .ok (.aload_n 1, 1) := by decide +kernel
theorem dL_law_1624 : decode cL_law 1624 = .ok (.aload_n 0, 1) := by decide +kernel
theorem dL_law_1625 : decode cL_law 1625 = .ok (.iload_n 3, 1) := by decide +kernel
theorem dL_law_1626 : decode cL_law 1626 = .ok (.iconst 1, 1) := by decide +kernel
theorem dL_law_1627 : decode cL_law 1627 = .ok (.iadd, 1) := by decide +kernel
theorem dL_law_1628 : decode cL_law 1628 = .ok (.iaload, 1) := by decide +kernel
theorem dL_law_1629 : decode cL_law 1629 = .ok (.invokevirtual 152, 3) := by decide +kernel
theorem dL_law_1632 : decode cL_law 1632 = .ok (.aload_n 2, 1) := by decide +kernel
theorem dL_law_1633 : decode cL_law 1633 = .ok (.aload_n 0, 1) := by decide +kernel
theorem dL_law_1634 : decode cL_law 1634 = .ok (.iload_n 3, 1) := by decide +kernel
theorem dL_law_1635 : decode cL_law 1635 = .ok (.iconst 1, 1) := by decide +kernel
theorem dL_law_1636 : decode cL_law 1636 = .ok (.iadd, 1) := by decide +kernel
theorem dL_law_1637 : decode cL_law 1637 = .ok (.iaload, 1) := by decide +kernel
theorem dL_law_1638 : decode cL_law 1638 = .ok (.invokevirtual 155, 3) := by decide +kernel
theorem dL_law_1641 : decode cL_law 1641 = .ok (.lcmp, 1) := by decide +kernel
theorem dL_law_1642 : decode cL_law 1642 = .ok (.ifCond .eq 65, 3) := by decide +kernel
theorem dL_law_1645 : decode cL_law 1645 = .ok (.iconst 0, 1) := by decide +kernel
theorem dL_law_1646 : decode cL_law 1646 = .ok (.ireturn, 1) := by decide +kernel
theorem dL_law_1647 : decode cL_law 1647 = .ok (.aload_n 1, 1) := by decide +kernel
theorem dL_law_1648 : decode cL_law 1648 = .ok (.aload_n 0, 1) := by decide +kernel
theorem dL_law_1649 : decode cL_law 1649 = .ok (.iload_n 3, 1) := by decide +kernel
theorem dL_law_1650 : decode cL_law 1650 = .ok (.iconst 1, 1) := by decide +kernel
theorem dL_law_1651 : decode cL_law 1651 = .ok (.iadd, 1) := by decide +kernel
theorem dL_law_1652 : decode cL_law 1652 = .ok (.iaload, 1) := by decide +kernel
theorem dL_law_1653 : decode cL_law 1653 = .ok (.invokevirtual 156, 3) := by decide +kernel
theorem dL_law_1656 : decode cL_law 1656 = .ok (.aload_n 2, 1) := by decide +kernel
theorem dL_law_1657 : decode cL_law 1657 = .ok (.aload_n 0, 1) := by decide +kernel
theorem dL_law_1658 : decode cL_law 1658 = .ok (.iload_n 3, 1) := by decide +kernel
theorem dL_law_1659 : decode cL_law 1659 = .ok (.iconst 1, 1) := by decide +kernel
theorem dL_law_1660 : decode cL_law 1660 = .ok (.iadd, 1) := by decide +kernel
theorem dL_law_1661 : decode cL_law 1661 = .ok (.iaload, 1) := by decide +kernel
theorem dL_law_1662 : decode cL_law 1662 = .ok (.invokevirtual 159, 3) := by decide +kernel
theorem dL_law_1665 : decode cL_law 1665 = .ok (.lcmp, 1) := by decide +kernel
theorem dL_law_1666 : decode cL_law 1666 = .ok (.ifCond .eq 41, 3) := by decide +kernel
theorem dL_law_1669 : decode cL_law 1669 = .ok (.iconst 0, 1) := by decide +kernel
theorem dL_law_1670 : decode cL_law 1670 = .ok (.ireturn, 1) := by decide +kernel
theorem dL_law_1671 : decode cL_law 1671 = .ok (.aload_n 1, 1) := by decide +kernel
theorem dL_law_1672 : decode cL_law 1672 = .ok (.invokevirtual 160, 3) := by decide +kernel
theorem dL_law_1675 : decode cL_law 1675 = .ok (.aload_n 2, 1) := by decide +kernel
theorem dL_law_1676 : decode cL_law 1676 = .ok (.invokevirtual 164, 3) := by decide +kernel
theorem dL_law_1679 : decode cL_law 1679 = .ok (.if_icmp .eq 28, 3) := by decide +kernel
theorem dL_law_1682 : decode cL_law 1682 = .ok (.iconst 0, 1) := by decide +kernel
theorem dL_law_1683 : decode cL_law 1683 = .ok (.ireturn, 1) := by decide +kernel
theorem dL_law_1684 : decode cL_law 1684 = .ok (.aload_n 1, 1) := by decide +kernel
theorem dL_law_1685 : decode cL_law 1685 = .ok (.aload_n 0, 1) := by decide +kernel
theorem dL_law_1686 : decode cL_law 1686 = .ok (.iload_n 3, 1) := by decide +kernel
theorem dL_law_1687 : decode cL_law 1687 = .ok (.iconst 1, 1) := by decide +kernel
theorem dL_law_1688 : decode cL_law 1688 = .ok (.iadd, 1) := by decide +kernel
theorem dL_law_1689 : decode cL_law 1689 = .ok (.iaload, 1) := by decide +kernel
theorem dL_law_1690 : decode cL_law 1690 = .ok (.invokevirtual 165, 3) := by decide +kernel
theorem dL_law_1693 : decode cL_law 1693 = .ok (.aload_n 2, 1) := by decide +kernel
theorem dL_law_1694 : decode cL_law 1694 = .ok (.aload_n 0, 1) := by decide +kernel
theorem dL_law_1695 : decode cL_law 1695 = .ok (.iload_n 3, 1) := by decide +kernel
theorem dL_law_1696 : decode cL_law 1696 = .ok (.iconst 1, 1) := by decide +kernel
theorem dL_law_1697 : decode cL_law 1697 = .ok (.iadd, 1) := by decide +kernel
theorem dL_law_1698 : decode cL_law 1698 = .ok (.iaload, 1) := by decide +kernel
theorem dL_law_1699 : decode cL_law 1699 = .ok (.invokevirtual 168, 3) := by decide +kernel
theorem dL_law_1702 : decode cL_law 1702 = .ok (.if_icmp .eq 5, 3) := by decide +kernel
theorem dL_law_1705 : decode cL_law 1705 = .ok (.iconst 0, 1) := by decide +kernel
theorem dL_law_1706 : decode cL_law 1706 = .ok (.ireturn, 1) := by decide +kernel
theorem dL_law_1707 : decode cL_law 1707 = .ok (.iinc 3 8, 3) := by decide +kernel
theorem dL_law_1710 : decode cL_law 1710 = .ok (.goto (-1692), 3) := by decide +kernel
theorem dL_law_1713 : decode cL_law 1713 = .ok (.iconst 1, 1) := by decide +kernel
theorem dL_law_1714 : decode cL_law 1714 = .ok (.ireturn, 1) := by decide +kernel
end
